/-! L3: STAGE, POST -/
theorem getD_mem {l : List Int32} {j : Nat} (hj : j < l.length) : l.getD j 0 ∈ l := by
  rw [List.getD_eq_getElem?_getD, List.getElem?_eq_getElem hj]; exact List.getElem_mem hj
theorem mem_getD {l : List Int32} {v : Int32} (h : v ∈ l) : ∃ j, j < l.length ∧ l.getD j 0 = v := by
  obtain ⟨j, hj, e⟩ := List.getElem_of_mem h
  exact ⟨j, hj, by rw [List.getD_eq_getElem?_getD, List.getElem?_eq_getElem hj]; exact e⟩
theorem rw_holds {μ : Mu} {r n : Nat} {lo hi : Int32} {l : List Int32} (h : RwC μ r n lo hi l) (v : Int32) : Rw_holds r n v μ = some (if v ∈ l then 1 else 0, μ) := by
  obtain ⟨h0, h1, h3, hl, hn, hv⟩ := id h
  suffices K : Rw_holds_2 r n v FU (nI 0) μ = some (if v ∈ l then 1 else 0, μ) from K
  unfold Rw_holds_2
  refine lp_fu (F := fun kb => Rw_holds_2b r n kb v) (z := fun _ _ => none) l.length (fun k A => (∀ j, j < k → l.getD j 0 ≠ v) → A (nI k) μ = some (if v ∈ l then 1 else 0, μ)) (by omega) ?_ ?_ 0 (by omega) (fun j hj => absurd hj (by omega))
  · intro A hno
    show Rw_holds_2b r n A v (nI l.length) μ = _
    unfold Rw_holds_2b
    rw [gF_eq, h3, if_pos (nI_le (Nat.le_refl _) (by omega)), if_neg]
    intro q
    obtain ⟨j, hj, e⟩ := mem_getD q
    exact hno j hj e
  · intro k A hk ih hno
    show Rw_holds_2b r n A v (nI k) μ = _
    unfold Rw_holds_2b
    rw [gF_eq, h3, if_neg (nI_ge hk (by omega)), rw_at h k hk, cl_eq]
    by_cases c : l.getD k 0 = v
    · rw [if_pos c, if_pos (by rw [← c]; exact getD_mem hk)]
    · rw [if_neg c, show nI k + 1 = nI (k + 1) from nI_add k 1]
      exact ih (fun j hj => by
        by_cases y : j = k
        · subst y; exact c
        · exact hno j (by omega))
def stS (l : List Int32) (v : Int32) : List Int32 × Int32 := if v ∈ l then (l, nI l.length) else tl0 1 20 6 l v
theorem st_ok {l : List Int32} {v : Int32} (h : RwOk 1 20 l) : RwOk 1 20 (stS l v).1 := by
  unfold stS
  split
  · exact h
  · exact tl0_ok h
theorem c_stage {μ : Mu} {l : List Int32} (h : RwC μ 31 6 1 20 l) (v : Int32) : Ev (Sf_stage 0 v μ) (fun r μ' => r = (stS l v).2 ∧ RwC μ' 31 6 1 20 (stS l v).1) := by
  unfold Sf_stage stS
  simp only [Nat.reduceAdd]
  rw [rw_holds h v, cl_eq]
  by_cases c : v ∈ l
  · rw [if_pos c, if_neg (show ¬ (1 : Int32) = 0 by decide), gF_eq, h.2.2.1, if_pos c]; exact ev_some ⟨rfl, h⟩
  · rw [if_neg c, if_pos rfl, if_neg c]
    obtain ⟨μ1, e, hr⟩ := rw_tell h v
    rw [e, cl_eq]; exact ev_some ⟨rfl, hr⟩
theorem m_stage {ν : Mu} {l : List Int32} (h : RwM ν 59 55 91 6 l) (ok : RwOk 1 20 l) (v : Int32) : Ev (Mo_stage 59 v ν) (fun r ν' => r = (stS l v).2 ∧ RwM ν' 59 55 91 6 (stS l v).1) := by
  have l6 := h.2.1
  unfold Mo_stage stS tl0
  rw [pF_eq]
  have h1 : RwM (up2 ν 59 0 0) 59 55 91 6 l := rwM_congr (up2_off (Or.inr (by omega))) (up2_ne (by omega)) h
  generalize up2 ν 59 0 0 = ν1 at h1
  by_cases c1 : v = -1
  · subst c1
    have hn : ¬ (-1 : Int32) ∈ l := fun q => (ok _ q).1 (by decide)
    rw [if_pos rfl, pF_eq, if_neg hn, if_pos rfl]
    exact ev_some ⟨rfl, up2_same _ _ _ _, by show 0 ≤ 6; omega, by omega, fun j hj => absurd hj (by show ¬ j < 0; omega)⟩
  rw [if_neg c1, isIn_eq, cl_eq]
  by_cases c2 : v < 1 ∨ 20 < v
  · have hn : ¬ v ∈ l := fun q => by
      rcases c2 with z | z
      · exact (ok _ q).1 z
      · exact (ok _ q).2 z
    rw [if_pos c2, if_pos rfl, if_neg hn, if_neg c1, tl_in (by rcases c2 with z | z; exact Or.inl z; exact Or.inr (Or.inl z))]
    exact ev_some ⟨rfl, h1⟩
  rw [if_neg c2, if_neg (show ¬ (1 : Int32) = 0 by decide)]
  have m0 := h1.1
  have vx := h1.2.2.2
  suffices K : Ev (Mo_stage_32 59 v FU (nI 0) ν1) (fun r ν' => r = (if v ∈ l then (l, nI l.length) else if v = -1 then ([], 0) else tl 1 20 6 l v).2 ∧ RwM ν' 59 55 91 6 (if v ∈ l then (l, nI l.length) else if v = -1 then ([], 0) else tl 1 20 6 l v).1) from K
  unfold Mo_stage_32
  refine lp_fu (F := fun kb => Mo_stage_32b 59 kb v) (z := fun _ _ => none) l.length (fun k A => (∀ j, j < k → l.getD j 0 ≠ v) → Ev (A (nI k) ν1) (fun r ν' => r = (if v ∈ l then (l, nI l.length) else if v = -1 then ([], 0) else tl 1 20 6 l v).2 ∧ RwM ν' 59 55 91 6 (if v ∈ l then (l, nI l.length) else if v = -1 then ([], 0) else tl 1 20 6 l v).1)) (by omega) ?_ ?_ 0 (by omega) (fun j hj => absurd hj (by omega))
  · intro A hno
    show Ev (Mo_stage_32b 59 A v (nI l.length) ν1) _
    have hn : ¬ v ∈ l := fun q => by
      obtain ⟨j, hj, e⟩ := mem_getD q
      exact hno j hj e
    unfold Mo_stage_32b
    simp only [Nat.reduceAdd]
    rw [gF_eq, gF_eq, m0, if_pos (nI_le (Nat.le_refl _) (by omega)), if_neg hn, if_neg c1]
    by_cases c3 : 6 ≤ l.length
    · rw [if_pos (show nI l.length = 6 by rw [show l.length = 6 by omega]; rfl), tl_in (Or.inr (Or.inr c3))]
      exact ev_some ⟨rfl, h1⟩
    · rw [if_neg (fun q : nI l.length = 6 => by have := (nI_eq (b := 6) (by omega) (by omega)).mp q; omega), gF_eq, m0, stA_nI (by omega) (by omega), gF_eq, pF_eq, gF_eq, up2_same, up2_off (Or.inl (by omega)), m0, tl_out c2 c3, show nI l.length + 1 = nI (l.length + 1) from nI_add l.length 1]
      exact ev_some ⟨rfl, rwM_push (by omega) h1 (by omega)⟩
  · intro k A hk ih hno
    show Ev (Mo_stage_32b 59 A v (nI k) ν1) _
    unfold Mo_stage_32b
    simp only [Nat.reduceAdd]
    rw [gF_eq, m0, if_neg (nI_ge hk (by omega)), ldA_nI (by omega) (by omega), vx k hk]
    by_cases c : l.getD k 0 = v
    · have hm : v ∈ l := by rw [← c]; exact getD_mem hk
      rw [if_pos c, gF_eq, m0, if_pos hm]; exact ev_some ⟨rfl, h1⟩
    · rw [if_neg c, show nI k + 1 = nI (k + 1) from nI_add k 1]
      exact ih (fun j hj => by
        by_cases y : j = k
        · subst y; exact c
        · exact hno j (by omega))
/-- two rows told at once -/
def boS (a1 b1 a2 b2 : Int32) (n : Nat) (xs ys : List Int32) (v w : Int32) : List Int32 × List Int32 × Int32 := if (v < a1 ∨ b1 < v) ∨ (w < a2 ∨ b2 < w) ∨ n ≤ xs.length then (xs, ys, -1) else (xs ++ [v], ys ++ [w], nI (xs.length + 1))
theorem bo_in {a1 b1 a2 b2 : Int32} {n : Nat} {xs ys : List Int32} {v w : Int32} (c : (v < a1 ∨ b1 < v) ∨ (w < a2 ∨ b2 < w) ∨ n ≤ xs.length) : boS a1 b1 a2 b2 n xs ys v w = (xs, ys, -1) := if_pos c
theorem bo_out {a1 b1 a2 b2 : Int32} {n : Nat} {xs ys : List Int32} {v w : Int32} (c : ¬ ((v < a1 ∨ b1 < v) ∨ (w < a2 ∨ b2 < w) ∨ n ≤ xs.length)) : boS a1 b1 a2 b2 n xs ys v w = (xs ++ [v], ys ++ [w], nI (xs.length + 1)) := if_neg c
theorem c_both {μ : Mu} {f g n : Nat} {a1 b1 a2 b2 : Int32} {xs ys : List Int32} (hx : RwC μ f n a1 b1 xs) (hy : RwC μ g n a2 b2 ys) (hl : ys.length = xs.length) (d : f ≠ g ∧ f ≠ g + 1 ∧ f + 1 ≠ g) (v w : Int32) : Ev (Th_addBoth f n g n v w μ) (fun r μ' => r = (boS a1 b1 a2 b2 n xs ys v w).2.2 ∧ RwC μ' f n a1 b1 (boS a1 b1 a2 b2 n xs ys v w).1 ∧ RwC μ' g n a2 b2 (boS a1 b1 a2 b2 n xs ys v w).2.1) := by
  unfold Th_addBoth
  rw [rw_takes hx v, cl_eq]
  by_cases c1 : v < a1 ∨ b1 < v ∨ n ≤ xs.length
  · rw [if_pos c1, if_pos rfl, bo_in (by rcases c1 with z | z | z; exact Or.inl (Or.inl z); exact Or.inl (Or.inr z); exact Or.inr (Or.inr z))]
    exact ev_some ⟨rfl, hx, hy⟩
  rw [if_neg c1, if_neg (show ¬ (1 : Int32) = 0 by decide), rw_takes hy w, cl_eq]
  by_cases c2 : w < a2 ∨ b2 < w ∨ n ≤ ys.length
  · rw [if_pos c2, if_pos rfl, bo_in (by rcases c2 with z | z | z; exact Or.inr (Or.inl (Or.inl z)); exact Or.inr (Or.inl (Or.inr z)); exact Or.inr (Or.inr (by omega)))]
    exact ev_some ⟨rfl, hx, hy⟩
  rw [if_neg c2, if_neg (show ¬ (1 : Int32) = 0 by decide), bo_out (fun z => by
    rcases z with (z | z) | (z | z) | z
    · exact c1 (Or.inl z)
    · exact c1 (Or.inr (Or.inl z))
    · exact c2 (Or.inl z)
    · exact c2 (Or.inr (Or.inl z))
    · exact c1 (Or.inr (Or.inr z)))]
  obtain ⟨μ1, e1, h1⟩ := rw_append hx v
  have fr1 := fr_Rw_append (P := fun k => k = f ∨ k = f + 1) (a := f) (n := n) (v1 := v) (μ := μ) (Or.inr rfl) (Or.inl rfl) _ _ e1
  have hy1 : RwC μ1 g n a2 b2 ys := rwC_congr (fr1 g (by omega)) (fr1 (g + 1) (by omega)) hy
  obtain ⟨μ2, e2, h2⟩ := rw_append hy1 w
  have fr2 := fr_Rw_append (P := fun k => k = g ∨ k = g + 1) (a := g) (n := n) (v1 := w) (μ := μ1) (Or.inr rfl) (Or.inl rfl) _ _ e2
  have o1 : tl a1 b1 n xs v = (xs ++ [v], nI (xs.length + 1)) := if_neg c1
  have o2 : tl a2 b2 n ys w = (ys ++ [w], nI (ys.length + 1)) := if_neg c2
  rw [o1] at e1 h1
  rw [o2] at e2 h2
  rw [e1, cl_eq, e2, cl_eq]
  exact ev_some ⟨by rw [hl], rwC_congr (fr2 f (by omega)) (fr2 (f + 1) (by omega)) h1, h2⟩
