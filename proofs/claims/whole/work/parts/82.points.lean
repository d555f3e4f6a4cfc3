/-! L3: POST, POINT -/
theorem bo_ok {a1 b1 a2 b2 : Int32} {n : Nat} {xs ys : List Int32} {v w : Int32} (ox : RwOk a1 b1 xs) (oy : RwOk a2 b2 ys) (hl : ys.length = xs.length) : RwOk a1 b1 (boS a1 b1 a2 b2 n xs ys v w).1 ∧ RwOk a2 b2 (boS a1 b1 a2 b2 n xs ys v w).2.1 ∧ (boS a1 b1 a2 b2 n xs ys v w).2.1.length = (boS a1 b1 a2 b2 n xs ys v w).1.length := by
  by_cases c : (v < a1 ∨ b1 < v) ∨ (w < a2 ∨ b2 < w) ∨ n ≤ xs.length
  · rw [bo_in c]; exact ⟨ox, oy, hl⟩
  · rw [bo_out c]
    refine ⟨fun u hu => ?_, fun u hu => ?_, ?_⟩
    · rcases List.mem_append.mp hu with q | q
      · exact ox u q
      · rw [List.mem_singleton.mp q]; exact ⟨fun z => c (Or.inl (Or.inl z)), fun z => c (Or.inl (Or.inr z))⟩
    · rcases List.mem_append.mp hu with q | q
      · exact oy u q
      · rw [List.mem_singleton.mp q]; exact ⟨fun z => c (Or.inr (Or.inl (Or.inl z))), fun z => c (Or.inr (Or.inl (Or.inr z)))⟩
    · show (ys ++ [w]).length = (xs ++ [v]).length
      rw [List.length_append, List.length_append, hl]; rfl
theorem c_clear2 {μ : Mu} {f g n : Nat} {a1 b1 a2 b2 : Int32} {xs ys : List Int32} (hx : RwC μ f n a1 b1 xs) (hy : RwC μ g n a2 b2 ys) (d : f ≠ g ∧ f ≠ g + 1 ∧ f + 1 ≠ g) : Ev (cl (Rw_clear f n μ) (fun _ μ3 => cl (Rw_clear g n μ3) (fun x6 μ5 => some (x6, μ5)))) (fun r μ' => r = 0 ∧ RwC μ' f n a1 b1 [] ∧ RwC μ' g n a2 b2 []) := by
  obtain ⟨μ1, e1, h1⟩ := rw_clear hx
  have fr1 := fr_Rw_clear (P := fun k => k = f) (a := f) (n := n) (μ := μ) rfl _ _ e1
  have hy1 : RwC μ1 g n a2 b2 ys := rwC_congr (fr1 g (fun z => d.1 z.symm)) (fr1 (g + 1) (fun z => d.2.1 z.symm)) hy
  obtain ⟨μ2, e2, h2⟩ := rw_clear hy1
  have fr2 := fr_Rw_clear (P := fun k => k = g) (a := g) (n := n) (μ := μ1) rfl _ _ e2
  rw [e1, cl_eq, e2, cl_eq]
  exact ev_some ⟨rfl, rwC_congr (fr2 f d.1) (fr2 (f + 1) d.2.2) h1, h2⟩
def poS (xs ys : List Int32) (v w : Int32) : List Int32 × List Int32 × Int32 := if v = -1 then ([], [], 0) else boS 1 99 1 60 8 xs ys v w
theorem c_post {μ : Mu} {xs ys : List Int32} (hx : RwC μ 33 8 1 99 xs) (hy : RwC μ 35 8 1 60 ys) (hl : ys.length = xs.length) (v w : Int32) : Ev (Sf_post 0 v w μ) (fun r μ' => r = (poS xs ys v w).2.2 ∧ RwC μ' 33 8 1 99 (poS xs ys v w).1 ∧ RwC μ' 35 8 1 60 (poS xs ys v w).2.1) := by
  unfold Sf_post poS
  simp only [Nat.reduceAdd]
  by_cases c : v = -1
  · rw [if_pos c, if_pos c]
    exact c_clear2 hx hy (by omega)
  · have hc : ∀ o : Option (Int32 × Mu), cl o (fun x2 μ1 => some (x2, μ1)) = o := fun o => by cases o <;> rfl
    rw [if_neg c, if_neg c, hc]
    unfold Th_addPost
    rw [hc]
    exact c_both hx hy hl (by omega) v w
/-- the reference puts both numbers down -/
theorem m_push2 {ν : Mu} {kf g1 g2 n : Nat} {xs ys : List Int32} (hx : RwM ν 59 kf g1 n xs) (hy : RwM ν 59 kf g2 n ys) (d : g1 ≠ 59 ∧ g2 ≠ 59 ∧ g1 ≠ g2) (hn : xs.length < n) (hl : ys.length = xs.length) (v w : Int32) : ∀ (e : Int32), e = nI (xs.length + 1) → RwM (up2 (up2 (up2 ν g1 xs.length v) g2 xs.length w) 59 kf e) 59 kf g1 n (xs ++ [v]) ∧ RwM (up2 (up2 (up2 ν g1 xs.length v) g2 xs.length w) 59 kf e) 59 kf g2 n (ys ++ [w]) := by
  rintro e rfl
  have h1 := rwM_push (v := v) d.1 hx hn
  have h2 := rwM_push (v := w) d.2.1 hy (by omega)
  rw [hl] at h2
  refine ⟨rwM_congr ?_ ?_ h1, rwM_congr ?_ ?_ h2⟩
  · rw [up2_same, up2_same]
  · rw [up2_ne d.1, up2_ne d.2.2, up2_ne d.1]
  · rw [up2_same, up2_same]
  · rw [up2_ne d.2.1, up2_ne d.2.1]
    funext j
    by_cases y : j = xs.length
    · rw [y, up2_same, up2_same]
    · rw [up2_off (Or.inr y), up2_off (Or.inr y), up2_off (Or.inr y)]
theorem m_post {ν : Mu} {xs ys : List Int32} (hx : RwM ν 59 58 93 8 xs) (hy : RwM ν 59 58 94 8 ys) (hl : ys.length = xs.length) (v w : Int32) : Ev (Mo_post 59 v w ν) (fun r ν' => r = (poS xs ys v w).2.2 ∧ RwM ν' 59 58 93 8 (poS xs ys v w).1 ∧ RwM ν' 59 58 94 8 (poS xs ys v w).2.1) := by
  have l8 := hx.2.1
  unfold Mo_post poS
  rw [pF_eq]
  have hx1 : RwM (up2 ν 59 0 0) 59 58 93 8 xs := rwM_congr (up2_off (Or.inr (by omega))) (up2_ne (by omega)) hx
  have hy1 : RwM (up2 ν 59 0 0) 59 58 94 8 ys := rwM_congr (up2_off (Or.inr (by omega))) (up2_ne (by omega)) hy
  generalize up2 ν 59 0 0 = ν1 at hx1 hy1
  by_cases c1 : v = -1
  · rw [if_pos c1, if_pos c1, pF_eq]
    exact ev_some ⟨rfl, ⟨up2_same _ _ _ _, by show 0 ≤ 8; omega, by omega, fun j hj => absurd hj (by show ¬ j < 0; omega)⟩, ⟨up2_same _ _ _ _, by show 0 ≤ 8; omega, by omega, fun j hj => absurd hj (by show ¬ j < 0; omega)⟩⟩
  rw [if_neg c1, if_neg c1, isIn_eq, cl_eq]
  by_cases c2 : v < 1 ∨ 99 < v
  · rw [if_pos c2, if_pos rfl, bo_in (Or.inl c2)]; exact ev_some ⟨rfl, hx1, hy1⟩
  rw [if_neg c2, if_neg (show ¬ (1 : Int32) = 0 by decide), isIn_eq, cl_eq]
  by_cases c3 : w < 1 ∨ 60 < w
  · rw [if_pos c3, if_pos rfl, bo_in (Or.inr (Or.inl c3))]; exact ev_some ⟨rfl, hx1, hy1⟩
  have m0 := hx1.1
  rw [if_neg c3, if_neg (show ¬ (1 : Int32) = 0 by decide), gF_eq, m0]
  by_cases c4 : 8 ≤ xs.length
  · rw [if_pos (show nI xs.length = 8 by rw [show xs.length = 8 by omega]; rfl), bo_in (Or.inr (Or.inr c4))]; exact ev_some ⟨rfl, hx1, hy1⟩
  · have hp := m_push2 hx1 hy1 (by omega) (by omega) hl v w (nI xs.length + 1) (nI_add xs.length 1)
    rw [if_neg (fun q : nI xs.length = 8 => by have := (nI_eq (b := 8) (by omega) (by omega)).mp q; omega), gF_eq, m0, stA_nI (by omega) (by omega), gF_eq, up2_off (Or.inl (by omega)), m0, stA_nI (by omega) (by omega), gF_eq, up2_off (Or.inl (by omega)), up2_off (Or.inl (by omega)), m0, pF_eq, gF_eq, up2_same, bo_out (fun z => by
      rcases z with z | z | z
      · exact c2 z
      · exact c3 z
      · exact c4 z)]
    exact ev_some ⟨nI_add xs.length 1, hp.1, hp.2⟩
def ptS (xs ys : List Int32) (v w : Int32) : List Int32 × List Int32 × Int32 := if v = -1000 then ([], [], 0) else if ∃ j, j < xs.length ∧ xs.getD j 0 = v ∧ ys.getD j 0 = w then (xs, ys, -1) else boS (-99) 99 (-99) 99 8 xs ys v w
theorem c_point {μ : Mu} {xs ys : List Int32} (hx : RwC μ 19 8 (-99) 99 xs) (hy : RwC μ 21 8 (-99) 99 ys) (hl : ys.length = xs.length) (v w : Int32) : Ev (Sf_point 0 v w μ) (fun r μ' => r = (ptS xs ys v w).2.2 ∧ RwC μ' 19 8 (-99) 99 (ptS xs ys v w).1 ∧ RwC μ' 21 8 (-99) 99 (ptS xs ys v w).2.1) := by
  have l8 : xs.length ≤ 8 := hx.2.2.2.1
  unfold Sf_point ptS
  simp only [Nat.reduceAdd]
  by_cases c : v = -1000
  · rw [if_pos c, if_pos c]
    exact c_clear2 hx hy (by omega)
  have hc : ∀ o : Option (Int32 × Mu), cl o (fun x2 μ1 => some (x2, μ1)) = o := fun o => by cases o <;> rfl
  rw [if_neg c, if_neg c, hc]
  suffices K : Ev (Th_addPoint_2 45 18 v w FU (nI 0) μ) (fun r μ' => r = (if ∃ j, j < xs.length ∧ xs.getD j 0 = v ∧ ys.getD j 0 = w then (xs, ys, -1) else boS (-99) 99 (-99) 99 8 xs ys v w).2.2 ∧ RwC μ' 19 8 (-99) 99 (if ∃ j, j < xs.length ∧ xs.getD j 0 = v ∧ ys.getD j 0 = w then (xs, ys, -1) else boS (-99) 99 (-99) 99 8 xs ys v w).1 ∧ RwC μ' 21 8 (-99) 99 (if ∃ j, j < xs.length ∧ xs.getD j 0 = v ∧ ys.getD j 0 = w then (xs, ys, -1) else boS (-99) 99 (-99) 99 8 xs ys v w).2.1) from K
  unfold Th_addPoint_2
  refine lp_fu (F := fun kb => Th_addPoint_2b 45 18 kb v w) (z := fun _ _ => none) xs.length (fun k A => (∀ j, j < k → ¬ (xs.getD j 0 = v ∧ ys.getD j 0 = w)) → Ev (A (nI k) μ) (fun r μ' => r = (if ∃ j, j < xs.length ∧ xs.getD j 0 = v ∧ ys.getD j 0 = w then (xs, ys, -1) else boS (-99) 99 (-99) 99 8 xs ys v w).2.2 ∧ RwC μ' 19 8 (-99) 99 (if ∃ j, j < xs.length ∧ xs.getD j 0 = v ∧ ys.getD j 0 = w then (xs, ys, -1) else boS (-99) 99 (-99) 99 8 xs ys v w).1 ∧ RwC μ' 21 8 (-99) 99 (if ∃ j, j < xs.length ∧ xs.getD j 0 = v ∧ ys.getD j 0 = w then (xs, ys, -1) else boS (-99) 99 (-99) 99 8 xs ys v w).2.1)) (by omega) ?_ ?_ 0 (by omega) (fun j hj => absurd hj (by omega))
  · intro A hno
    show Ev (Th_addPoint_2b 45 18 A v w (nI xs.length) μ) _
    unfold Th_addPoint_2b
    simp only [Nat.reduceAdd]
    rw [gF_eq, hx.2.2.1, if_pos (nI_le (Nat.le_refl _) (by omega)), if_neg (fun ⟨j, hj, q⟩ => hno j hj q), hc]
    exact c_both hx hy hl (by omega) v w
  · intro k A hk ih hno
    show Ev (Th_addPoint_2b 45 18 A v w (nI k) μ) _
    unfold Th_addPoint_2b Th_addPoint_48
    simp only [Nat.reduceAdd]
    rw [gF_eq, hx.2.2.1, if_neg (nI_ge hk (by omega)), rw_at hx k hk, cl_eq, rw_at hy k (by omega), show nI k + 1 = nI (k + 1) from nI_add k 1]
    have next : ¬ (xs.getD k 0 = v ∧ ys.getD k 0 = w) → ∀ j, j < k + 1 → ¬ (xs.getD j 0 = v ∧ ys.getD j 0 = w) := fun h j hj => by
      by_cases y : j = k
      · subst y; exact h
      · exact hno j (by omega)
    by_cases d1 : xs.getD k 0 = v
    · rw [if_pos d1, cl_eq]
      by_cases d2 : ys.getD k 0 = w
      · rw [if_pos d2, if_pos ⟨k, hk, d1, d2⟩]; exact ev_some ⟨rfl, hx, hy⟩
      · rw [if_neg d2]; exact ih (next (fun q => d2 q.2))
    · rw [if_neg d1]; exact ih (next (fun q => d1 q.1))
theorem m_point {ν : Mu} {xs ys : List Int32} (hx : RwM ν 59 42 81 8 xs) (hy : RwM ν 59 42 82 8 ys) (hl : ys.length = xs.length) (v w : Int32) : Ev (Mo_point 59 v w ν) (fun r ν' => r = (ptS xs ys v w).2.2 ∧ RwM ν' 59 42 81 8 (ptS xs ys v w).1 ∧ RwM ν' 59 42 82 8 (ptS xs ys v w).2.1) := by
  have l8 := hx.2.1
  unfold Mo_point ptS
  rw [pF_eq]
  have hx1 : RwM (up2 ν 59 0 0) 59 42 81 8 xs := rwM_congr (up2_off (Or.inr (by omega))) (up2_ne (by omega)) hx
  have hy1 : RwM (up2 ν 59 0 0) 59 42 82 8 ys := rwM_congr (up2_off (Or.inr (by omega))) (up2_ne (by omega)) hy
  generalize up2 ν 59 0 0 = ν1 at hx1 hy1
  by_cases c1 : v = -1000
  · rw [if_pos c1, if_pos c1, pF_eq]
    exact ev_some ⟨rfl, ⟨up2_same _ _ _ _, by show 0 ≤ 8; omega, by omega, fun j hj => absurd hj (by show ¬ j < 0; omega)⟩, ⟨up2_same _ _ _ _, by show 0 ≤ 8; omega, by omega, fun j hj => absurd hj (by show ¬ j < 0; omega)⟩⟩
  obtain ⟨m0, -, -, vx⟩ := id hx1
  obtain ⟨-, -, -, vy⟩ := id hy1
  have same : ((v < -99 ∨ 99 < v) ∨ (w < -99 ∨ 99 < w) ∨ 8 ≤ xs.length) → (if ∃ j, j < xs.length ∧ xs.getD j 0 = v ∧ ys.getD j 0 = w then (xs, ys, -1) else boS (-99) 99 (-99) 99 8 xs ys v w) = (xs, ys, -1) := fun h => by
    rw [bo_in h]; split <;> rfl
  rw [if_neg c1, if_neg c1, isIn_eq, cl_eq]
  by_cases c2 : v < -99 ∨ 99 < v
  · rw [if_pos c2, if_pos rfl, same (Or.inl c2)]; exact ev_some ⟨rfl, hx1, hy1⟩
  rw [if_neg c2, if_neg (show ¬ (1 : Int32) = 0 by decide), isIn_eq, cl_eq]
  by_cases c3 : w < -99 ∨ 99 < w
  · rw [if_pos c3, if_pos rfl, same (Or.inr (Or.inl c3))]; exact ev_some ⟨rfl, hx1, hy1⟩
  rw [if_neg c3, if_neg (show ¬ (1 : Int32) = 0 by decide), gF_eq, m0]
  by_cases c4 : 8 ≤ xs.length
  · rw [if_pos (show nI xs.length = 8 by rw [show xs.length = 8 by omega]; rfl), same (Or.inr (Or.inr c4))]; exact ev_some ⟨rfl, hx1, hy1⟩
  rw [if_neg (fun q : nI xs.length = 8 => by have := (nI_eq (b := 8) (by omega) (by omega)).mp q; omega)]
  clear same
  suffices K : Ev (Mo_point_56 59 v w FU (nI 0) ν1) (fun r ν' => r = (if ∃ j, j < xs.length ∧ xs.getD j 0 = v ∧ ys.getD j 0 = w then (xs, ys, -1) else boS (-99) 99 (-99) 99 8 xs ys v w).2.2 ∧ RwM ν' 59 42 81 8 (if ∃ j, j < xs.length ∧ xs.getD j 0 = v ∧ ys.getD j 0 = w then (xs, ys, -1) else boS (-99) 99 (-99) 99 8 xs ys v w).1 ∧ RwM ν' 59 42 82 8 (if ∃ j, j < xs.length ∧ xs.getD j 0 = v ∧ ys.getD j 0 = w then (xs, ys, -1) else boS (-99) 99 (-99) 99 8 xs ys v w).2.1) from K
  unfold Mo_point_56
  refine lp_fu (F := fun kb => Mo_point_56b 59 kb v w) (z := fun _ _ => none) xs.length (fun k A => (∀ j, j < k → ¬ (xs.getD j 0 = v ∧ ys.getD j 0 = w)) → Ev (A (nI k) ν1) (fun r ν' => r = (if ∃ j, j < xs.length ∧ xs.getD j 0 = v ∧ ys.getD j 0 = w then (xs, ys, -1) else boS (-99) 99 (-99) 99 8 xs ys v w).2.2 ∧ RwM ν' 59 42 81 8 (if ∃ j, j < xs.length ∧ xs.getD j 0 = v ∧ ys.getD j 0 = w then (xs, ys, -1) else boS (-99) 99 (-99) 99 8 xs ys v w).1 ∧ RwM ν' 59 42 82 8 (if ∃ j, j < xs.length ∧ xs.getD j 0 = v ∧ ys.getD j 0 = w then (xs, ys, -1) else boS (-99) 99 (-99) 99 8 xs ys v w).2.1)) (by omega) ?_ ?_ 0 (by omega) (fun j hj => absurd hj (by omega))
  · intro A hno
    show Ev (Mo_point_56b 59 A v w (nI xs.length) ν1) _
    unfold Mo_point_56b
    simp only [Nat.reduceAdd]
    have hp := m_push2 hx1 hy1 (by omega) (by omega) hl v w (nI xs.length + 1) (nI_add xs.length 1)
    rw [gF_eq, m0, if_pos (nI_le (Nat.le_refl _) (by omega)), gF_eq, m0, stA_nI (by omega) (by omega), gF_eq, up2_off (Or.inl (by omega)), m0, stA_nI (by omega) (by omega), gF_eq, up2_off (Or.inl (by omega)), up2_off (Or.inl (by omega)), m0, pF_eq, gF_eq, up2_same, if_neg (fun ⟨j, hj, q⟩ => hno j hj q), bo_out (fun z => by
      rcases z with z | z | z
      · exact c2 z
      · exact c3 z
      · exact c4 z)]
    exact ev_some ⟨nI_add xs.length 1, hp.1, hp.2⟩
  · intro k A hk ih hno
    show Ev (Mo_point_56b 59 A v w (nI k) ν1) _
    unfold Mo_point_56b Mo_point_86
    simp only [Nat.reduceAdd]
    rw [gF_eq, m0, if_neg (nI_ge hk (by omega)), ldA_nI (by omega) (by omega), vx k hk, ldA_nI (by omega) (by omega), vy k (by omega), show nI k + 1 = nI (k + 1) from nI_add k 1]
    have next : ¬ (xs.getD k 0 = v ∧ ys.getD k 0 = w) → ∀ j, j < k + 1 → ¬ (xs.getD j 0 = v ∧ ys.getD j 0 = w) := fun h j hj => by
      by_cases y : j = k
      · subst y; exact h
      · exact hno j (by omega)
    by_cases d1 : xs.getD k 0 = v
    · rw [if_pos d1]
      by_cases d2 : ys.getD k 0 = w
      · rw [if_pos d2, if_pos ⟨k, hk, d1, d2⟩]; exact ev_some ⟨rfl, hx1, hy1⟩
      · rw [if_neg d2]; exact ih (next (fun q => d2 q.2))
    · rw [if_neg d1]; exact ih (next (fun q => d1 q.1))
theorem pt_len {l : List Int32} {v : Int32} {j : Nat} : (l ++ [v]).getD j 0 = if j < l.length then l.getD j 0 else if j = l.length then v else 0 := by
  rw [List.getD_eq_getElem?_getD, List.getD_eq_getElem?_getD]
  by_cases c : j < l.length
  · rw [if_pos c, List.getElem?_append_left c]
  · rw [if_neg c, List.getElem?_append_right (by omega)]
    by_cases d : j = l.length
    · rw [if_pos d, d, Nat.sub_self]; rfl
    · rw [if_neg d]
      have : [v][j - l.length]? = none := List.getElem?_eq_none (by show 1 ≤ j - l.length; omega)
      rw [this]; rfl
theorem pt_ok {xs ys : List Int32} {v w : Int32} (ox : RwOk (-99) 99 xs) (oy : RwOk (-99) 99 ys) (hl : ys.length = xs.length) (hd : DisI xs.length (toI xs) (toI ys)) : RwOk (-99) 99 (ptS xs ys v w).1 ∧ RwOk (-99) 99 (ptS xs ys v w).2.1 ∧ (ptS xs ys v w).2.1.length = (ptS xs ys v w).1.length ∧ DisI (ptS xs ys v w).1.length (toI (ptS xs ys v w).1) (toI (ptS xs ys v w).2.1) := by
  unfold ptS
  by_cases c1 : v = -1000
  · rw [if_pos c1]
    exact ⟨fun u hu => absurd hu (List.not_mem_nil), fun u hu => absurd hu (List.not_mem_nil), rfl, fun a b ha => absurd ha (by show ¬ a < 0; omega)⟩
  rw [if_neg c1]
  by_cases c2 : ∃ j, j < xs.length ∧ xs.getD j 0 = v ∧ ys.getD j 0 = w
  · rw [if_pos c2]; exact ⟨ox, oy, hl, hd⟩
  rw [if_neg c2]
  have hb := bo_ok (n := 8) (v := v) (w := w) ox oy hl
  refine ⟨hb.1, hb.2.1, hb.2.2, ?_⟩
  by_cases c : (v < -99 ∨ 99 < v) ∨ (w < -99 ∨ 99 < w) ∨ 8 ≤ xs.length
  · rw [bo_in c]; exact hd
  · rw [bo_out c]
    intro a b ha hb' hab
    have hla : (xs ++ [v]).length = xs.length + 1 := by rw [List.length_append]; rfl
    have ha' : a < xs.length + 1 := by rw [← hla]; exact ha
    have hb2 : b < xs.length + 1 := by rw [← hla]; exact hb'
    show ((xs ++ [v]).getD a 0).toInt ≠ ((xs ++ [v]).getD b 0).toInt ∨ ((ys ++ [w]).getD a 0).toInt ≠ ((ys ++ [w]).getD b 0).toInt
    rw [pt_len, pt_len, pt_len, pt_len, hl]
    have new : ∀ j, j < xs.length → (xs.getD j 0).toInt ≠ v.toInt ∨ (ys.getD j 0).toInt ≠ w.toInt := fun j hj => by
      by_cases q : (xs.getD j 0).toInt = v.toInt
      · right; intro q2; exact c2 ⟨j, hj, by rw [fa_eq]; exact q, by rw [fa_eq]; exact q2⟩
      · exact Or.inl q
    by_cases ca : a < xs.length
    · rw [if_pos ca, if_pos ca]
      by_cases cb : b < xs.length
      · rw [if_pos cb, if_pos cb]; exact hd a b ca cb hab
      · rw [if_neg cb, if_neg cb, if_pos (by omega), if_pos (by omega)]; exact new a ca
    · rw [if_neg ca, if_neg ca, if_pos (show a = xs.length by omega), if_pos (show a = xs.length by omega), if_pos (show b < xs.length by omega), if_pos (show b < xs.length by omega)]
      rcases new b (by omega) with q | q
      · exact Or.inl (fun z => q z.symm)
      · exact Or.inr (fun z => q z.symm)
