/-! L3: POST, POINT, of both -/
theorem step_post {μ ν : Mu} {t : Int32} {K : Nat → List Int32} (hC : ToldC μ t K) (hM : ToldM ν t K) (hK : ToldOk K) (v w : Int32) : ∃ r K', ToldOk K' ∧ Ev (Sf_post 0 v w μ) (fun x μ' => x = r ∧ ToldC μ' t K' ∧ Off [33, 34, 35, 36] μ μ') ∧ Ev (Mo_post 59 v w ν) (fun x ν' => x = r ∧ ToldM ν' t K' ∧ (∀ k, k ∉ [59, 93, 94] → ν' k = ν k) ∧ ∀ j, j ∉ [0, 58] → ν' 59 j = ν 59 j) := by
  obtain ⟨h0, h1, h2, h3, h4, h5, h6, h7, h8, h9, h10⟩ := hC
  obtain ⟨g0, g1, g2, g3, g4, g5, g6, g7, g8, g9⟩ := hM
  obtain ⟨k0, k1, k2, k3, k4, k5, k6, k7, k8, k9, k10, k11, k12⟩ := hK
  have hok : RwOk 1 99 (poS (K 7) (K 8) v w).1 ∧ RwOk 1 60 (poS (K 7) (K 8) v w).2.1 ∧ (poS (K 7) (K 8) v w).2.1.length = (poS (K 7) (K 8) v w).1.length := by
    unfold poS
    by_cases c : v = -1
    · rw [if_pos c]; exact ⟨fun u hu => absurd hu (List.not_mem_nil), fun u hu => absurd hu (List.not_mem_nil), rfl⟩
    · rw [if_neg c]; exact bo_ok k9 k10 k11
  obtain ⟨r, μ', e1, rfl, q1, q2⟩ := c_post h8 h9 k11 v w
  obtain ⟨r2, ν', e2, rfl, p1, p2⟩ := m_post g7 g8 k11 v w
  have o1 : ∀ k, k ∉ [33, 34, 35, 36] → μ' k = μ k := fr_Sf_post (P := fun k => k ∈ [33, 34, 35, 36]) (a := 0) (v1 := v) (v2 := w) (μ := μ) (by decide) (by decide) (by decide) (by decide) _ _ e1
  have f2 := fq_Mo_post (P := fun k j => (k = 59 ∧ j ∈ [0, 58]) ∨ k ∈ [93, 94]) (a := 59) (v1 := v) (v2 := w) (μ := ν) (Or.inl ⟨rfl, by decide⟩) (Or.inl ⟨rfl, by decide⟩) (fun _ => Or.inr (by decide)) (fun _ => Or.inr (by decide)) _ _ e2
  have o2 : ∀ k, k ∉ [59, 93, 94] → ν' k = ν k := fun k a => funext (fun j => f2 k j (fun z => by
    rcases z with z | z
    · exact a (by rw [z.1]; decide)
    · exact a (List.mem_cons_of_mem _ z)))
  have o3 : ∀ j, j ∉ [0, 58] → ν' 59 j = ν 59 j := fun j a => f2 59 j (fun z => by
    rcases z with z | z
    · exact a z.2
    · exact absurd z (by decide))
  exact ⟨_, kUp (kUp K 7 (poS (K 7) (K 8) v w).1) 8 (poS (K 7) (K 8) v w).2.1, ⟨k0, k1, k2, k3, k4, k5, k6, k7, k8, hok.1, hok.2.1, hok.2.2, k12⟩, ⟨_, μ', e1, rfl, ⟨by rw [o1 18 (by decide)]; exact h0, rwC_congr (o1 _ (by decide)) (o1 _ (by decide)) h1, rwC_congr (o1 _ (by decide)) (o1 _ (by decide)) h2, rwC_congr (o1 _ (by decide)) (o1 _ (by decide)) h3, rwC_congr (o1 _ (by decide)) (o1 _ (by decide)) h4, rwC_congr (o1 _ (by decide)) (o1 _ (by decide)) h5, rwC_congr (o1 _ (by decide)) (o1 _ (by decide)) h6, rwC_congr (o1 _ (by decide)) (o1 _ (by decide)) h7, q1, q2, rwC_congr (o1 _ (by decide)) (o1 _ (by decide)) h10⟩, o1⟩, ⟨_, ν', e2, rfl, ⟨(o3 _ (by decide)).trans g0, rwM_congr (o3 _ (by decide)) (o2 _ (by decide)) g1, rwM_congr (o3 _ (by decide)) (o2 _ (by decide)) g2, rwM_congr (o3 _ (by decide)) (o2 _ (by decide)) g3, rowsM_congr (o2 _ (by decide)) (o2 _ (by decide)) g4, rwM_congr (o3 _ (by decide)) (o2 _ (by decide)) g5, rwM_congr (o3 _ (by decide)) (o2 _ (by decide)) g6, p1, p2, rwM_congr (o3 _ (by decide)) (o2 _ (by decide)) g9⟩, o2, o3⟩⟩
theorem step_point {μ ν : Mu} {t : Int32} {K : Nat → List Int32} (hC : ToldC μ t K) (hM : ToldM ν t K) (hK : ToldOk K) (v w : Int32) : ∃ r K', ToldOk K' ∧ Ev (Sf_point 0 v w μ) (fun x μ' => x = r ∧ ToldC μ' t K' ∧ Off [19, 20, 21, 22] μ μ') ∧ Ev (Mo_point 59 v w ν) (fun x ν' => x = r ∧ ToldM ν' t K' ∧ (∀ k, k ∉ [59, 81, 82] → ν' k = ν k) ∧ ∀ j, j ∉ [0, 42] → ν' 59 j = ν 59 j) := by
  obtain ⟨h0, h1, h2, h3, h4, h5, h6, h7, h8, h9, h10⟩ := hC
  obtain ⟨g0, g1, g2, g3, g4, g5, g6, g7, g8, g9⟩ := hM
  obtain ⟨k0, k1, k2, k3, k4, k5, k6, k7, k8, k9, k10, k11, k12⟩ := hK
  have hok := pt_ok (v := v) (w := w) k0 k1 k2 k3
  obtain ⟨r, μ', e1, rfl, q1, q2⟩ := c_point h1 h2 k2 v w
  obtain ⟨r2, ν', e2, rfl, p1, p2⟩ := m_point g1 g2 k2 v w
  have o1 : ∀ k, k ∉ [19, 20, 21, 22] → μ' k = μ k := fr_Sf_point (P := fun k => k ∈ [19, 20, 21, 22]) (a := 0) (v1 := v) (v2 := w) (μ := μ) (by decide) (by decide) (by decide) (by decide) _ _ e1
  have f2 := fq_Mo_point (P := fun k j => (k = 59 ∧ j ∈ [0, 42]) ∨ k ∈ [81, 82]) (a := 59) (v1 := v) (v2 := w) (μ := ν) (Or.inl ⟨rfl, by decide⟩) (Or.inl ⟨rfl, by decide⟩) (fun _ => Or.inr (by decide)) (fun _ => Or.inr (by decide)) _ _ e2
  have o2 : ∀ k, k ∉ [59, 81, 82] → ν' k = ν k := fun k a => funext (fun j => f2 k j (fun z => by
    rcases z with z | z
    · exact a (by rw [z.1]; decide)
    · exact a (List.mem_cons_of_mem _ z)))
  have o3 : ∀ j, j ∉ [0, 42] → ν' 59 j = ν 59 j := fun j a => f2 59 j (fun z => by
    rcases z with z | z
    · exact a z.2
    · exact absurd z (by decide))
  exact ⟨_, kUp (kUp K 0 (ptS (K 0) (K 1) v w).1) 1 (ptS (K 0) (K 1) v w).2.1, ⟨hok.1, hok.2.1, hok.2.2.1, hok.2.2.2, k4, k5, k6, k7, k8, k9, k10, k11, k12⟩, ⟨_, μ', e1, rfl, ⟨by rw [o1 18 (by decide)]; exact h0, q1, q2, rwC_congr (o1 _ (by decide)) (o1 _ (by decide)) h3, rwC_congr (o1 _ (by decide)) (o1 _ (by decide)) h4, rwC_congr (o1 _ (by decide)) (o1 _ (by decide)) h5, rwC_congr (o1 _ (by decide)) (o1 _ (by decide)) h6, rwC_congr (o1 _ (by decide)) (o1 _ (by decide)) h7, rwC_congr (o1 _ (by decide)) (o1 _ (by decide)) h8, rwC_congr (o1 _ (by decide)) (o1 _ (by decide)) h9, rwC_congr (o1 _ (by decide)) (o1 _ (by decide)) h10⟩, o1⟩, ⟨_, ν', e2, rfl, ⟨(o3 _ (by decide)).trans g0, p1, p2, rwM_congr (o3 _ (by decide)) (o2 _ (by decide)) g3, rowsM_congr (o2 _ (by decide)) (o2 _ (by decide)) g4, rwM_congr (o3 _ (by decide)) (o2 _ (by decide)) g5, rwM_congr (o3 _ (by decide)) (o2 _ (by decide)) g6, rwM_congr (o3 _ (by decide)) (o2 _ (by decide)) g7, rwM_congr (o3 _ (by decide)) (o2 _ (by decide)) g8, rwM_congr (o3 _ (by decide)) (o2 _ (by decide)) g9⟩, o2, o3⟩⟩
