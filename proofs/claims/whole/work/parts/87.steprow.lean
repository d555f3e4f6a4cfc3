/-! L3: ROW, of both -/
theorem step_row {μ ν : Mu} {t : Int32} {K : Nat → List Int32} (hC : ToldC μ t K) (hM : ToldM ν t K) (hK : ToldOk K) (v w : Int32) : ∃ r K', ToldOk K' ∧ Ev (Sf_row 0 v w μ) (fun x μ' => x = r ∧ ToldC μ' t K' ∧ Off [25, 26, 27, 28] μ μ') ∧ Ev (Mo_row 59 v w ν) (fun x ν' => x = r ∧ ToldM ν' t K' ∧ (∀ k, k ∉ [59, 85, 86] → ν' k = ν k) ∧ ∀ j, j ∉ [0] → ν' 59 j = ν 59 j) := by
  obtain ⟨h0, h1, h2, h3, h4, h5, h6, h7, h8, h9, h10⟩ := hC
  obtain ⟨g0, g1, g2, g3, g4, g5, g6, g7, g8, g9⟩ := hM
  obtain ⟨k0, k1, k2, k3, k4, k5, k6, k7, k8, k9, k10, k11, k12⟩ := hK
  have hok : RwOk 0 9 (roS (K 3) (K 4) v w).1 ∧ RwOk 0 9 (roS (K 3) (K 4) v w).2.1 := by
    unfold roS
    split
    · exact ⟨tl0_ok k5, k6⟩
    · split
      · exact ⟨k5, tl0_ok k6⟩
      · exact ⟨k5, k6⟩
  obtain ⟨r, μ', e1, rfl, q1, q2⟩ := c_row h4 h5 v w
  obtain ⟨r2, ν', e2, rfl, p1⟩ := m_row g4 v w
  have o1 : ∀ k, k ∉ [25, 26, 27, 28] → μ' k = μ k := fr_Sf_row (P := fun k => k ∈ [25, 26, 27, 28]) (a := 0) (v1 := v) (v2 := w) (μ := μ) (by decide) (by decide) (by decide) (by decide) _ _ e1
  have f2 := fq_Mo_row (P := fun k j => (k = 59 ∧ j ∈ [0]) ∨ k ∈ [85, 86]) (a := 59) (v1 := v) (v2 := w) (μ := ν) (Or.inl ⟨rfl, by decide⟩) (fun _ => Or.inr (by decide)) (fun _ => Or.inr (by decide)) _ _ e2
  have o2 : ∀ k, k ∉ [59, 85, 86] → ν' k = ν k := fun k a => funext (fun j => f2 k j (fun z => by
    rcases z with z | z
    · exact a (by rw [z.1]; decide)
    · exact a (List.mem_cons_of_mem _ z)))
  have o3 : ∀ j, j ∉ [0] → ν' 59 j = ν 59 j := fun j a => f2 59 j (fun z => by
    rcases z with z | z
    · exact a z.2
    · exact absurd z (by decide))
  exact ⟨_, kUp (kUp K 3 (roS (K 3) (K 4) v w).1) 4 (roS (K 3) (K 4) v w).2.1, ⟨k0, k1, k2, k3, k4, hok.1, hok.2, k7, k8, k9, k10, k11, k12⟩, ⟨_, μ', e1, rfl, ⟨by rw [o1 18 (by decide)]; exact h0, rwC_congr (o1 _ (by decide)) (o1 _ (by decide)) h1, rwC_congr (o1 _ (by decide)) (o1 _ (by decide)) h2, rwC_congr (o1 _ (by decide)) (o1 _ (by decide)) h3, q1, q2, rwC_congr (o1 _ (by decide)) (o1 _ (by decide)) h6, rwC_congr (o1 _ (by decide)) (o1 _ (by decide)) h7, rwC_congr (o1 _ (by decide)) (o1 _ (by decide)) h8, rwC_congr (o1 _ (by decide)) (o1 _ (by decide)) h9, rwC_congr (o1 _ (by decide)) (o1 _ (by decide)) h10⟩, o1⟩, ⟨_, ν', e2, rfl, ⟨(o3 _ (by decide)).trans g0, rwM_congr (o3 _ (by decide)) (o2 _ (by decide)) g1, rwM_congr (o3 _ (by decide)) (o2 _ (by decide)) g2, rwM_congr (o3 _ (by decide)) (o2 _ (by decide)) g3, p1, rwM_congr (o3 _ (by decide)) (o2 _ (by decide)) g5, rwM_congr (o3 _ (by decide)) (o2 _ (by decide)) g6, rwM_congr (o3 _ (by decide)) (o2 _ (by decide)) g7, rwM_congr (o3 _ (by decide)) (o2 _ (by decide)) g8, rwM_congr (o3 _ (by decide)) (o2 _ (by decide)) g9⟩, o2, o3⟩⟩
