/-! L3: WEIGHT, DRIP, HEAP, of both -/
theorem step_weight {μ ν : Mu} {t : Int32} {K : Nat → List Int32} (hC : ToldC μ t K) (hM : ToldM ν t K) (hK : ToldOk K) (v : Int32) : ∃ r K', ToldOk K' ∧ Ev (Sf_weight 0 v μ) (fun x μ' => x = r ∧ ToldC μ' t K' ∧ Off [23, 24] μ μ') ∧ Ev (Mo_weight 59 v ν) (fun x ν' => x = r ∧ ToldM ν' t K' ∧ (∀ k, k ≠ 59 → k ≠ 83 → ν' k = ν k) ∧ ∀ j, j ≠ 0 → j ≠ 45 → ν' 59 j = ν 59 j) := by
  obtain ⟨h0, h1, h2, h3, h4, h5, h6, h7, h8, h9, h10⟩ := hC
  obtain ⟨g0, g1, g2, g3, g4, g5, g6, g7, g8, g9⟩ := hM
  obtain ⟨k0, k1, k2, k3, k4, k5, k6, k7, k8, k9, k10, k11, k12⟩ := hK
  have hS : ∃ μ', Sf_weight 0 v μ = some ((tl0 1 60 6 (K 2) v).2, μ') ∧ RwC μ' 23 6 1 60 (tl0 1 60 6 (K 2) v).1 := by
    obtain ⟨μ1, e, h⟩ := rw_tell h3 v
    refine ⟨μ1, ?_, h⟩
    show cl (Rw_tell 23 6 v μ) (fun x2 μ1 => some (x2, μ1)) = _
    rw [e, cl_eq]
  obtain ⟨μ', e1, q1⟩ := hS
  obtain ⟨ν', e2, q2⟩ := mo_tell (lo := 1) (hi := 60) (by omega) (by omega) g3 v
  rw [← mo_weight 59 v ν] at e2
  have f1 := fr_Sf_weight (P := fun k => k = 23 ∨ k = 24) (a := 0) (v1 := v) (μ := μ) (Or.inl rfl) (Or.inr rfl) _ _ e1
  have f2 := fq_Mo_weight (P := fun k j => (k = 59 ∧ (j = 0 ∨ j = 45)) ∨ k = 83) (a := 59) (v1 := v) (μ := ν) (Or.inl ⟨rfl, Or.inl rfl⟩) (Or.inl ⟨rfl, Or.inr rfl⟩) (fun _ => Or.inr rfl) _ _ e2
  have o1 : ∀ k, k ≠ 23 → k ≠ 24 → μ' k = μ k := fun k a b => f1 k (fun z => by rcases z with z | z; exact a z; exact b z)
  have o2 : ∀ k, k ≠ 59 → k ≠ 83 → ν' k = ν k := fun k a b => funext (fun j => f2 k j (fun z => by rcases z with z | z; exact a z.1; exact b z))
  have o3 : ∀ j, j ≠ 0 → j ≠ 45 → ν' 59 j = ν 59 j := fun j a b => f2 59 j (fun z => by rcases z with z | z; rcases z.2 with w | w; exact a w; exact b w; exact absurd z (by decide))
  exact ⟨_, kUp K 2 (tl0 1 60 6 (K 2) v).1, ⟨k0, k1, k2, k3, tl0_ok k4, k5, k6, k7, k8, k9, k10, k11, k12⟩, ⟨_, μ', e1, rfl, ⟨by rw [o1 18 (by decide) (by decide)]; exact h0, rwC_congr (o1 _ (by decide) (by decide)) (o1 _ (by decide) (by decide)) h1, rwC_congr (o1 _ (by decide) (by decide)) (o1 _ (by decide) (by decide)) h2, q1, rwC_congr (o1 _ (by decide) (by decide)) (o1 _ (by decide) (by decide)) h4, rwC_congr (o1 _ (by decide) (by decide)) (o1 _ (by decide) (by decide)) h5, rwC_congr (o1 _ (by decide) (by decide)) (o1 _ (by decide) (by decide)) h6, rwC_congr (o1 _ (by decide) (by decide)) (o1 _ (by decide) (by decide)) h7, rwC_congr (o1 _ (by decide) (by decide)) (o1 _ (by decide) (by decide)) h8, rwC_congr (o1 _ (by decide) (by decide)) (o1 _ (by decide) (by decide)) h9, rwC_congr (o1 _ (by decide) (by decide)) (o1 _ (by decide) (by decide)) h10⟩, fun k hk => o1 k (fun z => hk (by rw [z]; decide)) (fun z => hk (by rw [z]; decide))⟩, ⟨_, ν', e2, rfl, ⟨(o3 _ (by decide) (by decide)).trans g0, rwM_congr (o3 _ (by decide) (by decide)) (o2 _ (by decide) (by decide)) g1, rwM_congr (o3 _ (by decide) (by decide)) (o2 _ (by decide) (by decide)) g2, q2, rowsM_congr (o2 _ (by decide) (by decide)) (o2 _ (by decide) (by decide)) g4, rwM_congr (o3 _ (by decide) (by decide)) (o2 _ (by decide) (by decide)) g5, rwM_congr (o3 _ (by decide) (by decide)) (o2 _ (by decide) (by decide)) g6, rwM_congr (o3 _ (by decide) (by decide)) (o2 _ (by decide) (by decide)) g7, rwM_congr (o3 _ (by decide) (by decide)) (o2 _ (by decide) (by decide)) g8, rwM_congr (o3 _ (by decide) (by decide)) (o2 _ (by decide) (by decide)) g9⟩, o2, o3⟩⟩
theorem step_drip {μ ν : Mu} {t : Int32} {K : Nat → List Int32} (hC : ToldC μ t K) (hM : ToldM ν t K) (hK : ToldOk K) (v : Int32) : ∃ r K', ToldOk K' ∧ Ev (Sf_drip 0 v μ) (fun x μ' => x = r ∧ ToldC μ' t K' ∧ Off [29, 30] μ μ') ∧ Ev (Mo_drip 59 v ν) (fun x ν' => x = r ∧ ToldM ν' t K' ∧ (∀ k, k ≠ 59 → k ≠ 88 → ν' k = ν k) ∧ ∀ j, j ≠ 0 → j ≠ 51 → ν' 59 j = ν 59 j) := by
  obtain ⟨h0, h1, h2, h3, h4, h5, h6, h7, h8, h9, h10⟩ := hC
  obtain ⟨g0, g1, g2, g3, g4, g5, g6, g7, g8, g9⟩ := hM
  obtain ⟨k0, k1, k2, k3, k4, k5, k6, k7, k8, k9, k10, k11, k12⟩ := hK
  have hS : ∃ μ', Sf_drip 0 v μ = some ((tl0 2 30 6 (K 5) v).2, μ') ∧ RwC μ' 29 6 2 30 (tl0 2 30 6 (K 5) v).1 := by
    obtain ⟨μ1, e, h⟩ := rw_tell h6 v
    refine ⟨μ1, ?_, h⟩
    show cl (Rw_tell 29 6 v μ) (fun x2 μ1 => some (x2, μ1)) = _
    rw [e, cl_eq]
  obtain ⟨μ', e1, q1⟩ := hS
  obtain ⟨ν', e2, q2⟩ := mo_tell (lo := 2) (hi := 30) (by omega) (by omega) g5 v
  rw [← mo_drip 59 v ν] at e2
  have f1 := fr_Sf_drip (P := fun k => k = 29 ∨ k = 30) (a := 0) (v1 := v) (μ := μ) (Or.inl rfl) (Or.inr rfl) _ _ e1
  have f2 := fq_Mo_drip (P := fun k j => (k = 59 ∧ (j = 0 ∨ j = 51)) ∨ k = 88) (a := 59) (v1 := v) (μ := ν) (Or.inl ⟨rfl, Or.inl rfl⟩) (Or.inl ⟨rfl, Or.inr rfl⟩) (fun _ => Or.inr rfl) _ _ e2
  have o1 : ∀ k, k ≠ 29 → k ≠ 30 → μ' k = μ k := fun k a b => f1 k (fun z => by rcases z with z | z; exact a z; exact b z)
  have o2 : ∀ k, k ≠ 59 → k ≠ 88 → ν' k = ν k := fun k a b => funext (fun j => f2 k j (fun z => by rcases z with z | z; exact a z.1; exact b z))
  have o3 : ∀ j, j ≠ 0 → j ≠ 51 → ν' 59 j = ν 59 j := fun j a b => f2 59 j (fun z => by rcases z with z | z; rcases z.2 with w | w; exact a w; exact b w; exact absurd z (by decide))
  exact ⟨_, kUp K 5 (tl0 2 30 6 (K 5) v).1, ⟨k0, k1, k2, k3, k4, k5, k6, tl0_ok k7, k8, k9, k10, k11, k12⟩, ⟨_, μ', e1, rfl, ⟨by rw [o1 18 (by decide) (by decide)]; exact h0, rwC_congr (o1 _ (by decide) (by decide)) (o1 _ (by decide) (by decide)) h1, rwC_congr (o1 _ (by decide) (by decide)) (o1 _ (by decide) (by decide)) h2, rwC_congr (o1 _ (by decide) (by decide)) (o1 _ (by decide) (by decide)) h3, rwC_congr (o1 _ (by decide) (by decide)) (o1 _ (by decide) (by decide)) h4, rwC_congr (o1 _ (by decide) (by decide)) (o1 _ (by decide) (by decide)) h5, q1, rwC_congr (o1 _ (by decide) (by decide)) (o1 _ (by decide) (by decide)) h7, rwC_congr (o1 _ (by decide) (by decide)) (o1 _ (by decide) (by decide)) h8, rwC_congr (o1 _ (by decide) (by decide)) (o1 _ (by decide) (by decide)) h9, rwC_congr (o1 _ (by decide) (by decide)) (o1 _ (by decide) (by decide)) h10⟩, fun k hk => o1 k (fun z => hk (by rw [z]; decide)) (fun z => hk (by rw [z]; decide))⟩, ⟨_, ν', e2, rfl, ⟨(o3 _ (by decide) (by decide)).trans g0, rwM_congr (o3 _ (by decide) (by decide)) (o2 _ (by decide) (by decide)) g1, rwM_congr (o3 _ (by decide) (by decide)) (o2 _ (by decide) (by decide)) g2, rwM_congr (o3 _ (by decide) (by decide)) (o2 _ (by decide) (by decide)) g3, rowsM_congr (o2 _ (by decide) (by decide)) (o2 _ (by decide) (by decide)) g4, q2, rwM_congr (o3 _ (by decide) (by decide)) (o2 _ (by decide) (by decide)) g6, rwM_congr (o3 _ (by decide) (by decide)) (o2 _ (by decide) (by decide)) g7, rwM_congr (o3 _ (by decide) (by decide)) (o2 _ (by decide) (by decide)) g8, rwM_congr (o3 _ (by decide) (by decide)) (o2 _ (by decide) (by decide)) g9⟩, o2, o3⟩⟩
theorem step_heap {μ ν : Mu} {t : Int32} {K : Nat → List Int32} (hC : ToldC μ t K) (hM : ToldM ν t K) (hK : ToldOk K) (v : Int32) : ∃ r K', ToldOk K' ∧ Ev (Sf_heap 0 v μ) (fun x μ' => x = r ∧ ToldC μ' t K' ∧ Off [37, 38] μ μ') ∧ Ev (Mo_heap 59 v ν) (fun x ν' => x = r ∧ ToldM ν' t K' ∧ (∀ k, k ≠ 59 → k ≠ 95 → ν' k = ν k) ∧ ∀ j, j ≠ 0 → j ≠ 61 → ν' 59 j = ν 59 j) := by
  obtain ⟨h0, h1, h2, h3, h4, h5, h6, h7, h8, h9, h10⟩ := hC
  obtain ⟨g0, g1, g2, g3, g4, g5, g6, g7, g8, g9⟩ := hM
  obtain ⟨k0, k1, k2, k3, k4, k5, k6, k7, k8, k9, k10, k11, k12⟩ := hK
  have hS : ∃ μ', Sf_heap 0 v μ = some ((tl0 0 99 8 (K 9) v).2, μ') ∧ RwC μ' 37 8 0 99 (tl0 0 99 8 (K 9) v).1 := by
    obtain ⟨μ1, e, h⟩ := rw_tell h10 v
    refine ⟨μ1, ?_, h⟩
    show cl (Rw_tell 37 8 v μ) (fun x2 μ1 => some (x2, μ1)) = _
    rw [e, cl_eq]
  obtain ⟨μ', e1, q1⟩ := hS
  obtain ⟨ν', e2, q2⟩ := mo_tell (lo := 0) (hi := 99) (by omega) (by omega) g9 v
  rw [← mo_heap 59 v ν] at e2
  have f1 := fr_Sf_heap (P := fun k => k = 37 ∨ k = 38) (a := 0) (v1 := v) (μ := μ) (Or.inl rfl) (Or.inr rfl) _ _ e1
  have f2 := fq_Mo_heap (P := fun k j => (k = 59 ∧ (j = 0 ∨ j = 61)) ∨ k = 95) (a := 59) (v1 := v) (μ := ν) (Or.inl ⟨rfl, Or.inl rfl⟩) (Or.inl ⟨rfl, Or.inr rfl⟩) (fun _ => Or.inr rfl) _ _ e2
  have o1 : ∀ k, k ≠ 37 → k ≠ 38 → μ' k = μ k := fun k a b => f1 k (fun z => by rcases z with z | z; exact a z; exact b z)
  have o2 : ∀ k, k ≠ 59 → k ≠ 95 → ν' k = ν k := fun k a b => funext (fun j => f2 k j (fun z => by rcases z with z | z; exact a z.1; exact b z))
  have o3 : ∀ j, j ≠ 0 → j ≠ 61 → ν' 59 j = ν 59 j := fun j a b => f2 59 j (fun z => by rcases z with z | z; rcases z.2 with w | w; exact a w; exact b w; exact absurd z (by decide))
  exact ⟨_, kUp K 9 (tl0 0 99 8 (K 9) v).1, ⟨k0, k1, k2, k3, k4, k5, k6, k7, k8, k9, k10, k11, tl0_ok k12⟩, ⟨_, μ', e1, rfl, ⟨by rw [o1 18 (by decide) (by decide)]; exact h0, rwC_congr (o1 _ (by decide) (by decide)) (o1 _ (by decide) (by decide)) h1, rwC_congr (o1 _ (by decide) (by decide)) (o1 _ (by decide) (by decide)) h2, rwC_congr (o1 _ (by decide) (by decide)) (o1 _ (by decide) (by decide)) h3, rwC_congr (o1 _ (by decide) (by decide)) (o1 _ (by decide) (by decide)) h4, rwC_congr (o1 _ (by decide) (by decide)) (o1 _ (by decide) (by decide)) h5, rwC_congr (o1 _ (by decide) (by decide)) (o1 _ (by decide) (by decide)) h6, rwC_congr (o1 _ (by decide) (by decide)) (o1 _ (by decide) (by decide)) h7, rwC_congr (o1 _ (by decide) (by decide)) (o1 _ (by decide) (by decide)) h8, rwC_congr (o1 _ (by decide) (by decide)) (o1 _ (by decide) (by decide)) h9, q1⟩, fun k hk => o1 k (fun z => hk (by rw [z]; decide)) (fun z => hk (by rw [z]; decide))⟩, ⟨_, ν', e2, rfl, ⟨(o3 _ (by decide) (by decide)).trans g0, rwM_congr (o3 _ (by decide) (by decide)) (o2 _ (by decide) (by decide)) g1, rwM_congr (o3 _ (by decide) (by decide)) (o2 _ (by decide) (by decide)) g2, rwM_congr (o3 _ (by decide) (by decide)) (o2 _ (by decide) (by decide)) g3, rowsM_congr (o2 _ (by decide) (by decide)) (o2 _ (by decide) (by decide)) g4, rwM_congr (o3 _ (by decide) (by decide)) (o2 _ (by decide) (by decide)) g5, rwM_congr (o3 _ (by decide) (by decide)) (o2 _ (by decide) (by decide)) g6, rwM_congr (o3 _ (by decide) (by decide)) (o2 _ (by decide) (by decide)) g7, rwM_congr (o3 _ (by decide) (by decide)) (o2 _ (by decide) (by decide)) g8, q2⟩, o2, o3⟩⟩
