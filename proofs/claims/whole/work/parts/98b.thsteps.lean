/-! L3: THOUGHTS AND TELLINGS AS STEPS (by program) -/
def PT (k : Nat) : Prop := k ∈ [46, 47]
def PQ (k j : Nat) : Prop := (k = 59 ∧ j = 0) ∨ k ∈ [84, 87, 89, 90, 92, 96, 97]
theorem pq_0 : PQ 59 0 := Or.inl ⟨rfl, rfl⟩
theorem pq_r {k : Nat} (h : k ∈ [84, 87, 89, 90, 92, 96, 97]) (j : Nat) : PQ k j := Or.inr h
theorem pq_2 {ν ν1 : Mu} (h : ∀ k j, ¬ PQ k j → ν1 k j = ν k j) : (∀ k, k ∉ [59, 84, 87, 89, 90, 92, 96, 97] → ν1 k = ν k) ∧ ∀ j, j ≠ 0 → ν1 59 j = ν 59 j := by
  refine ⟨fun k hk => funext (fun j => h k j (fun z => ?_)), fun j hj => h 59 j (fun z => ?_)⟩
  · rcases z with z | z
    · exact hk (by rw [z.1]; decide)
    · exact hk (List.mem_cons_of_mem _ z)
  · rcases z with z | z
    · exact hj z.2
    · exact absurd z (by decide)
theorem rep_tc {μ : Mu} {y : Ly} {z : Zt} (h : RepC μ y z) : ToldC μ (poT (zP z)) (poK (zP z)) := h.1.2.2.2.2.2.2.2.2
theorem rep_tm {ν : Mu} {z : Zt} (h : RepM ν z) : ToldM ν (poT (zP z)) (poK (zP z)) := h.1.2.2.2.2.2.2.2.2
theorem rep_to {z : Zt} (h : AbsOk z) : ToldOk (poK (zP z)) := h.1.2.2
theorem sn_coins (v1 v2 : Int32) : StepN (Sf_coins 0 v1 v2) (Mo_coins 59 v1 v2) := by
  refine stepN_th (fun μ r μ1 e => fr_Sf_coins (P := fun k => k ∈ [46, 47]) (a := 0) (v1 := v1) (v2 := v2) (μ := μ)  _ _ e) (fun ν r ν1 e => pq_2 (fq_Mo_coins (P := PQ) (a := 59) (v1 := v1) (v2 := v2) (μ := ν) pq_0  _ _ e)) (fun μ ν y z hA hC hM => ?_)
  have tc := rep_tc hC
  have tm := rep_tm hM
  have to := rep_to hA
  exact th_coins μ ν v1 v2
theorem sn_switches (v1 v2 : Int32) : StepN (Sf_switches 0 v1 v2) (Mo_switches 59 v1 v2) := by
  refine stepN_th (fun μ r μ1 e => fr_Sf_switches (P := fun k => k ∈ [46, 47]) (a := 0) (v1 := v1) (v2 := v2) (μ := μ)  _ _ e) (fun ν r ν1 e => pq_2 (fq_Mo_switches (P := PQ) (a := 59) (v1 := v1) (v2 := v2) (μ := ν) pq_0  _ _ e)) (fun μ ν y z hA hC hM => ?_)
  have tc := rep_tc hC
  have tm := rep_tm hM
  have to := rep_to hA
  exact th_switches μ ν v1 v2
theorem sn_turned (v1 v2 : Int32) : StepN (Sf_turned 0 v1 v2) (Mo_turned 59 v1 v2) := by
  refine stepN_th (fun μ r μ1 e => fr_Sf_turned (P := fun k => k ∈ [46, 47]) (a := 0) (v1 := v1) (v2 := v2) (μ := μ)  _ _ e) (fun ν r ν1 e => pq_2 (fq_Mo_turned (P := PQ) (a := 59) (v1 := v1) (v2 := v2) (μ := ν) pq_0  _ _ e)) (fun μ ν y z hA hC hM => ?_)
  have tc := rep_tc hC
  have tm := rep_tm hM
  have to := rep_to hA
  exact th_turned μ ν v1 v2
theorem sn_game (v1 v2 : Int32) : StepN (Sf_game 0 v1 v2) (Mo_game 59 v1 v2) := by
  refine stepN_th (fun μ r μ1 e => fr_Sf_game (P := fun k => k ∈ [46, 47]) (a := 0) (v1 := v1) (v2 := v2) (μ := μ)  _ _ e) (fun ν r ν1 e => pq_2 (fq_Mo_game (P := PQ) (a := 59) (v1 := v1) (v2 := v2) (μ := ν) pq_0 (pq_r (by decide)) _ _ e)) (fun μ ν y z hA hC hM => ?_)
  have tc := rep_tc hC
  have tm := rep_tm hM
  have to := rep_to hA
  exact th_game μ ν v1 v2
theorem sn_week (v1 v2 v3 v4 : Int32) : StepN (Sf_week 0 v1 v2 v3 v4) (Mo_week 59 v1 v2 v3 v4) := by
  refine stepN_th (fun μ r μ1 e => fr_Sf_week (P := fun k => k ∈ [46, 47]) (a := 0) (v1 := v1) (v2 := v2) (v3 := v3) (v4 := v4) (μ := μ)  _ _ e) (fun ν r ν1 e => pq_2 (fq_Mo_week (P := PQ) (a := 59) (v1 := v1) (v2 := v2) (v3 := v3) (v4 := v4) (μ := ν) pq_0  _ _ e)) (fun μ ν y z hA hC hM => ?_)
  have tc := rep_tc hC
  have tm := rep_tm hM
  have to := rep_to hA
  exact th_week (s := poT (zP z)) tc.1 tm.1 v1 v2 v3 v4
theorem sn_weighs (v1 : Int32) : StepN (Sf_weighs 0 v1) (Mo_weighs 59 v1) := by
  refine stepN_th (fun μ r μ1 e => fr_Sf_weighs (P := fun k => k ∈ [46, 47]) (a := 0) (v1 := v1) (μ := μ) (by decide) _ _ e) (fun ν r ν1 e => pq_2 (fq_Mo_weighs (P := PQ) (a := 59) (v1 := v1) (μ := ν) pq_0  _ _ e)) (fun μ ν y z hA hC hM => ?_)
  have tc := rep_tc hC
  have tm := rep_tm hM
  have to := rep_to hA
  exact th_weighs tc.2.2.2.1 tm.2.2.2.1 v1
theorem sn_drips (v1 : Int32) : StepN (Sf_drips 0 v1) (Mo_drips 59 v1) := by
  refine stepN_th (fun μ r μ1 e => fr_Sf_drips (P := fun k => k ∈ [46, 47]) (a := 0) (v1 := v1) (μ := μ)  _ _ e) (fun ν r ν1 e => pq_2 (fq_Mo_drips (P := PQ) (a := 59) (v1 := v1) (μ := ν) pq_0  _ _ e)) (fun μ ν y z hA hC hM => ?_)
  have tc := rep_tc hC
  have tm := rep_tm hM
  have to := rep_to hA
  exact th_drips tc.2.2.2.2.2.2.1 tm.2.2.2.2.2.1 to.2.2.2.2.2.2.2.1 v1
theorem sn_shadow (v1 : Int32) : StepN (Sf_shadow 0 v1) (Mo_shadow 59 v1) := by
  refine stepN_th (fun μ r μ1 e => fr_Sf_shadow (P := fun k => k ∈ [46, 47]) (a := 0) (v1 := v1) (μ := μ) (by decide) _ _ e) (fun ν r ν1 e => pq_2 (fq_Mo_shadow (P := PQ) (a := 59) (v1 := v1) (μ := ν) pq_0 (pq_r (by decide)) _ _ e)) (fun μ ν y z hA hC hM => ?_)
  have tc := rep_tc hC
  have tm := rep_tm hM
  have to := rep_to hA
  exact th_shadow tc.2.2.2.2.1 tc.2.2.2.2.2.1 tm.2.2.2.2.1.1.1 tm.2.2.2.2.1.2.1 tm.2.2.2.2.1.1.2.2.2 tm.2.2.2.2.1.2.2.2 v1
theorem sn_told (v1 : Int32) : StepN (Sf_told 0 v1) (Mo_told 59 v1) := by
  refine stepN_th (fun μ r μ1 e => fr_Sf_told (P := fun k => k ∈ [46, 47]) (a := 0) (v1 := v1) (μ := μ) (by decide) (by decide) _ _ e) (fun ν r ν1 e => pq_2 (fq_Mo_told (P := PQ) (a := 59) (v1 := v1) (μ := ν) pq_0 (pq_r (by decide)) (pq_r (by decide)) _ _ e)) (fun μ ν y z hA hC hM => ?_)
  have tc := rep_tc hC
  have tm := rep_tm hM
  have to := rep_to hA
  exact th_told tc.2.2.2.2.1 tm.2.2.2.2.1.1.1 tm.2.2.2.2.1.1.2.2.2 v1
theorem sn_voyage (v1 v2 : Int32) : StepN (Sf_voyage 0 v1 v2) (Mo_voyage 59 v1 v2) := by
  refine stepN_th (fun μ r μ1 e => fr_Sf_voyage (P := fun k => k ∈ [46, 47]) (a := 0) (v1 := v1) (v2 := v2) (μ := μ) (by decide) _ _ e) (fun ν r ν1 e => pq_2 (fq_Mo_voyage (P := PQ) (a := 59) (v1 := v1) (v2 := v2) (μ := ν) pq_0 (pq_r (by decide)) _ _ e)) (fun μ ν y z hA hC hM => ?_)
  have tc := rep_tc hC
  have tm := rep_tm hM
  have to := rep_to hA
  exact th_voyage tc.2.2.2.2.2.2.2.1 tm.2.2.2.2.2.2.1 to.2.2.2.2.2.2.2.2.1 v1 v2
theorem sn_slabs (v1 : Int32) : StepN (Sf_slabs 0 v1) (Mo_slabs 59 v1) := by
  refine stepN_th (fun μ r μ1 e => fr_Sf_slabs (P := fun k => k ∈ [46, 47]) (a := 0) (v1 := v1) (μ := μ)  _ _ e) (fun ν r ν1 e => pq_2 (fq_Mo_slabs (P := PQ) (a := 59) (v1 := v1) (μ := ν) pq_0 (pq_r (by decide)) _ _ e)) (fun μ ν y z hA hC hM => ?_)
  have tc := rep_tc hC
  have tm := rep_tm hM
  have to := rep_to hA
  exact th_slabs μ ν v1
theorem sn_side (v1 v2 v3 : Int32) : StepN (Sf_side 0 v1 v2 v3) (Mo_side 59 v1 v2 v3) := by
  refine stepN_th (fun μ r μ1 e => fr_Sf_side (P := fun k => k ∈ [46, 47]) (a := 0) (v1 := v1) (v2 := v2) (v3 := v3) (μ := μ)  _ _ e) (fun ν r ν1 e => pq_2 (fq_Mo_side (P := PQ) (a := 59) (v1 := v1) (v2 := v2) (v3 := v3) (μ := ν) pq_0  _ _ e)) (fun μ ν y z hA hC hM => ?_)
  have tc := rep_tc hC
  have tm := rep_tm hM
  have to := rep_to hA
  exact th_side tc.2.1 tc.2.2.1 tm.2.1 tm.2.2.1 to.1 to.2.1 to.2.2.1 v1 v2 v3
theorem sn_door (v1 : Int32) : StepN (Sf_door 0 v1) (Mo_door 59 v1) := by
  refine stepN_th (fun μ r μ1 e => fr_Sf_door (P := fun k => k ∈ [46, 47]) (a := 0) (v1 := v1) (μ := μ)  _ _ e) (fun ν r ν1 e => pq_2 (fq_Mo_door (P := PQ) (a := 59) (v1 := v1) (μ := ν) pq_0  _ _ e)) (fun μ ν y z hA hC hM => ?_)
  have tc := rep_tc hC
  have tm := rep_tm hM
  have to := rep_to hA
  exact th_door hC.1.1 hA.1.1.1 hM.2.1.1 hM.1.2.2.1 v1
theorem sn_light (v1 v2 v3 : Int32) : StepN (Sf_light 0 v1 v2 v3) (Mo_light 59 v1 v2 v3) := by
  refine stepN_th (fun μ r μ1 e => fr_Sf_light (P := fun k => k ∈ [46, 47]) (a := 0) (v1 := v1) (v2 := v2) (v3 := v3) (μ := μ)  _ _ e) (fun ν r ν1 e => pq_2 (fq_Mo_light (P := PQ) (a := 59) (v1 := v1) (v2 := v2) (v3 := v3) (μ := ν) pq_0  _ _ e)) (fun μ ν y z hA hC hM => ?_)
  have tc := rep_tc hC
  have tm := rep_tm hM
  have to := rep_to hA
  exact th_light tc.2.2.2.2.2.2.2.2.1 tc.2.2.2.2.2.2.2.2.2.1 tm.2.2.2.2.2.2.2.1 tm.2.2.2.2.2.2.2.2.1 to.2.2.2.2.2.2.2.2.2.1 to.2.2.2.2.2.2.2.2.2.2.1 to.2.2.2.2.2.2.2.2.2.2.2.1 v1 v2 v3
theorem sn_heaped (v1 : Int32) : StepN (Sf_heaped 0 v1) (Mo_heaped 59 v1) := by
  refine stepN_th (fun μ r μ1 e => fr_Sf_heaped (P := fun k => k ∈ [46, 47]) (a := 0) (v1 := v1) (μ := μ) (by decide) _ _ e) (fun ν r ν1 e => pq_2 (fq_Mo_heaped (P := PQ) (a := 59) (v1 := v1) (μ := ν) pq_0 (pq_r (by decide)) _ _ e)) (fun μ ν y z hA hC hM => ?_)
  have tc := rep_tc hC
  have tm := rep_tm hM
  have to := rep_to hA
  exact th_heaped tc.2.2.2.2.2.2.2.2.2.2 tm.2.2.2.2.2.2.2.2.2 to.2.2.2.2.2.2.2.2.2.2.2.2 v1
theorem sn_hull (v1 : Int32) : StepN (Sf_hull 0 v1) (Mo_hull 59 v1) := by
  refine stepN_th (fun μ r μ1 e => fr_Sf_hull (P := fun k => k ∈ [46, 47]) (a := 0) (v1 := v1) (μ := μ)  _ _ e) (fun ν r ν1 e => pq_2 (fq_Mo_hull (P := PQ) (a := 59) (v1 := v1) (μ := ν) pq_0  _ _ e)) (fun μ ν y z hA hC hM => ?_)
  have tc := rep_tc hC
  have tm := rep_tm hM
  have to := rep_to hA
  exact th_hull tc.2.1 tc.2.2.1 tm.2.1 tm.2.2.1 to.1 to.2.1 to.2.2.1 to.2.2.2.1 v1
/-! tellings -/
def mvT (z : Zt) (t : Int32) (K : Nat → List Int32) : Zt := ((poP (zP z), poN (zP z), poL (zP z), poH (zP z), poW (zP z), poA (zP z), poB (zP z), t, K), zU z, zB z, zF z, zG z, zI z)
def TdC (μ μ1 : Mu) : Prop := ∀ k, (k < 18 ∨ 38 < k) → μ1 k = μ k
def TdM (ν ν1 : Mu) : Prop := (∀ k, k ∉ [59, 81, 82, 83, 85, 86, 88, 91, 93, 94, 95] → ν1 k = ν k) ∧ ∀ j, j ∉ [0, 41, 42, 45, 51, 55, 58, 61] → ν1 59 j = ν 59 j
theorem stepN_td {f g : Mu → Option (Int32 × Mu)} (hs : ∀ (μ ν : Mu) (t : Int32) (K : Nat → List Int32), ToldC μ t K → ToldM ν t K → ToldOk K → ∃ r t' K', ToldOk K' ∧ Ev (f μ) (fun x μ1 => x = r ∧ ToldC μ1 t' K' ∧ TdC μ μ1) ∧ Ev (g ν) (fun x ν1 => x = r ∧ ToldM ν1 t' K' ∧ TdM ν ν1)) : StepN f g := by
  intro μ y z ⟨hR, hN, hA, hy⟩
  obtain ⟨_, _, _, _, ⟨r, μ1, e1, _, _, f1⟩, _⟩ := hs μ μ _ _ (rep_tc hR) (rep_tm hN) (rep_to hA)
  have n1 : RepM μ1 z := repM_in (fun k a b => f1 k (Or.inr (by omega))) hN
  obtain ⟨r2, t', K', ok', ⟨_, μ1', e1', rfl, c1, _⟩, ⟨_, μ2, e2, rfl, m1, f2⟩⟩ := hs μ μ1 _ _ (rep_tc hR) (rep_tm n1) (rep_to hA)
  rw [e1] at e1'
  injection e1' with e1'
  injection e1' with er em
  subst er
  subst em
  refine ⟨r, μ1, μ2, mvT z t' K', e1, e2, ?_, ?_, ?_, hy⟩
  · obtain ⟨⟨g1, g2, g3, g4, g5, g6, g7, g8, g9⟩, h2, h3, h4, h5, h6, h7, h8⟩ := hR
    have o : ∀ k, (k < 18 ∨ (38 < k ∧ k < 59) ∨ 99 ≤ k) → μ2 k = μ k := fun k hk => (f2.1 k (fun z => by
      simp only [List.mem_cons, List.not_mem_nil, or_false] at z; omega)).trans (f1 k (by omega))
    have o2 : ∀ k, 18 ≤ k → k ≤ 38 → μ2 k = μ1 k := fun k a b => f2.1 k (fun z => by
      simp only [List.mem_cons, List.not_mem_nil, or_false] at z; omega)
    refine ⟨⟨figC_congr (o 2 (by omega)) (o 3 (by omega)) (o 4 (by omega)) g1, fun k hk => by rw [o 5 (by omega)]; exact g2 k hk, lawC_off (fun k a b => o k (by omega)) g3, heirC_of (o 15 (by omega)) (o 16 (by omega)) g4, weaC_of (o 14 (by omega)) (o 17 (by omega)) g5, by rw [o 17 (by omega)]; exact g6, by rw [o 17 (by omega)]; exact g7, by rw [o 17 (by omega)]; exact g8, toldC_off o2 c1⟩, by rw [o 42 (by omega)]; exact h2, by rw [o 48 (by omega)]; exact h3, fun i hi => by rw [o 49 (by omega)]; exact h4 i hi, by rw [o 48 (by omega)]; exact h5, by rw [o 48 (by omega)]; exact h6, undoC_of hy (o 0 (by omega)) (fun k hk => o k (by omega)) h7, picC_of hy (fun k hk => o k (by omega)) h8⟩
  · obtain ⟨⟨g1, g2, g3, g4, g5, g6, g7, g8, g9⟩, ⟨h2, h2b⟩, h3, h4, h5, h6, h7, h8, h9, h10, h11⟩ := n1
    have o : ∀ k, k ∈ [60, 61, 63, 64, 65, 66, 67, 68, 69, 70, 71, 72, 76, 77, 98] → μ2 k = μ1 k := fun k hk => f2.1 k (fun z => by
      simp only [List.mem_cons, List.not_mem_nil, or_false] at z hk; omega)
    have q : ∀ j, j ∈ [3, 5, 6, 9, 29, 30, 31, 34, 36, 66] → μ2 59 j = μ1 59 j := fun j hj => f2.2 j (fun z => by
      simp only [List.mem_cons, List.not_mem_nil, or_false] at z hj; omega)
    exact ⟨⟨fun k hk => by rw [o 60 (by decide)]; exact g1 k hk, fun k hk => by rw [o 63 (by decide)]; exact g2 k hk, (q 6 (by decide)).trans g3, lawM_off (fun k a b => o k (by
      simp only [List.mem_cons, List.not_mem_nil, or_false]; omega)) g4, fun k hk => by rw [o 77 (by decide)]; exact g5 k hk, weaM_of (q 34 (by decide)) (o 76 (by decide)) g6, (q 31 (by decide)).trans g7, (q 36 (by decide)).trans g8, m1⟩, ⟨(o 60 (by decide)).trans h2, (o 63 (by decide)).trans h2b⟩, (q 5 (by decide)).trans h3, (q 3 (by decide)).trans h4, fun i k a b => by rw [o 61 (by decide)]; exact h5 i k a b, (q 9 (by decide)).trans h6, fun i hi => by rw [o 64 (by decide)]; exact h7 i hi, fun i hi => by rw [o 65 (by decide)]; exact h8 i hi, (q 29 (by decide)).trans h9, (q 30 (by decide)).trans h10, imgM_of (q 66 (by decide)) (o 98 (by decide)) h11⟩
  · exact ⟨⟨hA.1.1, hA.1.2.1, ok'⟩, hA.2⟩
theorem tdC_off {R : List Nat} {μ μ1 : Mu} (h : Off R μ μ1) (hR : ∀ k, k ∈ R → 18 ≤ k ∧ k ≤ 38) : TdC μ μ1 := fun k hk => h k (fun z => by have := hR k z; omega)
theorem tdM_1 {ν ν1 : Mu} {a b : Nat} (h1 : ∀ k, k ≠ 59 → k ≠ a → ν1 k = ν k) (h2 : ∀ j, j ≠ 0 → j ≠ b → ν1 59 j = ν 59 j) (ha : a ∈ [81, 82, 83, 85, 86, 88, 91, 93, 94, 95]) (hb : b ∈ [41, 42, 45, 51, 55, 58, 61]) : TdM ν ν1 := ⟨fun k hk => h1 k (fun z => hk (by rw [z]; decide)) (fun z => hk (by rw [z]; exact List.mem_cons_of_mem _ ha)), fun j hj => h2 j (fun z => hj (by rw [z]; decide)) (fun z => hj (by rw [z]; exact List.mem_cons_of_mem _ hb))⟩
theorem tdM_2 {ν ν1 : Mu} {A B : List Nat} (h1 : ∀ k, k ∉ A → ν1 k = ν k) (h2 : ∀ j, j ∉ B → ν1 59 j = ν 59 j) (ha : ∀ k, k ∈ A → k ∈ [59, 81, 82, 83, 85, 86, 88, 91, 93, 94, 95]) (hb : ∀ j, j ∈ B → j ∈ [0, 41, 42, 45, 51, 55, 58, 61]) : TdM ν ν1 := ⟨fun k hk => h1 k (fun z => hk (ha k z)), fun j hj => h2 j (fun z => hj (hb j z))⟩
theorem sn_weight (v : Int32) : StepN (Sf_weight 0 v) (Mo_weight 59 v) := by
  refine stepN_td (fun μ ν t K hC hM hK => ?_)
  obtain ⟨r, K', ok, ⟨x1, μ1, e1, a1, a2, a3⟩, ⟨x2, ν1, e2, b1, b2, b3, b4⟩⟩ := step_weight hC hM hK v
  exact ⟨r, t, K', ok, ⟨x1, μ1, e1, a1, a2, tdC_off a3 (by decide)⟩, ⟨x2, ν1, e2, b1, b2, tdM_1 b3 b4 (by decide) (by decide)⟩⟩
theorem sn_drip (v : Int32) : StepN (Sf_drip 0 v) (Mo_drip 59 v) := by
  refine stepN_td (fun μ ν t K hC hM hK => ?_)
  obtain ⟨r, K', ok, ⟨x1, μ1, e1, a1, a2, a3⟩, ⟨x2, ν1, e2, b1, b2, b3, b4⟩⟩ := step_drip hC hM hK v
  exact ⟨r, t, K', ok, ⟨x1, μ1, e1, a1, a2, tdC_off a3 (by decide)⟩, ⟨x2, ν1, e2, b1, b2, tdM_1 b3 b4 (by decide) (by decide)⟩⟩
theorem sn_heap (v : Int32) : StepN (Sf_heap 0 v) (Mo_heap 59 v) := by
  refine stepN_td (fun μ ν t K hC hM hK => ?_)
  obtain ⟨r, K', ok, ⟨x1, μ1, e1, a1, a2, a3⟩, ⟨x2, ν1, e2, b1, b2, b3, b4⟩⟩ := step_heap hC hM hK v
  exact ⟨r, t, K', ok, ⟨x1, μ1, e1, a1, a2, tdC_off a3 (by decide)⟩, ⟨x2, ν1, e2, b1, b2, tdM_1 b3 b4 (by decide) (by decide)⟩⟩
theorem sn_stage (v : Int32) : StepN (Sf_stage 0 v) (Mo_stage 59 v) := by
  refine stepN_td (fun μ ν t K hC hM hK => ?_)
  obtain ⟨r, K', ok, ⟨x1, μ1, e1, a1, a2, a3⟩, ⟨x2, ν1, e2, b1, b2, b3, b4⟩⟩ := step_stage hC hM hK v
  exact ⟨r, t, K', ok, ⟨x1, μ1, e1, a1, a2, tdC_off a3 (by decide)⟩, ⟨x2, ν1, e2, b1, b2, tdM_1 b3 b4 (by decide) (by decide)⟩⟩
theorem sn_post (v w : Int32) : StepN (Sf_post 0 v w) (Mo_post 59 v w) := by
  refine stepN_td (fun μ ν t K hC hM hK => ?_)
  obtain ⟨r, K', ok, ⟨x1, μ1, e1, a1, a2, a3⟩, ⟨x2, ν1, e2, b1, b2, b3, b4⟩⟩ := step_post hC hM hK v w
  exact ⟨r, t, K', ok, ⟨x1, μ1, e1, a1, a2, tdC_off a3 (by decide)⟩, ⟨x2, ν1, e2, b1, b2, tdM_2 b3 b4 (by decide) (by decide)⟩⟩
theorem sn_point (v w : Int32) : StepN (Sf_point 0 v w) (Mo_point 59 v w) := by
  refine stepN_td (fun μ ν t K hC hM hK => ?_)
  obtain ⟨r, K', ok, ⟨x1, μ1, e1, a1, a2, a3⟩, ⟨x2, ν1, e2, b1, b2, b3, b4⟩⟩ := step_point hC hM hK v w
  exact ⟨r, t, K', ok, ⟨x1, μ1, e1, a1, a2, tdC_off a3 (by decide)⟩, ⟨x2, ν1, e2, b1, b2, tdM_2 b3 b4 (by decide) (by decide)⟩⟩
theorem sn_row (v w : Int32) : StepN (Sf_row 0 v w) (Mo_row 59 v w) := by
  refine stepN_td (fun μ ν t K hC hM hK => ?_)
  obtain ⟨r, K', ok, ⟨x1, μ1, e1, a1, a2, a3⟩, ⟨x2, ν1, e2, b1, b2, b3, b4⟩⟩ := step_row hC hM hK v w
  exact ⟨r, t, K', ok, ⟨x1, μ1, e1, a1, a2, tdC_off a3 (by decide)⟩, ⟨x2, ν1, e2, b1, b2, tdM_2 b3 b4 (by decide) (by decide)⟩⟩
theorem sn_date (y m d : Int32) : StepN (Sf_date 0 y m d) (Mo_date 59 y m d) := by
  refine stepN_td (fun μ ν t K hC hM hK => ?_)
  obtain ⟨r, t', ⟨x1, μ1, e1, a1, a2, a3⟩, ⟨x2, ν1, e2, b1, b2⟩⟩ := date_both hC.1 hM.1 y m d
  have f2 := fq_Mo_date (P := fun k j => k = 59 ∧ j ∈ [0, 41]) (a := 59) (v1 := y) (v2 := m) (v3 := d) (μ := ν) ⟨rfl, by decide⟩ ⟨rfl, by decide⟩ _ _ e2
  have o2 : ∀ k, k ∉ [59] → ν1 k = ν k := fun k a => funext (fun j => f2 k j (fun z => a (by rw [z.1]; decide)))
  have o3 : ∀ j, j ∉ [0, 41] → ν1 59 j = ν 59 j := fun j a => f2 59 j (fun z => a z.2)
  refine ⟨r, t', K, hK, ⟨x1, μ1, e1, a1, ?_, tdC_off a3 (by decide)⟩, ⟨x2, ν1, e2, b1, ?_, tdM_2 o2 o3 (by decide) (by decide)⟩⟩
  · obtain ⟨h0, h1, h2, h3, h4, h5, h6, h7, h8, h9, h10⟩ := hC
    have o1 : ∀ k, k ≠ 18 → μ1 k = μ k := fun k hk => a3 k (fun z => hk (List.mem_singleton.mp z))
    exact ⟨a2, rwC_congr (o1 _ (by decide)) (o1 _ (by decide)) h1, rwC_congr (o1 _ (by decide)) (o1 _ (by decide)) h2, rwC_congr (o1 _ (by decide)) (o1 _ (by decide)) h3, rwC_congr (o1 _ (by decide)) (o1 _ (by decide)) h4, rwC_congr (o1 _ (by decide)) (o1 _ (by decide)) h5, rwC_congr (o1 _ (by decide)) (o1 _ (by decide)) h6, rwC_congr (o1 _ (by decide)) (o1 _ (by decide)) h7, rwC_congr (o1 _ (by decide)) (o1 _ (by decide)) h8, rwC_congr (o1 _ (by decide)) (o1 _ (by decide)) h9, rwC_congr (o1 _ (by decide)) (o1 _ (by decide)) h10⟩
  · obtain ⟨g0, g1, g2, g3, g4, g5, g6, g7, g8, g9⟩ := hM
    exact ⟨b2, rwM_congr (o3 _ (by decide)) (o2 _ (by decide)) g1, rwM_congr (o3 _ (by decide)) (o2 _ (by decide)) g2, rwM_congr (o3 _ (by decide)) (o2 _ (by decide)) g3, rowsM_congr (o2 _ (by decide)) (o2 _ (by decide)) g4, rwM_congr (o3 _ (by decide)) (o2 _ (by decide)) g5, rwM_congr (o3 _ (by decide)) (o2 _ (by decide)) g6, rwM_congr (o3 _ (by decide)) (o2 _ (by decide)) g7, rwM_congr (o3 _ (by decide)) (o2 _ (by decide)) g8, rwM_congr (o3 _ (by decide)) (o2 _ (by decide)) g9⟩
