/-! L3: KEEPING AHEAD (reference); ACT -/
theorem mo_keep53 {ν : Mu} {n : Nat} (h3 : ν 59 3 = nI n) (hn : n ≤ 5) : Ev (Mo_keepsAhead_53 59 ν) (fun _ ν' => (∀ k, k < 118 → ν' 61 (118 * n + k) = ν 60 k) ∧ (∀ i, i < 118 * n → ν' 61 i = ν 61 i) ∧ ν' 59 3 = nI (n + 1) ∧ (∀ j, j ≠ 3 → ν' 59 j = ν 59 j) ∧ ∀ k, k ≠ 59 → k ≠ 61 → ν' k = ν k) := by
  suffices K : ∀ μ1 : Mu, (∀ k, k < 0 → μ1 61 (118 * n + k) = ν 60 k) → (∀ i, i < 118 * n → μ1 61 i = ν 61 i) → (∀ k, k ≠ 61 → μ1 k = ν k) → Ev (Mo_keepsAhead_55 59 FU (nI 0) μ1) (fun _ ν' => (∀ k, k < 118 → ν' 61 (118 * n + k) = ν 60 k) ∧ (∀ i, i < 118 * n → ν' 61 i = ν 61 i) ∧ ν' 59 3 = nI (n + 1) ∧ (∀ j, j ≠ 3 → ν' 59 j = ν 59 j) ∧ ∀ k, k ≠ 59 → k ≠ 61 → ν' k = ν k) from K ν (fun k hk => absurd hk (by omega)) (fun _ _ => rfl) (fun _ _ => rfl)
  unfold Mo_keepsAhead_55
  refine lp_fu (F := fun kb => Mo_keepsAhead_55b 59 kb) (z := fun _ _ => none) 118 (fun m A => ∀ μ1 : Mu, (∀ k, k < m → μ1 61 (118 * n + k) = ν 60 k) → (∀ i, i < 118 * n → μ1 61 i = ν 61 i) → (∀ k, k ≠ 61 → μ1 k = ν k) → Ev (A (nI m) μ1) (fun _ ν' => (∀ k, k < 118 → ν' 61 (118 * n + k) = ν 60 k) ∧ (∀ i, i < 118 * n → ν' 61 i = ν 61 i) ∧ ν' 59 3 = nI (n + 1) ∧ (∀ j, j ≠ 3 → ν' 59 j = ν 59 j) ∧ ∀ k, k ≠ 59 → k ≠ 61 → ν' k = ν k)) (by omega) ?_ ?_ 0 (by omega)
  · intro A μ1 h1 h2 h4
    show Ev (Mo_keepsAhead_55b 59 A _ μ1) _
    unfold Mo_keepsAhead_55b
    rw [if_pos (show (118 : Int32) ≤ nI 118 from nI_le (a := 118) (Nat.le_refl _) (by omega)), gF_eq, h4 59 (by decide), h3, pF_eq, nI_1]
    exact ev_some ⟨fun k hk => by rw [up2_ne (by decide)]; exact h1 k hk, fun k hk => by rw [up2_ne (by decide)]; exact h2 k hk, up2_same _ _ _ _, fun j hj => by rw [up2_off (Or.inr hj), h4 59 (by decide)], fun k a b => by rw [up2_ne a, h4 k b]⟩
  · intro m A hm ih μ1 h1 h2 h4
    show Ev (Mo_keepsAhead_55b 59 A _ μ1) _
    have ix : (118 : Int32) * nI n + nI m = nI (118 * n + m) := by show nI 118 * nI n + nI m = _; rw [pk_mul, nI_add]
    unfold Mo_keepsAhead_55b
    simp only [Nat.reduceAdd]
    rw [if_neg (show ¬ (118 : Int32) ≤ nI m from nI_ge (b := 118) hm (by omega)), gF_eq, h4 59 (by decide), h3, ldA_nI hm (by omega), ix, stA_nI (by omega) (by omega), nI_1]
    refine ih _ (fun k hk => ?_) (fun i hi => by rw [up2_off (Or.inr (by omega))]; exact h2 i hi) (fun k hk => by rw [up2_ne hk, h4 k hk])
    by_cases c : k = m
    · rw [c, up2_same, h4 60 (by decide)]
    · rw [up2_off (Or.inr (by omega))]; exact h1 k (by omega)
theorem mo_shift {ν : Mu} (h3 : ν 59 3 = 5) : Ev (Mo_keepsAhead_21 59 FU 0 ν) (fun _ ν' => (∀ k, k < 118 → ν' 61 (118 * 5 + k) = ν 60 k) ∧ (∀ i, i < 118 * 5 → ν' 61 i = ν 61 (i + 118)) ∧ ν' 59 3 = nI 6 ∧ (∀ j, j ≠ 3 → ν' 59 j = ν 59 j) ∧ ∀ k, k ≠ 59 → k ≠ 61 → ν' k = ν k) := by
  suffices K : ∀ μ1 : Mu, (∀ i, i < 0 → μ1 61 i = ν 61 (i + 118)) → (∀ i, 0 ≤ i → μ1 61 i = ν 61 i) → (∀ k, k ≠ 61 → μ1 k = ν k) → Ev (Mo_keepsAhead_21 59 FU (nI 0) μ1) (fun _ ν' => (∀ k, k < 118 → ν' 61 (118 * 5 + k) = ν 60 k) ∧ (∀ i, i < 118 * 5 → ν' 61 i = ν 61 (i + 118)) ∧ ν' 59 3 = nI 6 ∧ (∀ j, j ≠ 3 → ν' 59 j = ν 59 j) ∧ ∀ k, k ≠ 59 → k ≠ 61 → ν' k = ν k) from K ν (fun k hk => absurd hk (by omega)) (fun _ _ => rfl) (fun _ _ => rfl)
  unfold Mo_keepsAhead_21
  refine lp_fu (F := fun kb => Mo_keepsAhead_21b 59 kb) (z := fun _ _ => none) 590 (fun m A => ∀ μ1 : Mu, (∀ i, i < m → μ1 61 i = ν 61 (i + 118)) → (∀ i, m ≤ i → μ1 61 i = ν 61 i) → (∀ k, k ≠ 61 → μ1 k = ν k) → Ev (A (nI m) μ1) (fun _ ν' => (∀ k, k < 118 → ν' 61 (118 * 5 + k) = ν 60 k) ∧ (∀ i, i < 118 * 5 → ν' 61 i = ν 61 (i + 118)) ∧ ν' 59 3 = nI 6 ∧ (∀ j, j ≠ 3 → ν' 59 j = ν 59 j) ∧ ∀ k, k ≠ 59 → k ≠ 61 → ν' k = ν k)) (by omega) ?_ ?_ 0 (by omega)
  · intro A μ1 h1 h2 h4
    show Ev (Mo_keepsAhead_21b 59 A _ μ1) _
    unfold Mo_keepsAhead_21b
    have h3' : μ1 59 3 = nI 5 := by rw [h4 59 (by decide)]; exact h3
    rw [gF_eq, h3', show (118 : Int32) * nI 5 = nI 590 by decide, if_pos (nI_le (Nat.le_refl _) (by omega))]
    refine ev_mono (mo_keep53 h3' (by omega)) (fun _ ν' g => ⟨fun k hk => by rw [g.1 k hk, h4 60 (by decide)], fun i hi => by rw [g.2.1 i hi]; exact h1 i (by omega), g.2.2.1, fun j hj => by rw [g.2.2.2.1 j hj, h4 59 (by decide)], fun k a b => by rw [g.2.2.2.2 k a b, h4 k b]⟩)
  · intro m A hm ih μ1 h1 h2 h4
    show Ev (Mo_keepsAhead_21b 59 A _ μ1) _
    unfold Mo_keepsAhead_21b
    simp only [Nat.reduceAdd]
    rw [gF_eq, h4 59 (by decide), h3, show (118 : Int32) * 5 = nI 590 by decide, if_neg (nI_ge hm (by omega)), show nI m + 118 = nI (m + 118) from nI_add m 118, ldA_nI (by omega) (by omega), stA_nI (by omega) (by omega), nI_1]
    refine ih _ (fun i hi => ?_) (fun i hi => by rw [up2_off (Or.inr (by omega))]; exact h2 i (by omega)) (fun k hk => by rw [up2_ne hk, h4 k hk])
    by_cases c : i = m
    · rw [c, up2_same]; exact h2 _ (by omega)
    · rw [up2_off (Or.inr c)]; exact h1 i (by omega)
theorem mo_keep {ν : Mu} {z : Zt} (hA : AbsOk z) (hR : RepM ν z) : Ev (Mo_keepsAhead 59 ν) (fun _ ν' => RepM ν' (mvS z (poN (zP z)) (keepU (zU z) (poN (zP z)).1)) ∧ InM ν ν') := by
  have hl := hA.2.1
  have h3 := hR.2.2.2.1
  have hU := hR.2.2.2.2.1
  have h60 := hR.2.1.1
  have done : ∀ n (sh : Nat → Nat), n = min 5 (zU z).length → (∀ i k, i < n → k < 118 → sh (118 * (n - 1 - i) + k) = 118 * ((zU z).length - 1 - i) + k) → ∀ ν' : Mu, ((∀ k, k < 118 → ν' 61 (118 * n + k) = ν 60 k) ∧ (∀ i, i < 118 * n → ν' 61 i = ν 61 (sh i)) ∧ ν' 59 3 = nI (n + 1) ∧ (∀ j, j ≠ 3 → ν' 59 j = ν 59 j) ∧ ∀ k, k ≠ 59 → k ≠ 61 → ν' k = ν k) → RepM ν' (mvS z (poN (zP z)) (keepU (zU z) (poN (zP z)).1)) ∧ InM ν ν' := by
    intro n sh hn hsh ν' g
    have hlen : (keepU (zU z) (poN (zP z)).1).length = n + 1 := by rw [keepU_len]; omega
    refine ⟨repM_fig hR (fun k hk => g.2.2.2.2 k (fun z => ?_) (fun z => ?_)) (fun j hj => g.2.2.2.1 j (fun z => ?_)) ?_ ?_ ?_ (fun i k hi hk => ?_), fun k hk => g.2.2.2.2 k (by omega) (by omega)⟩
    · rw [z] at hk; exact absurd hk (by decide)
    · rw [z] at hk; exact absurd hk (by decide)
    · rw [z] at hj; exact absurd hj (by decide)
    · rw [g.2.2.2.2 60 (by decide) (by decide)]; exact h60
    · rw [g.2.2.2.2 63 (by decide) (by decide)]; exact hR.2.1.2
    · rw [hlen]; exact g.2.2.1
    · have hi2 : i < n + 1 := by rw [← hlen]; exact hi
      rw [hlen, show n + 1 - 1 - i = n - i by omega]
      rcases i with _ | i
      · rw [keepU_0, Nat.sub_zero, g.1 k hk, h60]
      · rw [keepU_s (by rw [hlen]; exact hi2), show n - (i + 1) = n - 1 - i by omega, g.2.1 _ (by omega), hsh i k (by omega) hk]
        exact hU i k (by omega) hk
  unfold Mo_keepsAhead
  rw [gF_eq, h3]
  by_cases c : (zU z).length = 6
  · rw [if_pos (by rw [c]; rfl), gF_eq, h3, c, pF_eq, show nI 6 - 1 = 5 by decide]
    refine ev_mono (mo_shift (up2_same _ _ _ _)) (fun _ ν' g => done 5 (fun i => i + 118) (by omega) (fun i k hi hk => by rw [c]; omega) ν' ⟨fun k hk => by rw [g.1 k hk, up2_ne (by decide)], fun i hi => by rw [g.2.1 i hi, up2_ne (by decide)], g.2.2.1, fun j hj => by rw [g.2.2.2.1 j hj, up2_off (Or.inr hj)], fun k a b => by rw [g.2.2.2.2 k a b, up2_ne a]⟩)
  · rw [if_neg (fun q : nI (zU z).length = 6 => c ((nI_eq (b := 6) (by omega) (by omega)).mp q))]
    exact ev_mono (mo_keep53 h3 (by omega)) (fun _ ν' g => done (zU z).length id (by omega) (fun i k hi hk => rfl) ν' g)
/-! steps that make cells -/
def StepA (f : Mu → Ly → Option (Int32 × Mm)) (g : Mu → Option (Int32 × Mu)) : Prop := ∀ μ y z, Rep μ y z → ∃ r μ1 y1 μ2 z', f μ y = some (r, (μ1, y1)) ∧ y.2 <+: y1.2 ∧ mmN y1 ≤ mmN y + 220 ∧ mmS y1 ≤ mmS y + 9000 ∧ g μ1 = some (r, μ2) ∧ Rep μ2 y1 z'
theorem stepA_of {f : Mu → Ly → Option (Int32 × Mm)} {g : Mu → Option (Int32 × Mu)} (h : ∀ z, AbsOk z → ∃ r z', AbsOk z' ∧ (∀ μ y, LyRep y → RepC μ y z → EvA (f μ y) (fun x μ1 y1 => x = r ∧ y.2 <+: y1.2 ∧ mmN y1 ≤ mmN y + 220 ∧ mmS y1 ≤ mmS y + 9000 ∧ LyRep y1 ∧ RepC μ1 y1 z' ∧ InC μ μ1)) ∧ (∀ ν, RepM ν z → Ev (g ν) (fun x ν1 => x = r ∧ RepM ν1 z' ∧ InM ν ν1))) : StepA f g := by
  intro μ y z ⟨hC, hM, hA, hy⟩
  obtain ⟨r, z', hA', h1, h2⟩ := h z hA
  obtain ⟨_, μ1, y1, e1, rfl, p1, n1, s1, hy1, c1, i1⟩ := h1 μ y hy hC
  obtain ⟨_, μ2, e2, rfl, c2, i2⟩ := h2 μ1 (repM_in i1 hM)
  exact ⟨_, μ1, y1, μ2, z', e1, p1, n1, s1, e2, repC_in hy1 i2 c1, c2, hA', hy1⟩
theorem act_c {μ μ' : Mu} {y : Ly} {z : Zt} {S : St} (hy : LyRep y) (hR : RepC μ y z) (h : CtxC (poP (zP z)) 2 0 μ' S (poL (zP z)) (poH (zP z))) (hO : Off (CR 2) μ μ') : RepC μ' y (mvS z S (zU z)) ∧ InC μ μ' := by
  have o : ∀ k, k ∉ [2, 3, 4, 5, 13, 40, 41] → μ' k = μ k := hO
  have far : ∀ k, 99 ≤ k → μ' k = μ k := fun k hk => o k (fun z => by
    simp only [List.mem_cons, List.not_mem_nil, or_false] at z; omega)
  refine ⟨repC_fig hy hR (fun k hk _ => o k (fun z => hk ?_)) h.1 h.2.1 (undoC_of hy (o 0 (by decide)) far hR.2.2.2.2.2.2.1) (picC_of hy far hR.2.2.2.2.2.2.2), fun k a b => o k (fun z => ?_)⟩
  · simp only [List.mem_cons, List.not_mem_nil, or_false] at z ⊢; omega
  · simp only [List.mem_cons, List.not_mem_nil, or_false] at z; omega
theorem act_m {ν ν' : Mu} {z : Zt} {S : St} (hR : RepM ν z) (h : CtxM (poP (zP z)) 0 ν' S (poL (zP z)) (poH (zP z))) (hO : Off RD ν ν') : RepM ν' (mvS z S (zU z)) ∧ InM ν ν' := by
  have o : ∀ k, k ∉ [60, 63, 78, 79, 80] → ν' k = ν k := hO
  refine ⟨repM_fig hR (fun k hk => o k (fun z => ?_)) (fun j hj => by rw [o 59 (by decide)]) h.1 h.2.1 (by rw [o 59 (by decide)]; exact hR.2.2.2.1) (fun i k hi hk => by rw [o 61 (by decide)]; exact hR.2.2.2.2.1 i k hi hk), fun k hk => o k (fun z => ?_)⟩
  · simp only [List.mem_cons, List.not_mem_nil, or_false] at z hk; omega
  · simp only [List.mem_cons, List.not_mem_nil, or_false] at z; omega
theorem ctxC_up {P : Nat} {μ μ' : Mu} {S S' : St} {L : LawL} {H : Nat → Int32} (h : CtxC P 2 0 μ S L H) (hF : FigC P 2 0 μ' S'.1) (hb : S'.2 = S.2) (hO : Off [3, 4] μ μ') : CtxC P 2 0 μ' S' L H ∧ Off (CR 2) μ μ' := by
  refine ⟨⟨hF, fun k hk => by rw [hO 5 (by decide), hb]; exact h.2.1 k hk, lawC_off (fun k a b => hO k (fun z => ?_)) h.2.2.1, heirC_of (hO 15 (by decide)) (hO 16 (by decide)) h.2.2.2.1, Or.inl rfl⟩, fun k hk => hO k (fun z => hk ?_)⟩
  · simp only [List.mem_cons, List.not_mem_nil, or_false] at z; omega
  · simp only [CR, List.mem_cons, List.not_mem_nil, or_false] at z ⊢; omega
theorem ctxM_up {P : Nat} {ν : Mu} {S : St} {L : LawL} {H : Nat → Int32} {i : Nat} {v : Int32} (h : CtxM P 0 ν S L H) : CtxM P 0 (up2 ν 60 i v) (upd S.1 i v, S.2) L H ∧ Off RD ν (up2 ν 60 i v) := by
  refine ⟨⟨by rw [up2_row, h.1], by rw [up2_ne (by decide)]; exact h.2.1, by rw [up2_ne (by decide)]; exact h.2.2.1, by rw [up2_ne (by decide)]; exact h.2.2.2.1, lawM_off (fun k a b => up2_ne (by omega)) h.2.2.2.2.1, fun k hk => by rw [up2_ne (by decide)]; exact h.2.2.2.2.2 k hk⟩, fun k hk => up2_ne (fun z => hk (by rw [z]; decide))⟩
theorem sa_act (w q v : Int32) : StepA (Sf_act 0 w q v) (Mo_act 59 w q v) := by
  refine stepA_of (fun z hA => ?_)
  have hP : poP (zP z) ≤ 16 := hA.1.1.1.1
  have hs := hA.1.1
  have hN := hA.1.1.1
  -- refused
  have no : (∀ μ y, RepC μ y z → Sf_canAct 0 w q v μ = some (0, μ)) → (∀ ν, RepM ν z → Mo_canAct 59 w q v ν = some (0, ν)) → ∃ r z', AbsOk z' ∧ (∀ μ y, LyRep y → RepC μ y z → EvA (Sf_act 0 w q v μ y) (fun x μ1 y1 => x = r ∧ y.2 <+: y1.2 ∧ mmN y1 ≤ mmN y + 220 ∧ mmS y1 ≤ mmS y + 9000 ∧ LyRep y1 ∧ RepC μ1 y1 z' ∧ InC μ μ1)) ∧ (∀ ν, RepM ν z → Ev (Mo_act 59 w q v ν) (fun x ν1 => x = r ∧ RepM ν1 z' ∧ InM ν ν1)) := by
    intro a b
    refine ⟨0, z, hA, fun μ y hy hR => ?_, fun ν hR => ?_⟩
    · unfold Sf_act
      rw [ckP_pos hy.1, ckP_pos hy.1, ckP_pos hy.1, a μ y hR, cl_eq, if_pos rfl]
      exact eva_some ⟨rfl, List.prefix_refl _, by omega, by omega, hy, hR, inC_refl μ⟩
    · unfold Mo_act
      rw [pF_eq, b _ (repM_t hR), cl_eq, if_pos rfl]; exact ev_some ⟨rfl, repM_t hR, inM_up (inM_refl ν) (by omega)⟩
  rcases person_or hP q with hq | ⟨p, hp, rfl⟩
  · refine no (fun μ y hR => ?_) (fun ν hR => ?_)
    · unfold Sf_canAct
      simp only [Nat.reduceAdd]
      rw [fg_isAlive_no hR.1.1 hq, cl_eq, if_pos rfl]
    · unfold Mo_canAct
      rw [mo_isPerson hR.1.2.2.1, cl_eq, if_pos hq, if_pos rfl]
  have hpw : ¬ (nI p < 0 ∨ nI (poP (zP z)) ≤ nI p) := by
    rintro (a | a)
    · exact nI_pos (by omega) a
    · exact nI_ge hp (by omega) a
  by_cases al : (poN (zP z)).1 (86 + p) = 0
  rotate_left
  · refine no (fun μ y hR => ?_) (fun ν hR => ?_)
    · unfold Sf_canAct
      simp only [Nat.reduceAdd]
      rw [fg_isAlive hR.1.1 hp, cl_eq, if_neg al, if_pos rfl]
    · unfold Mo_canAct
      rw [mo_isPerson hR.1.2.2.1, cl_eq, if_neg hpw, if_neg (show ¬ (1 : Int32) = 0 by decide), mo_isAlive hP hp, cl_eq, hR.2.1.1, if_neg al, if_pos rfl]
  -- the beginnings of both
  have bC : ∀ μ y, RepC μ y z → Sf_canAct 0 w (nI p) v μ = (if w = 0 then some (1, μ) else (if w = 1 then cl (Sf_within v 0 15 μ) (fun x4 μ3 => (if x4 = 0 then some (0, μ3) else cl (Fg_get 2 (nI p) 6 μ3) (fun x6 μ5 => (if x6 = (-1) then cl (Fg_holder 2 v μ5) (fun x8 μ7 => (if x8 = (-1) then some (1, μ7) else some (0, μ7))) else some (0, μ5))))) else (if w = 2 then (if (poN (zP z)).1 (102 + p) - 1 = -1 then some (0, μ) else some (1, μ)) else (if w = 3 then (if (poN (zP z)).1 (22 + p) ≤ 0 then some (0, μ) else some (1, μ)) else (if w = 4 then some (1, μ) else some (0, μ)))))) := by
    intro μ y hR
    unfold Sf_canAct
    simp only [Nat.reduceAdd]
    rw [fg_isAlive hR.1.1 hp, cl_eq, if_pos al, if_neg (show ¬ (1 : Int32) = 0 by decide), fg_g6 hR.1.1 hp, fg_g1 hR.1.1 hp, cl_eq, cl_eq]
  have bM : ∀ ν, RepM ν z → Mo_canAct 59 w (nI p) v ν = (if w = 1 then (if (poN (zP z)).1 (102 + p) - 1 = -1 then cl (Mo_isIn 59 v 0 15 ν) (fun x11 μ10 => (if x11 = 0 then some (0, μ10) else cl (Mo_whoHas 59 v μ10) (fun x13 μ12 => (if x13 = (-1) then some (1, μ12) else some (0, μ12))))) else some (0, ν)) else (if w = 2 then (if (poN (zP z)).1 (102 + p) - 1 = -1 then some (0, ν) else some (1, ν)) else (if w = 3 then (if 0 < (poN (zP z)).1 (22 + p) then Mo_canAct_104 59 ν else Mo_canAct_95 59 w ν) else Mo_canAct_95 59 w ν))) := by
    intro ν hR
    unfold Mo_canAct
    simp only [Nat.reduceAdd]
    rw [mo_isPerson hR.1.2.2.1, cl_eq, if_neg hpw, if_neg (show ¬ (1 : Int32) = 0 by decide), mo_isAlive hP hp, cl_eq, hR.2.1.1, if_pos al, if_neg (show ¬ (1 : Int32) = 0 by decide), mo_seatOf hP hp, cl_eq, cl_eq, show (22 : Int32) + nI p = nI (22 + p) from nI_add 22 p, ldA_nI (by omega) (by omega), hR.2.1.1]
  -- granted
  have yes : ∀ S : St, SpOk (poP (zP z)) S.1 (poL (zP z)) (poH (zP z)) → (∀ μ y, RepC μ y z → Sf_canAct 0 w (nI p) v μ = some (1, μ)) → (∀ ν, RepM ν z → Mo_canAct 59 w (nI p) v ν = some (1, ν)) → (∀ μ y, LyRep y → CtxC (poP (zP z)) 2 0 μ (poN (zP z)) (poL (zP z)) (poH (zP z)) → EvA (if w = 0 then ckP (LySf y 0) (ckP (LySf y 0) (ckP (LySf y 0) (cl (Dy_spill 39 1 2 (nI p) μ) (fun _ μ13 => some (1, (μ13, y)))))) else (if w = 1 then ckP (LySf y 0) (cl (Fg_sit 2 (nI p) v μ) (fun _ μ15 => some (1, (μ15, y)))) else (if w = 2 then ckP (LySf y 0) (cl (Fg_rise 2 (nI p) μ) (fun _ μ17 => some (1, (μ17, y)))) else (if w = 3 then ckP (LySf y 0) (ckP (LySf y 0) (ckP (LySf y 0) (cl (Dy_sweep 39 1 2 (nI p) μ) (fun _ μ21 => some (1, (μ21, y)))))) else ckP (LySf y 0) (ckP (LySf y 0) (ckP (LySf y 0) (cl (Dy_die 39 1 2 (nI p) μ) (fun _ μ25 => some (1, (μ25, y)))))))))) (fun x μ1 y1 => x = (1 : Int32) ∧ y1 = y ∧ CtxC (poP (zP z)) 2 0 μ1 S (poL (zP z)) (poH (zP z)) ∧ Off (CR 2) μ μ1)) → (∀ ν, CtxM (poP (zP z)) 0 ν (poN (zP z)) (poL (zP z)) (poH (zP z)) → Ev (if w = 0 then cl (Mo_isSpilt 59 (nI p) ν) (fun _ μ5 => Mo_act_30 59 w (nI p) v μ5) else Mo_act_30 59 w (nI p) v ν) (fun x ν1 => x = (1 : Int32) ∧ CtxM (poP (zP z)) 0 ν1 S (poL (zP z)) (poH (zP z)) ∧ Off RD ν ν1)) → ∃ r z', AbsOk z' ∧ (∀ μ y, LyRep y → RepC μ y z → EvA (Sf_act 0 w (nI p) v μ y) (fun x μ1 y1 => x = r ∧ y.2 <+: y1.2 ∧ mmN y1 ≤ mmN y + 220 ∧ mmS y1 ≤ mmS y + 9000 ∧ LyRep y1 ∧ RepC μ1 y1 z' ∧ InC μ μ1)) ∧ (∀ ν, RepM ν z → Ev (Mo_act 59 w (nI p) v ν) (fun x ν1 => x = r ∧ RepM ν1 z' ∧ InM ν ν1)) := by
    intro S hS a b c d
    refine ⟨1, mvS z S (keepU (zU z) (poN (zP z)).1), absOk_fig hA hS.1 (by rw [keepU_len]; omega) (fun N hN2 => ?_), fun μ y hy hR => ?_, fun ν hR => ?_⟩
    · rcases List.mem_cons.mp (List.mem_of_mem_take hN2) with e | e
      · rw [e]; exact hN
      · exact hA.2.2.1 N e
    · unfold Sf_act
      simp only [Nat.reduceAdd]
      refine eva_ckP hy.1 (eva_ckP hy.1 (eva_ckP hy.1 ?_))
      rw [a μ y hR, cl_eq, if_neg (show ¬ (1 : Int32) = 0 by decide)]
      refine eva_ckP hy.1 (eva_clm (eva_mono (sf_keep hy hA hR) (fun _ μ1 y1 g => ⟨g.1, ?_⟩)))
      obtain ⟨g1, g2, g3, g4, g5, g6⟩ := g
      have kc := ctxC_rep g5
      refine eva_mono (c μ1 y1 g4 kc) (fun x μ2 y2 h => ?_)
      obtain ⟨h1, rfl, h3, h4⟩ := h
      have e := act_c g4 g5 h3 h4
      exact ⟨h1, g1, by omega, by omega, g4, e.1, fun k u v => (e.2 k u v).trans (g6 k u v)⟩
    · have hR1 := repM_t hR
      unfold Mo_act
      rw [pF_eq, b _ hR1, cl_eq, if_neg (show ¬ (1 : Int32) = 0 by decide)]
      refine ev_cl (ev_mono (mo_keep hA hR1) (fun _ ν1 g => ?_))
      have km := ctxM_rep g.1
      refine ev_mono (d ν1 km) (fun x ν2 h => ?_)
      have e := act_m g.1 h.2.1 h.2.2
      exact ⟨h.1, e.1, fun k u => ((e.2 k u).trans (g.2 k u)).trans (up2_ne (by omega))⟩
  by_cases w0 : w = 0
  · subst w0
    refine yes (spillS (poP (zP z)) 0 (poL (zP z)) (poH (zP z)) (poN (zP z)) p) (sp_spill hs hp al) (fun μ y hR => by rw [bC μ y hR, if_pos rfl]) (fun ν hR => ?_) (fun μ y hy hC => ?_) (fun ν hM => ?_)
    · unfold Mo_canAct_95 Mo_canAct_104 at bM
      rw [bM ν hR, if_neg (by decide), if_neg (by decide), if_neg (by decide), if_pos rfl]
    · rw [if_pos rfl]
      refine eva_ckP hy.1 (eva_ckP hy.1 (eva_ckP hy.1 (eva_cl (ev_mono (c_spill hC hs hp al) (fun _ μ1 g => eva_some ⟨rfl, rfl, g.1, g.2.2⟩)))))
    · rw [if_pos rfl]
      refine ev_cl (ev_mono (m_spill hM hs hp al) (fun _ ν1 g => ?_))
      unfold Mo_act_30 Mo_act_47 Mo_act_62 Mo_act_72
      rw [if_neg (by decide), if_neg (by decide), if_neg (by decide), if_neg (by decide)]
      exact ev_some ⟨rfl, g⟩
  by_cases w1 : w = 1
  · subst w1
    by_cases c : v < 0 ∨ 15 < v
    · refine no (fun μ y hR => ?_) (fun ν hR => ?_)
      · rw [bC μ y hR, if_neg (by decide), if_pos rfl, within_eq, cl_eq, if_pos c, if_pos rfl]
      · rw [bM ν hR, if_pos rfl, isIn_eq, cl_eq, if_pos c, if_pos rfl]
        split <;> rfl
    obtain ⟨s, _, hs16, rfl⟩ := nI_rng (lo := 0) (n := 15) (by omega) (by omega) (fun a => c (Or.inl a)) (fun a => c (Or.inr a))
    by_cases st : (poN (zP z)).1 (102 + p) = 0
    rotate_left
    · have st' : ¬ (poN (zP z)).1 (102 + p) - 1 = -1 := by rw [sub1_eq]; exact st
      refine no (fun μ y hR => ?_) (fun ν hR => ?_)
      · rw [bC μ y hR, if_neg (by decide), if_pos rfl, within_eq, cl_eq, if_neg c, if_neg (show ¬ (1 : Int32) = 0 by decide), fg_g6 hR.1.1 hp, cl_eq, if_neg st']
      · rw [bM ν hR, if_pos rfl, if_neg st']
    have st' : (poN (zP z)).1 (102 + p) - 1 = -1 := by rw [sub1_eq]; exact st
    by_cases hw : whoN (poP (zP z)) (poN (zP z)).1 s = -1
    rotate_left
    · refine no (fun μ y hR => ?_) (fun ν hR => ?_)
      · rw [bC μ y hR, if_neg (by decide), if_pos rfl, within_eq, cl_eq, if_neg c, if_neg (show ¬ (1 : Int32) = 0 by decide), fg_g6 hR.1.1 hp, cl_eq, if_pos st', fg_holder hR.1.1 (by omega), cl_eq, if_neg hw]
      · rw [bM ν hR, if_pos rfl, if_pos st', isIn_eq, cl_eq, if_neg c, if_neg (show ¬ (1 : Int32) = 0 by decide), mo_whoHas hR.1.2.2.1 hP _ (by omega), cl_eq, hR.2.1.1, if_neg hw]
    have hw' : ∀ r, r < poP (zP z) → (poN (zP z)).1 (102 + r) ≠ nI (s + 1) := by
      rcases whoN_is (P := poP (zP z)) (N := (poN (zP z)).1) (s := s) with ⟨r, hr, e, _⟩ | ⟨_, e⟩
      · rw [hw] at e
        exact absurd e.symm (by rw [n1_ne (by omega)]; exact id)
      · exact e
    refine yes (upd (poN (zP z)).1 (102 + p) (nI (s + 1)), (poN (zP z)).2) ⟨nok_sit hN hp (by omega) al hw', hs.2⟩ (fun μ y hR => ?_) (fun ν hR => ?_) (fun μ y hy hC => ?_) (fun ν hM => ?_)
    · rw [bC μ y hR, if_neg (by decide), if_pos rfl, within_eq, cl_eq, if_neg c, if_neg (show ¬ (1 : Int32) = 0 by decide), fg_g6 hR.1.1 hp, cl_eq, if_pos st', fg_holder hR.1.1 (by omega), cl_eq, if_pos hw]
    · rw [bM ν hR, if_pos rfl, if_pos st', isIn_eq, cl_eq, if_neg c, if_neg (show ¬ (1 : Int32) = 0 by decide), mo_whoHas hR.1.2.2.1 hP _ (by omega), cl_eq, hR.2.1.1, if_pos hw]
    · rw [if_neg (by decide), if_pos rfl]
      refine eva_ckP hy.1 (eva_cl (ev_mono (fg_sit hC.1 hP hp (by omega) st hw') (fun _ μ1 g => eva_some ⟨rfl, rfl, ctxC_up hC g.1 rfl g.2⟩)))
    · unfold Mo_act_30 Mo_act_47 Mo_act_62 Mo_act_72
      simp only [Nat.reduceAdd]
      rw [if_neg (by decide), if_pos trivial, show (102 : Int32) + nI p = nI (102 + p) from nI_add 102 p, nI_1, stA_nI (by omega) (by omega), if_neg (by decide), if_neg (by decide), if_neg (by decide)]
      exact ev_some ⟨rfl, ctxM_up hM⟩
  by_cases w2 : w = 2
  · subst w2
    by_cases st : (poN (zP z)).1 (102 + p) = 0
    · have st' : (poN (zP z)).1 (102 + p) - 1 = -1 := by rw [sub1_eq]; exact st
      refine no (fun μ y hR => ?_) (fun ν hR => ?_)
      · rw [bC μ y hR, if_neg (by decide), if_neg (by decide), if_pos rfl, if_pos st']
      · rw [bM ν hR, if_neg (by decide), if_pos rfl, if_pos st']
    have st' : ¬ (poN (zP z)).1 (102 + p) - 1 = -1 := by rw [sub1_eq]; exact st
    refine yes (upd (poN (zP z)).1 (102 + p) 0, (poN (zP z)).2) ⟨nok_seat0 hN p, hs.2⟩ (fun μ y hR => ?_) (fun ν hR => ?_) (fun μ y hy hC => ?_) (fun ν hM => ?_)
    · rw [bC μ y hR, if_neg (by decide), if_neg (by decide), if_pos rfl, if_neg st']
    · rw [bM ν hR, if_neg (by decide), if_pos rfl, if_neg st']
    · rw [if_neg (by decide), if_neg (by decide), if_pos rfl]
      refine eva_ckP hy.1 (eva_cl (ev_mono (fg_rise hC.1 hN hp) (fun _ μ1 g => eva_some ⟨rfl, rfl, ctxC_up hC g.1 rfl g.2⟩)))
    · unfold Mo_act_30 Mo_act_47 Mo_act_62 Mo_act_72
      simp only [Nat.reduceAdd]
      rw [if_neg (by decide), if_neg (by decide), if_pos trivial, show (102 : Int32) + nI p = nI (102 + p) from nI_add 102 p, stA_nI (by omega) (by omega), if_neg (by decide), if_neg (by decide)]
      exact ev_some ⟨rfl, ctxM_up hM⟩
  by_cases w3 : w = 3
  · subst w3
    by_cases st : (poN (zP z)).1 (22 + p) ≤ 0
    · have st' : ¬ 0 < (poN (zP z)).1 (22 + p) := fun a => by
        rw [fa_lt] at a
        rw [fa_le] at st
        omega
      refine no (fun μ y hR => ?_) (fun ν hR => ?_)
      · rw [bC μ y hR, if_neg (by decide), if_neg (by decide), if_neg (by decide), if_pos rfl, if_pos st]
      · rw [bM ν hR, if_neg (by decide), if_neg (by decide), if_pos rfl, if_neg st']
        rfl
    have st' : 0 < (poN (zP z)).1 (22 + p) := by
      rw [fa_le] at st
      rw [fa_lt]
      omega
    refine yes (sweepS 0 (poN (zP z)) p) (sp_sweep hs hp) (fun μ y hR => ?_) (fun ν hR => ?_) (fun μ y hy hC => ?_) (fun ν hM => ?_)
    · rw [bC μ y hR, if_neg (by decide), if_neg (by decide), if_neg (by decide), if_pos rfl, if_neg st]
    · rw [bM ν hR, if_neg (by decide), if_neg (by decide), if_pos rfl, if_pos st']
      rfl
    · rw [if_neg (by decide), if_neg (by decide), if_neg (by decide), if_pos rfl]
      refine eva_ckP hy.1 (eva_ckP hy.1 (eva_ckP hy.1 (eva_cl (ev_mono (c_sweep hC hs hp) (fun _ μ1 g => eva_some ⟨rfl, rfl, g.1, g.2.2⟩)))))
    · unfold Mo_act_30 Mo_act_47 Mo_act_62 Mo_act_72
      rw [if_neg (by decide), if_neg (by decide), if_neg (by decide), if_pos rfl]
      refine ev_cl (ev_mono (m_sweep hM hs hp) (fun _ ν1 g => ?_))
      rw [if_neg (by decide)]
      exact ev_some ⟨rfl, g⟩
  by_cases w4 : w = 4
  · subst w4
    refine yes (dieS 0 (poH (zP z)) (poN (zP z)) p) (sp_die hs hp) (fun μ y hR => ?_) (fun ν hR => ?_) (fun μ y hy hC => ?_) (fun ν hM => ?_)
    · rw [bC μ y hR, if_neg (by decide), if_neg (by decide), if_neg (by decide), if_neg (by decide), if_pos rfl]
    · rw [bM ν hR, if_neg (by decide), if_neg (by decide), if_neg (by decide)]
      rfl
    · rw [if_neg (by decide), if_neg (by decide), if_neg (by decide), if_neg (by decide)]
      refine eva_ckP hy.1 (eva_ckP hy.1 (eva_ckP hy.1 (eva_cl (ev_mono (c_die hC hs hp al) (fun _ μ1 g => eva_some ⟨rfl, rfl, g.1, g.2.2⟩)))))
    · unfold Mo_act_30 Mo_act_47 Mo_act_62 Mo_act_72
      rw [if_neg (by decide), if_neg (by decide), if_neg (by decide), if_neg (by decide), if_pos rfl]
      refine ev_cl (ev_mono (m_die hM hs hp) (fun _ ν1 g => ?_))
      exact ev_some ⟨rfl, g⟩
  · refine no (fun μ y hR => ?_) (fun ν hR => ?_)
    · rw [bC μ y hR, if_neg w0, if_neg w1, if_neg w2, if_neg w3, if_neg w4]
    · unfold Mo_canAct_95 at bM
      rw [bM ν hR, if_neg w1, if_neg w2, if_neg w3, if_neg w0, if_neg w4]
