/-! L3: DAYS, UNDO -/
def dzN (z : Zt) : Nat → Zt × Int32
  | 0 => (z, 0)
  | k + 1 => (mvS (dzN z k).1 (goesS (poP (zP (dzN z k).1)) 0 (poL (zP (dzN z k).1)) (poH (zP (dzN z k).1)) (poW (zP (dzN z k).1)) (poN (zP (dzN z k).1))).1 (keepU (zU (dzN z k).1) (poN (zP (dzN z k).1)).1), (dzN z k).2 + nI (goesS (poP (zP (dzN z k).1)) 0 (poL (zP (dzN z k).1)) (poH (zP (dzN z k).1)) (poW (zP (dzN z k).1)) (poN (zP (dzN z k).1))).2)
theorem absOk_keep {z : Zt} {S : St} (hA : AbsOk z) (hN : NOk (poP (zP z)) S.1) : AbsOk (mvS z S (keepU (zU z) (poN (zP z)).1)) := by
  refine absOk_fig hA hN (by rw [keepU_len]; omega) (fun N hN2 => ?_)
  rcases List.mem_cons.mp (List.mem_of_mem_take hN2) with e | e
  · rw [e]; exact hA.1.1.1
  · exact hA.2.2.1 N e
theorem absOk_dz {z : Zt} (hA : AbsOk z) : ∀ k, AbsOk (dzN z k).1 := by
  intro k
  induction k with
  | zero => exact hA
  | succ k ih => exact absOk_keep ih (sp_goes ih.1.1 ih.1.2.1).1
theorem day1_c {μ : Mu} {y : Ly} {z : Zt} {k : Nat} (hA : AbsOk (dzN z k).1) (hy : LyRep y) (hR : RepC μ y (dzN z k).1) (f : Mu → Ly → Int32 → Option (Int32 × Mm)) (Q : Int32 → Mu → Ly → Prop) (hk : ∀ μ' y', y.2 <+: y'.2 → mmN y' ≤ mmN y + 3 → mmS y' ≤ mmS y + 138 → LyRep y' → RepC μ' y' (dzN z (k + 1)).1 → InC μ μ' → EvA (f μ' y' (dzN z (k + 1)).2) Q) : EvA (ckP (LySf y 0) (clm y (Sf_keep 0 μ y) (fun _ μ1 y2 => ckP (LySf y2 0) (ckP (LySf y2 0) (ckP (LySf y2 0) (cl (Dy_goBy 39 1 2 μ1) (fun x9 μ8 => f μ8 y2 ((dzN z k).2 + x9)))))))) Q := by
  refine eva_ckP hy.1 (eva_clm (eva_mono (sf_keep hy hA hR) (fun _ μ1 y1 g => ⟨g.1, ?_⟩)))
  obtain ⟨g1, g2, g3, g4, g5, g6⟩ := g
  have hC := ctxC_rep g5
  refine eva_ckP g4.1 (eva_ckP g4.1 (eva_ckP g4.1 (eva_cl (ev_mono (c_goBy hC hA.1.1 hA.1.2.1 g5.1.2.2.2.2.1) (fun x μ2 h => ?_)))))
  obtain ⟨rfl, h2, h3⟩ := h
  have e := act_c g4 g5 h2 h3
  exact hk μ2 y1 g1 g2 g3 g4 e.1 (fun k a b => (e.2 k a b).trans (g6 k a b))
theorem sa_days (d : Int32) : StepA (Sf_days 0 d) (Mo_days 59 d) := by
  refine stepA_of (fun z hA => ?_)
  have no : (d < 1 ∨ 60 < d) ∨ ¬ ((poN (zP z)).1 0 + d ≤ 9999) → ∃ r z', AbsOk z' ∧ (∀ μ y, LyRep y → RepC μ y z → EvA (Sf_days 0 d μ y) (fun x μ1 y1 => x = r ∧ y.2 <+: y1.2 ∧ mmN y1 ≤ mmN y + 220 ∧ mmS y1 ≤ mmS y + 9000 ∧ LyRep y1 ∧ RepC μ1 y1 z' ∧ InC μ μ1)) ∧ (∀ ν, RepM ν z → Ev (Mo_days 59 d ν) (fun x ν1 => x = r ∧ RepM ν1 z' ∧ InM ν ν1)) := by
    intro hc
    refine ⟨-1, z, hA, fun μ y hy hR => ?_, fun ν hR => ?_⟩
    · have e : Sf_days 0 d μ y = some (-1, (μ, y)) := by
        unfold Sf_days
        simp only [Nat.reduceAdd]
        rw [ckP_pos hy.1, ckP_pos hy.1, within_eq, cl_eq]
        by_cases c : d < 1 ∨ 60 < d
        · rw [if_pos c, if_pos rfl]
        · rw [if_neg c, if_neg (show ¬ (1 : Int32) = 0 by decide), ckP_pos hy.1, gF_eq, hR.1.1.2.2.2.1 7 (by omega) (by omega)]
          rcases hc with q | q
          · exact absurd q c
          · exact if_neg q
      rw [e]; exact eva_some ⟨rfl, List.prefix_refl _, by omega, by omega, hy, hR, inC_refl μ⟩
    · have h1 := repM_t hR
      have e : Mo_days 59 d ν = some (-1, up2 ν 59 0 0) := by
        unfold Mo_days
        simp only [Nat.reduceAdd]
        rw [pF_eq, isIn_eq, cl_eq]
        by_cases c : d < 1 ∨ 60 < d
        · rw [if_pos c, if_pos rfl]
        · rw [if_neg c, if_neg (show ¬ (1 : Int32) = 0 by decide), ldA_li (i := 0) (by decide) (by decide)]
          rcases hc with q | q
          · exact absurd q c
          · refine if_neg ?_
            show ¬ (up2 ν 59 0 0) 60 0 + d ≤ 9999
            rw [h1.2.1.1]; exact q
      rw [e]; exact ev_some ⟨rfl, h1, inM_up (inM_refl ν) (by omega)⟩
  by_cases c : d < 1 ∨ 60 < d
  · exact no (Or.inl c)
  by_cases c2 : (poN (zP z)).1 0 + d ≤ 9999
  rotate_left
  · exact no (Or.inr c2)
  obtain ⟨n, hn1, hn, rfl⟩ := nI_rng (lo := 1) (n := 60) (by omega) (by omega) (fun q => c (Or.inl q)) (fun q => c (Or.inr q))
  refine ⟨(dzN z n).2, (dzN z n).1, absOk_dz hA n, fun μ y hy hR => ?_, fun ν hR => ?_⟩
  · unfold Sf_days
    simp only [Nat.reduceAdd]
    rw [ckP_pos hy.1, ckP_pos hy.1, within_eq, cl_eq, if_neg c, if_neg (show ¬ (1 : Int32) = 0 by decide), ckP_pos hy.1, gF_eq, hR.1.1.2.2.2.1 7 (by omega) (by omega)]
    show EvA (if (poN (zP z)).1 0 + nI n ≤ 9999 then Sf_days_37 0 (nI n) FU 0 0 μ y else some (-1, (μ, y))) _
    rw [if_pos c2]
    suffices K : ∀ μ1 y1, LyRep y1 → RepC μ1 y1 (dzN z 0).1 → y.2 <+: y1.2 → mmN y1 ≤ mmN y + 3 * 0 → mmS y1 ≤ mmS y + 138 * 0 → InC μ μ1 → EvA (Sf_days_37 0 (nI n) FU (dzN z 0).2 (nI 0) μ1 y1) (fun x μ2 y2 => x = (dzN z n).2 ∧ y.2 <+: y2.2 ∧ mmN y2 ≤ mmN y + 220 ∧ mmS y2 ≤ mmS y + 9000 ∧ LyRep y2 ∧ RepC μ2 y2 (dzN z n).1 ∧ InC μ μ2) from K μ y hy hR (List.prefix_refl _) (by omega) (by omega) (inC_refl μ)
    unfold Sf_days_37
    refine lp_fu (F := fun kb => Sf_days_37b 0 kb (nI n)) (z := fun _ _ _ _ => none) n (fun k A => ∀ μ1 y1, LyRep y1 → RepC μ1 y1 (dzN z k).1 → y.2 <+: y1.2 → mmN y1 ≤ mmN y + 3 * k → mmS y1 ≤ mmS y + 138 * k → InC μ μ1 → EvA (A (dzN z k).2 (nI k) μ1 y1) (fun x μ2 y2 => x = (dzN z n).2 ∧ y.2 <+: y2.2 ∧ mmN y2 ≤ mmN y + 220 ∧ mmS y2 ≤ mmS y + 9000 ∧ LyRep y2 ∧ RepC μ2 y2 (dzN z n).1 ∧ InC μ μ2)) (by omega) ?_ ?_ 0 (by omega)
    · intro A μ1 y1 a1 a2 a3 a4 a5 a6
      show EvA (Sf_days_37b 0 A (nI n) _ _ μ1 y1) _
      unfold Sf_days_37b
      rw [if_pos (nI_le (Nat.le_refl _) (by omega))]
      exact eva_some ⟨rfl, a3, by omega, by omega, a1, a2, a6⟩
    · intro k A hk ih μ1 y1 a1 a2 a3 a4 a5 a6
      show EvA (Sf_days_37b 0 A (nI n) _ _ μ1 y1) _
      unfold Sf_days_37b
      simp only [Nat.reduceAdd]
      rw [if_neg (nI_ge hk (by omega)), nI_1]
      refine day1_c (absOk_dz hA k) a1 a2 (fun μ' y' v => A v (nI (k + 1)) μ' y') _ (fun μ' y' b1 b2 b3 b4 b5 b6 => ?_)
      exact ih μ' y' b4 b5 (a3.trans b1) (by omega) (by omega) (fun k u v => (b6 k u v).trans (a6 k u v))
  · have h1 := repM_t hR
    unfold Mo_days
    simp only [Nat.reduceAdd]
    rw [pF_eq, isIn_eq, cl_eq, if_neg c, if_neg (show ¬ (1 : Int32) = 0 by decide), ldA_li (i := 0) (by decide) (by decide)]
    show Ev (if (up2 ν 59 0 0) 60 0 + nI n ≤ 9999 then Mo_days_36 59 (nI n) FU 0 0 (up2 ν 59 0 0) else some (-1, up2 ν 59 0 0)) _
    rw [h1.2.1.1, if_pos c2]
    suffices K : ∀ ν1, RepM ν1 (dzN z 0).1 → InM ν ν1 → Ev (Mo_days_36 59 (nI n) FU (dzN z 0).2 (nI 0) ν1) (fun x ν2 => x = (dzN z n).2 ∧ RepM ν2 (dzN z n).1 ∧ InM ν ν2) from K _ h1 (inM_up (inM_refl ν) (by omega))
    unfold Mo_days_36
    refine lp_fu (F := fun kb => Mo_days_36b 59 kb (nI n)) (z := fun _ _ _ => none) n (fun k A => ∀ ν1, RepM ν1 (dzN z k).1 → InM ν ν1 → Ev (A (dzN z k).2 (nI k) ν1) (fun x ν2 => x = (dzN z n).2 ∧ RepM ν2 (dzN z n).1 ∧ InM ν ν2)) (by omega) ?_ ?_ 0 (by omega)
    · intro A ν1 a1 a2
      show Ev (Mo_days_36b 59 A (nI n) _ _ ν1) _
      unfold Mo_days_36b
      rw [if_pos (nI_le (Nat.le_refl _) (by omega))]
      exact ev_some ⟨rfl, a1, a2⟩
    · intro k A hk ih ν1 a1 a2
      show Ev (Mo_days_36b 59 A (nI n) _ _ ν1) _
      unfold Mo_days_36b
      have hAk := absOk_dz hA k
      rw [if_neg (nI_ge hk (by omega)), nI_1]
      refine ev_cl (ev_mono (mo_keep hAk a1) (fun _ ν2 g => ?_))
      have hM := ctxM_rep g.1
      refine ev_cl (ev_mono (m_goBy hM hAk.1.1 hAk.1.2.1 g.1.1.2.2.2.2.2.1) (fun x ν3 h => ?_))
      obtain ⟨rfl, h2, h3⟩ := h
      have e := act_m g.1 h2 h3
      exact ih ν3 e.1 (fun k u => ((e.2 k u).trans (g.2 k u)).trans (a2 k u))
/-! undo -/
def patN (A B : Nat → Int32) : Nat → Int32 := fun k => if k < 118 then A k else B k
theorem patN_lo {A B : Nat → Int32} {k : Nat} (h : k < 118) : patN A B k = A k := if_pos h
theorem nok_row {P : Nat} {N N' : Nat → Int32} (e : ∀ k, k < 118 → N' k = N k) (h : NOk P N) : NOk P N' := by
  have hP := h.1
  obtain ⟨h1, h2, h3, h4, h5, h6⟩ := h
  refine ⟨h1, fun p hp => ?_, fun p hp => ?_, fun p hp => ?_, fun p q hp hq => ?_, ?_⟩
  · rw [e _ (by omega)]; exact h2 p hp
  · rw [e _ (by omega), e _ (by omega), e _ (by omega)]; exact h3 p hp
  · rw [e _ (by omega)]; exact h4 p hp
  · rw [e _ (by omega), e _ (by omega)]; exact h5 p q hp hq
  · rw [e _ (by omega)]; exact h6
theorem sa_undo : StepA (Sf_undo 0) (Mo_undo 59) := by
  refine stepA_of (fun z hA => ?_)
  have hl := hA.2.1
  rcases hU : zU z with _ | ⟨N, U⟩
  · refine ⟨0, z, hA, fun μ y hy hR => ?_, fun ν hR => ?_⟩
    · obtain ⟨a, ha, h7, h8, _⟩ := hR.2.2.2.2.2.2.1
      rw [hU] at h8
      unfold Sf_undo
      rw [ckP_pos hy.1, gF_eq, h8, if_neg (show ¬ (0 : Int32) < nI ([] : List (Nat → Int32)).length by decide)]
      exact eva_some ⟨rfl, List.prefix_refl _, by omega, by omega, hy, hR, inC_refl μ⟩
    · have h1 := repM_t hR
      have h3 := h1.2.2.2.1
      rw [hU] at h3
      unfold Mo_undo
      rw [pF_eq, gF_eq, h3, if_pos (show nI ([] : List (Nat → Int32)).length = 0 by decide)]
      exact ev_some ⟨rfl, h1, inM_up (inM_refl ν) (by omega)⟩
  have hlU : (N :: U).length ≤ 6 := by rw [← hU]; exact hl
  have hlU' : U.length ≤ 5 := by simp only [List.length_cons] at hlU; omega
  have hNk : NOk (poP (zP z)) N := hA.2.2.1 N (by rw [hU]; exact List.mem_cons_self)
  have hN' : NOk (poP (zP z)) (patN N (poN (zP z)).1) := nok_row (fun k hk => patN_lo hk) hNk
  refine ⟨1, mvS z (patN N (poN (zP z)).1, (poN (zP z)).2) U, absOk_fig hA hN' (by omega) (fun M hM => hA.2.2.1 M (by rw [hU]; exact List.mem_cons_of_mem _ hM)), fun μ y hy hR => ?_, fun ν hR => ?_⟩
  · obtain ⟨a, ha, h7, h8, hs, hu⟩ := hR.2.2.2.2.2.2.1
    rw [hU] at h8 hu
    obtain ⟨q, hq, hF⟩ := hu 0 (by simp only [List.length_cons]; omega)
    have hF' : FigC (poP (zP z)) q 0 μ N := hF
    rw [Nat.sub_zero] at hq
    have hr := hy.2.2.1 _ q (Nat.mod_lt _ (by decide)) hq
    have e7 : jrem ((nI a + 6) - 1) 6 = nI ((a + 5) % 6) := by
      rw [show (nI a + 6) - 1 = nI (a + 5) by rw [show nI a + 6 = nI (a + 6) from nI_add a 6]; exact pk_sub (b := 1) (by omega), jrem_6 (by omega)]
    have h8' : μ 0 8 = nI (U.length + 1) := h8
    unfold Sf_undo
    simp only [Nat.reduceAdd]
    refine eva_ckP hy.1 (eva_gF h8' ?_)
    rw [if_pos (show (0 : Int32) < nI (U.length + 1) from nI_lt (a := 0) (by omega) (by omega))]
    refine eva_ckP hy.1 (eva_gF h7 (eva_ckP hy.1 (eva_pF (eva_ckP hy.1 (eva_gF (v := nI (U.length + 1)) ?_ (eva_ckP hy.1 (eva_pF ?_)))))))
    · rw [up2_off (Or.inr (by decide))]; exact h8'
    rw [e7, nI_pred]
    generalize hμ3 : up2 (up2 μ 0 7 (nI ((a + 5) % 6))) 0 8 (nI U.length) = μ3
    have e3 : ∀ k, k ≠ 0 → μ3 k = μ k := fun k hk => by rw [← hμ3, up2_ne hk, up2_ne hk]
    have e37 : μ3 0 7 = nI ((a + 5) % 6) := by rw [← hμ3, up2_off (Or.inr (by decide)), up2_same]
    have e38 : μ3 0 8 = nI U.length := by rw [← hμ3, up2_same]
    refine eva_ckP hy.1 (eva_ckP hy.1 (eva_ckP hy.1 (eva_gF e37 (eva_ckP hy.1 (eva_clm (eva_mono (sf_keptAt (Nat.mod_lt _ (by decide)) hy) (fun q1 μ4 y4 g => ?_)))))))
    obtain ⟨p1, n1, s1, r1, k1, k2, k3, m1, w1⟩ := g
    obtain ⟨rfl, rfl, rfl⟩ : q1 = q ∧ μ4 = μ3 ∧ y4 = y := by
      rcases w1 with ⟨x, e, f⟩ | ⟨x, _⟩
      · rw [hq] at x
        injection x with x
        exact ⟨x.symm, e, f⟩
      · rw [hq] at x; cases x
    refine ⟨p1, eva_ckP hy.1 (eva_ckP hr.2.2 ?_)⟩
    have hF3 : FigC (poP (zP z)) q1 0 μ4 N := figC_congr (e3 q1 (by omega)) (e3 (q1 + 1) (by omega)) (e3 (q1 + 2) (by omega)) hF'
    have h20 : μ4 2 0 = 0 := by rw [e3 2 (by decide)]; exact hR.1.1.2.1
    refine eva_cl (ev_mono (fg_copy hF3 h20 (Or.inr (by omega))) (fun _ μ5 g => eva_some ⟨rfl, p1, by omega, by omega, hy, ?_, fun k b1 b2 => ?_⟩))
    · have o5 : ∀ k, k ≠ 0 → k ≠ 2 → k ≠ 3 → k ≠ 4 → μ5 k = μ k := fun k h0 h2 h3 h4 => by
        rw [g.2 k (fun z => by
          simp only [List.mem_cons, List.not_mem_nil, or_false] at z; omega), e3 k h0]
      have o50 : μ5 0 = μ4 0 := g.2 0 (by decide)
      refine repC_fig hy hR (fun k hk h59 => o5 k (fun z => hk (by rw [z]; decide)) (fun z => hk (by rw [z]; decide)) (fun z => hk (by rw [z]; decide)) (fun z => hk (by rw [z]; decide))) (figC_row (fun k hk => patN_lo hk) g.1) (fun k hk => by rw [o5 5 (by decide) (by decide) (by decide) (by decide)]; exact hR.1.2.1 k hk) ⟨(a + 5) % 6, Nat.mod_lt _ (by decide), by rw [o50]; exact e37, by rw [o50]; exact e38, fun i r hi hr2 => ?_, fun j hj => ?_⟩ (picC_of hy (fun k hk => o5 k (by omega) (by omega) (by omega) (by omega)) hR.2.2.2.2.2.2.2)
      · have := (hy.2.2.1 i r hi hr2).1
        rw [o5 r (by omega) (by omega) (by omega) (by omega)]; exact hs i r hi hr2
      · obtain ⟨r, hr2, hf⟩ := hu (j + 1) (by simp only [List.length_cons]; omega)
        have := (hy.2.2.1 _ r (Nat.mod_lt _ (by decide)) hr2).1
        refine ⟨r, ?_, figC_congr (o5 r (by omega) (by omega) (by omega) (by omega)) (o5 (r + 1) (by omega) (by omega) (by omega) (by omega)) (o5 (r + 2) (by omega) (by omega) (by omega) (by omega)) hf⟩
        have hj6 : j < 5 := by have : j < U.length := hj; omega
        rw [show ((a + 5) % 6 + 5 - j) % 6 = (a + 5 - (j + 1)) % 6 by omega]; exact hr2
    · rw [g.2 k (fun z => by
        simp only [List.mem_cons, List.not_mem_nil, or_false] at z; omega), e3 k (by omega)]
  · have hR1 := repM_t hR
    have h3 := hR1.2.2.2.1
    have hUr := hR1.2.2.2.2.1
    rw [hU] at h3 hUr
    have h3' : (up2 ν 59 0 0) 59 3 = nI (U.length + 1) := h3
    unfold Mo_undo
    rw [pF_eq, gF_eq, h3', if_neg (nI_ne0 (by omega) (by omega)), gF_eq, h3', pF_eq, nI_pred]
    have hval : ∀ k, k < 118 → (up2 ν 59 0 0) 61 (118 * U.length + k) = N k := fun k hk => by
      have := hUr 0 k (by simp only [List.length_cons]; omega) hk
      rw [show (N :: U).length - 1 - 0 = U.length by simp only [List.length_cons]; omega] at this
      exact this
    generalize hν2 : up2 (up2 ν 59 0 0) 59 3 (nI U.length) = ν2
    have e2 : ∀ k, k ≠ 59 → ν2 k = ν k := fun k hk => by rw [← hν2, up2_ne hk, up2_ne hk]
    have e23 : ν2 59 3 = nI U.length := by rw [← hν2, up2_same]
    have e2f : ∀ j, j ≠ 3 → ν2 59 j = (up2 ν 59 0 0) 59 j := fun j hj => by rw [← hν2, up2_off (Or.inr hj)]
    have hval2 : ∀ k, k < 118 → ν2 61 (118 * U.length + k) = N k := fun k hk => by
      rw [e2 61 (by decide)]
      have := hval k hk
      rw [up2_ne (by decide)] at this; exact this
    suffices K : ∀ ν3 : Mu, (∀ k, k < 0 → ν3 60 k = N k) → (∀ k, 0 ≤ k → ν3 60 k = ν 60 k) → (∀ k, k ≠ 60 → ν3 k = ν2 k) → Ev (Mo_undo_26 59 FU (nI 0) ν3) (fun x ν' => x = (1 : Int32) ∧ RepM ν' (mvS z (patN N (poN (zP z)).1, (poN (zP z)).2) U) ∧ InM ν ν') from K ν2 (fun k hk => absurd hk (by omega)) (fun k _ => by rw [e2 60 (by decide)]) (fun _ _ => rfl)
    unfold Mo_undo_26
    refine lp_fu (F := fun kb => Mo_undo_26b 59 kb) (z := fun _ _ => none) 118 (fun n A => ∀ ν3 : Mu, (∀ k, k < n → ν3 60 k = N k) → (∀ k, n ≤ k → ν3 60 k = ν 60 k) → (∀ k, k ≠ 60 → ν3 k = ν2 k) → Ev (A (nI n) ν3) (fun x ν' => x = (1 : Int32) ∧ RepM ν' (mvS z (patN N (poN (zP z)).1, (poN (zP z)).2) U) ∧ InM ν ν')) (by omega) ?_ ?_ 0 (by omega)
    · intro A ν3 a1 a2 a3
      show Ev (Mo_undo_26b 59 A _ ν3) _
      unfold Mo_undo_26b
      rw [if_pos (show (118 : Int32) ≤ nI 118 from nI_le (a := 118) (Nat.le_refl _) (by omega))]
      refine ev_some ⟨rfl, repM_fig hR1 (fun k hk => ?_) (fun j hj => ?_) ?_ ?_ ?_ (fun i k hi hk => ?_), fun k hk => ?_⟩
      · rw [a3 k (fun z => by rw [z] at hk; exact absurd hk (by decide)), e2 k (fun z => by rw [z] at hk; exact absurd hk (by decide)), up2_ne (fun z => by rw [z] at hk; exact absurd hk (by decide))]
      · rw [a3 59 (by decide), e2f j (fun z => by rw [z] at hj; exact absurd hj (by decide))]
      · funext k
        show ν3 60 k = patN N (poN (zP z)).1 k
        unfold patN
        by_cases hk : k < 118
        · rw [if_pos hk]; exact a1 k hk
        · rw [if_neg hk, a2 k (by omega), hR.2.1.1]
      · rw [a3 63 (by decide), e2 63 (by decide)]; exact hR.2.1.2
      · rw [a3 59 (by decide)]; exact e23
      · have hi' : i < U.length := hi
        rw [a3 61 (by decide), e2 61 (by decide)]
        have := hUr (i + 1) k (by simp only [List.length_cons]; omega) hk
        rw [show (N :: U).length - 1 - (i + 1) = U.length - 1 - i by simp only [List.length_cons]; omega, up2_ne (by decide)] at this
        exact this
      · rw [a3 k (by omega), e2 k (by omega)]
    · intro n A hn ih ν3 a1 a2 a3
      show Ev (Mo_undo_26b 59 A _ ν3) _
      have ix : (118 : Int32) * nI U.length + nI n = nI (118 * U.length + n) := by show nI 118 * nI U.length + nI n = _; rw [pk_mul, nI_add]
      unfold Mo_undo_26b
      simp only [Nat.reduceAdd]
      rw [if_neg (show ¬ (118 : Int32) ≤ nI n from nI_ge (b := 118) hn (by omega)), gF_eq, a3 59 (by decide), e23, ix, ldA_nI (by omega) (by omega), stA_nI hn (by omega), nI_1]
      refine ih _ (fun k hk => ?_) (fun k hk => by rw [up2_off (Or.inr (by omega))]; exact a2 k (by omega)) (fun k hk => by rw [up2_ne hk, a3 k hk])
      by_cases c : k = n
      · rw [c, up2_same, a3 61 (by decide)]; exact hval2 n hn
      · rw [up2_off (Or.inr c)]; exact a1 k (by omega)
