/-! L3: LOOK -/
theorem stepN_pure {f g : Mu → Option (Int32 × Mu)} (h : ∀ z, AbsOk z → ∃ r, (∀ μ y, RepC μ y z → f μ = some (r, μ)) ∧ ∀ ν, RepM ν z → g ν = some (r, up2 ν 59 0 0)) : StepN f g := by
  refine stepN_of (fun z hA => ?_)
  obtain ⟨r, h1, h2⟩ := h z hA
  exact ⟨r, z, hA, fun μ y _ hR => by rw [h1 μ y hR]; exact ev_some ⟨rfl, hR, inC_refl μ⟩, fun ν hR => by rw [h2 ν hR]; exact ev_some ⟨rfl, repM_t hR, inM_up (inM_refl ν) (by omega)⟩⟩
def aI (N : Nat → Int32) : Nat → Int32
  | 0 => 0
  | k + 1 => if N (86 + k) = 0 then aI N k ||| jshl 1 (nI k) else aI N k
theorem or_shl0 (x y : Int32) : x ||| jshl 0 y = x := by
  unfold jshl
  simp
theorem fg_aliveSet {P c : Nat} {th : Int32} {μ : Mu} {N : Nat → Int32} (h : FigC P c th μ N) (hN : NOk P N) : Fg_aliveSet c μ = some (aI N P, μ) := by
  have hP := h.1
  suffices K : Fg_aliveSet_4 c FU (aI N 0) (nI 0) μ = some (aI N P, μ) from K
  unfold Fg_aliveSet_4
  refine lp_fu (F := fun kb => Fg_aliveSet_4b c kb) (z := fun _ _ _ => none) P (fun k A => A (aI N k) (nI k) μ = some (aI N P, μ)) (by omega) ?_ ?_ 0 (by omega)
  · intro A
    show Fg_aliveSet_4b c A _ (nI P) μ = _
    unfold Fg_aliveSet_4b
    rw [gF_eq, h.2.2.1, if_pos (nI_le (Nat.le_refl _) (by omega))]
  · intro k A hk ih
    show Fg_aliveSet_4b c A _ (nI k) μ = _
    have e : aI N (k + 1) = if N (86 + k) = 0 then aI N k ||| jshl 1 (nI k) else aI N k := rfl
    unfold Fg_aliveSet_4b
    rw [gF_eq, h.2.2.1, if_neg (nI_ge hk (by omega)), show (5 : Int32) = nI 5 from rfl, fg_get h k 5 hk (by omega), cl_eq, h.2.2.2.2.2.1 k hk, nI_1]
    rcases hN.2.2.1 k hk with z | ⟨z, _, _⟩
    · rw [e, if_pos z] at ih
      rw [z]; exact ih
    · rw [e, if_neg (by rw [z]; decide)] at ih
      rw [z, show (1 : Int32) - 1 = 0 by decide, or_shl0]; exact ih
theorem mo_aliveSet {P : Nat} {μ : Mu} {N : Nat → Int32} (h6 : μ 59 6 = nI P) (hP : P ≤ 16) (h60 : μ 60 = N) : Mo_aliveSet 59 μ = some (aI N P, μ) := by
  suffices K : Mo_aliveSet_4 59 FU (aI N 0) (nI 0) μ = some (aI N P, μ) from K
  unfold Mo_aliveSet_4
  refine lp_fu (F := fun kb => Mo_aliveSet_4b 59 kb) (z := fun _ _ _ => none) P (fun k A => A (aI N k) (nI k) μ = some (aI N P, μ)) (by omega) ?_ ?_ 0 (by omega)
  · intro A
    show Mo_aliveSet_4b 59 A _ (nI P) μ = _
    unfold Mo_aliveSet_4b
    rw [gF_eq, h6, if_pos (nI_le (Nat.le_refl _) (by omega))]
  · intro k A hk ih
    show Mo_aliveSet_4b 59 A _ (nI k) μ = _
    have e : aI N (k + 1) = if N (86 + k) = 0 then aI N k ||| jshl 1 (nI k) else aI N k := rfl
    unfold Mo_aliveSet_4b Mo_aliveSet_26
    rw [gF_eq, h6, if_neg (nI_ge hk (by omega)), mo_isAlive hP hk, cl_eq, nI_1, h60]
    by_cases c : N (86 + k) = 0
    · rw [e, if_pos c] at ih
      rw [if_pos c, if_neg (by decide)]; exact ih
    · rw [e, if_neg c] at ih
      rw [if_neg c, if_pos rfl]; exact ih
theorem sn_look (v : Int32) : StepN (Sf_look 0 v) (Mo_look 59 v) := by
  refine stepN_pure (fun z hA => ?_)
  have hP : poP (zP z) ≤ 16 := hA.1.1.1.1
  have hN := hA.1.1.1
  have cs : (∃ j, j < 36 ∧ v = nI j) ∨ (∀ j, j < 36 → v ≠ nI j) ∧ (v < 20 ∨ 35 < v) := by
    rcases pk_ix v (n := 36) (by omega) with q | q | q
    · exact Or.inr ⟨fun j hj e => nI_pos (show j < 2 ^ 31 by omega) (e ▸ q), Or.inl (by rw [fa_lt] at q ⊢; rw [show (0 : Int32).toInt = 0 by decide] at q; rw [show (20 : Int32).toInt = 20 by decide]; omega)⟩
    · exact Or.inr ⟨fun j hj e => nI_ge hj (by omega) (e ▸ q), Or.inr (by rw [fa_le, nI_toInt (by omega)] at q; rw [fa_lt, show (35 : Int32).toInt = 35 by decide]; omega)⟩
    · exact Or.inl q
  have no : (∀ j, j < 14 → v ≠ nI j) → (v < 20 ∨ 35 < v) → ∃ r, (∀ μ y, RepC μ y z → Sf_look 0 v μ = some (r, μ)) ∧ ∀ ν, RepM ν z → Mo_look 59 v ν = some (r, up2 ν 59 0 0) := by
    intro hn hv
    refine ⟨-100000, fun μ y hR => ?_, fun ν hR => ?_⟩
    · unfold Sf_look
      rw [within_eq, cl_eq, if_pos hv, if_pos rfl, if_neg (show ¬ v = 0 from hn 0 (by omega)), if_neg (show ¬ v = 1 from hn 1 (by omega)), if_neg (show ¬ v = 2 from hn 2 (by omega)), if_neg (show ¬ v = 3 from hn 3 (by omega)), if_neg (show ¬ v = 4 from hn 4 (by omega)), if_neg (show ¬ v = 5 from hn 5 (by omega)), if_neg (show ¬ v = 6 from hn 6 (by omega)), if_neg (show ¬ v = 7 from hn 7 (by omega)), if_neg (show ¬ v = 8 from hn 8 (by omega)), if_neg (show ¬ v = 9 from hn 9 (by omega)), if_neg (show ¬ v = 10 from hn 10 (by omega)), if_neg (show ¬ v = 11 from hn 11 (by omega)), if_neg (show ¬ v = 12 from hn 12 (by omega)), if_neg (show ¬ v = 13 from hn 13 (by omega))]
    · unfold Mo_look
      rw [pF_eq, if_neg (show ¬ v = 0 from hn 0 (by omega)), if_neg (show ¬ v = 1 from hn 1 (by omega)), if_neg (show ¬ v = 2 from hn 2 (by omega)), if_neg (show ¬ v = 3 from hn 3 (by omega)), if_neg (show ¬ v = 4 from hn 4 (by omega)), if_neg (show ¬ v = 5 from hn 5 (by omega)), if_neg (show ¬ v = 6 from hn 6 (by omega)), if_neg (show ¬ v = 7 from hn 7 (by omega)), if_neg (show ¬ v = 8 from hn 8 (by omega)), if_neg (show ¬ v = 9 from hn 9 (by omega)), if_neg (show ¬ v = 10 from hn 10 (by omega)), if_neg (show ¬ v = 11 from hn 11 (by omega)), if_neg (show ¬ v = 12 from hn 12 (by omega)), if_neg (show ¬ v = 13 from hn 13 (by omega)), isIn_eq, cl_eq, if_pos hv, if_pos rfl]
  rcases cs with ⟨j, hj, rfl⟩ | ⟨hn, hv⟩
  · by_cases j20 : 20 ≤ j
    · refine ⟨whoN (poP (zP z)) (poN (zP z)).1 (j - 20), fun μ y hR => ?_, fun ν hR => ?_⟩
      · unfold Sf_look
        simp only [Nat.reduceAdd]
        rw [within_eq, cl_eq, if_neg (show ¬ (nI j < 20 ∨ 35 < nI j) by
          rintro (q | q)
          · exact nI_nlt (b := 20) (by omega) (by omega) q
          · exact nI_nlt (a := 35) (by omega) (by omega) q), if_neg (show ¬ (1 : Int32) = 0 by decide), show nI j - 20 = nI (j - 20) from pk_sub (b := 20) (by omega), fg_holder hR.1.1 (by omega), cl_eq]
      · have h1 := repM_t hR
        unfold Mo_look
        rw [pF_eq, if_neg (fun q : nI j = 0 => absurd ((nI_eq (b := 0) (by omega) (by omega)).mp q) (by omega)), if_neg (fun q : nI j = 1 => absurd ((nI_eq (b := 1) (by omega) (by omega)).mp q) (by omega)), if_neg (fun q : nI j = 2 => absurd ((nI_eq (b := 2) (by omega) (by omega)).mp q) (by omega)), if_neg (fun q : nI j = 3 => absurd ((nI_eq (b := 3) (by omega) (by omega)).mp q) (by omega)), if_neg (fun q : nI j = 4 => absurd ((nI_eq (b := 4) (by omega) (by omega)).mp q) (by omega)), if_neg (fun q : nI j = 5 => absurd ((nI_eq (b := 5) (by omega) (by omega)).mp q) (by omega)), if_neg (fun q : nI j = 6 => absurd ((nI_eq (b := 6) (by omega) (by omega)).mp q) (by omega)), if_neg (fun q : nI j = 7 => absurd ((nI_eq (b := 7) (by omega) (by omega)).mp q) (by omega)), if_neg (fun q : nI j = 8 => absurd ((nI_eq (b := 8) (by omega) (by omega)).mp q) (by omega)), if_neg (fun q : nI j = 9 => absurd ((nI_eq (b := 9) (by omega) (by omega)).mp q) (by omega)), if_neg (fun q : nI j = 10 => absurd ((nI_eq (b := 10) (by omega) (by omega)).mp q) (by omega)), if_neg (fun q : nI j = 11 => absurd ((nI_eq (b := 11) (by omega) (by omega)).mp q) (by omega)), if_neg (fun q : nI j = 12 => absurd ((nI_eq (b := 12) (by omega) (by omega)).mp q) (by omega)), if_neg (fun q : nI j = 13 => absurd ((nI_eq (b := 13) (by omega) (by omega)).mp q) (by omega)), isIn_eq, cl_eq, if_neg (show ¬ (nI j < 20 ∨ 35 < nI j) by
          rintro (q | q)
          · exact nI_nlt (b := 20) (by omega) (by omega) q
          · exact nI_nlt (a := 35) (by omega) (by omega) q), if_neg (show ¬ (1 : Int32) = 0 by decide), show nI j - 20 = nI (j - 20) from pk_sub (b := 20) (by omega), mo_whoHas h1.1.2.2.1 hP _ (by omega), cl_eq, h1.2.1.1]
    · by_cases j14 : 14 ≤ j
      · exact no (fun i hi e => absurd ((nI_eq (by omega) (by omega)).mp e) (by omega)) (Or.inl (nI_lt (b := 20) (by omega) (by omega)))
      · rcases (show j = 0 ∨ j = 1 ∨ j = 2 ∨ j = 3 ∨ j = 4 ∨ j = 5 ∨ j = 6 ∨ j = 7 ∨ j = 8 ∨ j = 9 ∨ j = 10 ∨ j = 11 ∨ j = 12 ∨ j = 13 by omega) with rfl | rfl | rfl | rfl | rfl | rfl | rfl | rfl | rfl | rfl | rfl | rfl | rfl | rfl
        · refine ⟨nI (poP (zP z)), fun μ y hR => ?_, fun ν hR => ?_⟩
          · unfold Sf_look
            simp only [Nat.reduceAdd]
            rw [within_eq, cl_eq, if_pos (show nI 0 < 20 ∨ 35 < nI 0 by decide), if_pos rfl, if_pos (show nI 0 = 0 by rfl)]
            rw [gF_eq, hR.1.1.2.2.1]
          · have h1 := repM_t hR
            unfold Mo_look
            simp only [Nat.reduceAdd]
            rw [pF_eq, if_pos (show nI 0 = 0 by rfl)]
            rw [gF_eq, h1.1.2.2.1]
        · refine ⟨aI (poN (zP z)).1 (poP (zP z)), fun μ y hR => ?_, fun ν hR => ?_⟩
          · unfold Sf_look
            simp only [Nat.reduceAdd]
            rw [within_eq, cl_eq, if_pos (show nI 1 < 20 ∨ 35 < nI 1 by decide), if_pos rfl, if_neg (show ¬ nI 1 = 0 by decide), if_pos (show nI 1 = 1 by rfl)]
            rw [fg_aliveSet hR.1.1 hN, cl_eq]
          · have h1 := repM_t hR
            unfold Mo_look
            simp only [Nat.reduceAdd]
            rw [pF_eq, if_neg (show ¬ nI 1 = 0 by decide), if_pos (show nI 1 = 1 by rfl)]
            rw [mo_aliveSet h1.1.2.2.1 hP h1.2.1.1, cl_eq]
        · refine ⟨(poN (zP z)).1 3, fun μ y hR => ?_, fun ν hR => ?_⟩
          · unfold Sf_look
            simp only [Nat.reduceAdd]
            rw [within_eq, cl_eq, if_pos (show nI 2 < 20 ∨ 35 < nI 2 by decide), if_pos rfl, if_neg (show ¬ nI 2 = 0 by decide), if_neg (show ¬ nI 2 = 1 by decide), if_pos (show nI 2 = 2 by rfl)]
            rw [gF_eq, hR.1.1.2.2.2.1 4 (by omega) (by omega)]
          · have h1 := repM_t hR
            unfold Mo_look
            simp only [Nat.reduceAdd]
            rw [pF_eq, if_neg (show ¬ nI 2 = 0 by decide), if_neg (show ¬ nI 2 = 1 by decide), if_pos (show nI 2 = 2 by rfl)]
            rw [ldA_li (i := 3) (by decide) (by decide)]
            show some ((up2 ν 59 0 0) 60 _, _) = _
            rw [h1.2.1.1]
        · refine ⟨(poN (zP z)).1 4, fun μ y hR => ?_, fun ν hR => ?_⟩
          · unfold Sf_look
            simp only [Nat.reduceAdd]
            rw [within_eq, cl_eq, if_pos (show nI 3 < 20 ∨ 35 < nI 3 by decide), if_pos rfl, if_neg (show ¬ nI 3 = 0 by decide), if_neg (show ¬ nI 3 = 1 by decide), if_neg (show ¬ nI 3 = 2 by decide), if_pos (show nI 3 = 3 by rfl)]
            rw [gF_eq, hR.1.1.2.2.2.1 5 (by omega) (by omega)]
          · have h1 := repM_t hR
            unfold Mo_look
            simp only [Nat.reduceAdd]
            rw [pF_eq, if_neg (show ¬ nI 3 = 0 by decide), if_neg (show ¬ nI 3 = 1 by decide), if_neg (show ¬ nI 3 = 2 by decide), if_pos (show nI 3 = 3 by rfl)]
            rw [ldA_li (i := 4) (by decide) (by decide)]
            show some ((up2 ν 59 0 0) 60 _, _) = _
            rw [h1.2.1.1]
        · refine ⟨(poN (zP z)).1 5, fun μ y hR => ?_, fun ν hR => ?_⟩
          · unfold Sf_look
            simp only [Nat.reduceAdd]
            rw [within_eq, cl_eq, if_pos (show nI 4 < 20 ∨ 35 < nI 4 by decide), if_pos rfl, if_neg (show ¬ nI 4 = 0 by decide), if_neg (show ¬ nI 4 = 1 by decide), if_neg (show ¬ nI 4 = 2 by decide), if_neg (show ¬ nI 4 = 3 by decide), if_pos (show nI 4 = 4 by rfl)]
            rw [gF_eq, hR.1.1.2.2.2.1 6 (by omega) (by omega)]
          · have h1 := repM_t hR
            unfold Mo_look
            simp only [Nat.reduceAdd]
            rw [pF_eq, if_neg (show ¬ nI 4 = 0 by decide), if_neg (show ¬ nI 4 = 1 by decide), if_neg (show ¬ nI 4 = 2 by decide), if_neg (show ¬ nI 4 = 3 by decide), if_pos (show nI 4 = 4 by rfl)]
            rw [ldA_li (i := 5) (by decide) (by decide)]
            show some ((up2 ν 59 0 0) 60 _, _) = _
            rw [h1.2.1.1]
        · refine ⟨(poN (zP z)).1 0, fun μ y hR => ?_, fun ν hR => ?_⟩
          · unfold Sf_look
            simp only [Nat.reduceAdd]
            rw [within_eq, cl_eq, if_pos (show nI 5 < 20 ∨ 35 < nI 5 by decide), if_pos rfl, if_neg (show ¬ nI 5 = 0 by decide), if_neg (show ¬ nI 5 = 1 by decide), if_neg (show ¬ nI 5 = 2 by decide), if_neg (show ¬ nI 5 = 3 by decide), if_neg (show ¬ nI 5 = 4 by decide), if_pos (show nI 5 = 5 by rfl)]
            rw [gF_eq, hR.1.1.2.2.2.1 7 (by omega) (by omega)]
          · have h1 := repM_t hR
            unfold Mo_look
            simp only [Nat.reduceAdd]
            rw [pF_eq, if_neg (show ¬ nI 5 = 0 by decide), if_neg (show ¬ nI 5 = 1 by decide), if_neg (show ¬ nI 5 = 2 by decide), if_neg (show ¬ nI 5 = 3 by decide), if_neg (show ¬ nI 5 = 4 by decide), if_pos (show nI 5 = 5 by rfl)]
            rw [ldA_li (i := 0) (by decide) (by decide)]
            show some ((up2 ν 59 0 0) 60 _, _) = _
            rw [h1.2.1.1]
        · refine ⟨tI (talS (sal (poN (zP z)).1) (poP (zP z))).1, fun μ y hR => ?_, fun ν hR => ?_⟩
          · unfold Sf_look
            simp only [Nat.reduceAdd]
            rw [within_eq, cl_eq, if_pos (show nI 6 < 20 ∨ 35 < nI 6 by decide), if_pos rfl, if_neg (show ¬ nI 6 = 0 by decide), if_neg (show ¬ nI 6 = 1 by decide), if_neg (show ¬ nI 6 = 2 by decide), if_neg (show ¬ nI 6 = 3 by decide), if_neg (show ¬ nI 6 = 4 by decide), if_neg (show ¬ nI 6 = 5 by decide), if_pos (show nI 6 = 6 by rfl)]
            rw [fg_tallest hR.1.1 (fun p hp => sal_eq hN hp), cl_eq]
          · have h1 := repM_t hR
            unfold Mo_look
            simp only [Nat.reduceAdd]
            rw [pF_eq, if_neg (show ¬ nI 6 = 0 by decide), if_neg (show ¬ nI 6 = 1 by decide), if_neg (show ¬ nI 6 = 2 by decide), if_neg (show ¬ nI 6 = 3 by decide), if_neg (show ¬ nI 6 = 4 by decide), if_neg (show ¬ nI 6 = 5 by decide), if_pos (show nI 6 = 6 by rfl)]
            rw [mo_tallest h1.1.2.2.1 hP (fun p hp => by rw [h1.2.1.1]; exact sal_eq hN hp), cl_eq]
        · refine ⟨(poN (zP z)).1 2, fun μ y hR => ?_, fun ν hR => ?_⟩
          · unfold Sf_look
            simp only [Nat.reduceAdd]
            rw [within_eq, cl_eq, if_pos (show nI 7 < 20 ∨ 35 < nI 7 by decide), if_pos rfl, if_neg (show ¬ nI 7 = 0 by decide), if_neg (show ¬ nI 7 = 1 by decide), if_neg (show ¬ nI 7 = 2 by decide), if_neg (show ¬ nI 7 = 3 by decide), if_neg (show ¬ nI 7 = 4 by decide), if_neg (show ¬ nI 7 = 5 by decide), if_neg (show ¬ nI 7 = 6 by decide), if_pos (show nI 7 = 7 by rfl)]
            rw [gF_eq, hR.1.1.2.2.2.1 9 (by omega) (by omega)]
          · have h1 := repM_t hR
            unfold Mo_look
            simp only [Nat.reduceAdd]
            rw [pF_eq, if_neg (show ¬ nI 7 = 0 by decide), if_neg (show ¬ nI 7 = 1 by decide), if_neg (show ¬ nI 7 = 2 by decide), if_neg (show ¬ nI 7 = 3 by decide), if_neg (show ¬ nI 7 = 4 by decide), if_neg (show ¬ nI 7 = 5 by decide), if_neg (show ¬ nI 7 = 6 by decide), if_pos (show nI 7 = 7 by rfl)]
            rw [ldA_li (i := 2) (by decide) (by decide)]
            show some ((up2 ν 59 0 0) 60 _, _) = _
            rw [h1.2.1.1]
        · refine ⟨(poN (zP z)).1 1, fun μ y hR => ?_, fun ν hR => ?_⟩
          · unfold Sf_look
            simp only [Nat.reduceAdd]
            rw [within_eq, cl_eq, if_pos (show nI 8 < 20 ∨ 35 < nI 8 by decide), if_pos rfl, if_neg (show ¬ nI 8 = 0 by decide), if_neg (show ¬ nI 8 = 1 by decide), if_neg (show ¬ nI 8 = 2 by decide), if_neg (show ¬ nI 8 = 3 by decide), if_neg (show ¬ nI 8 = 4 by decide), if_neg (show ¬ nI 8 = 5 by decide), if_neg (show ¬ nI 8 = 6 by decide), if_neg (show ¬ nI 8 = 7 by decide), if_pos (show nI 8 = 8 by rfl)]
            rw [gF_eq, hR.1.1.2.2.2.1 8 (by omega) (by omega)]
          · have h1 := repM_t hR
            unfold Mo_look
            simp only [Nat.reduceAdd]
            rw [pF_eq, if_neg (show ¬ nI 8 = 0 by decide), if_neg (show ¬ nI 8 = 1 by decide), if_neg (show ¬ nI 8 = 2 by decide), if_neg (show ¬ nI 8 = 3 by decide), if_neg (show ¬ nI 8 = 4 by decide), if_neg (show ¬ nI 8 = 5 by decide), if_neg (show ¬ nI 8 = 6 by decide), if_neg (show ¬ nI 8 = 7 by decide), if_pos (show nI 8 = 8 by rfl)]
            rw [ldA_li (i := 1) (by decide) (by decide)]
            show some ((up2 ν 59 0 0) 60 _, _) = _
            rw [h1.2.1.1]
        · refine ⟨nI (poL (zP z)).length, fun μ y hR => ?_, fun ν hR => ?_⟩
          · unfold Sf_look
            simp only [Nat.reduceAdd]
            rw [within_eq, cl_eq, if_pos (show nI 9 < 20 ∨ 35 < nI 9 by decide), if_pos rfl, if_neg (show ¬ nI 9 = 0 by decide), if_neg (show ¬ nI 9 = 1 by decide), if_neg (show ¬ nI 9 = 2 by decide), if_neg (show ¬ nI 9 = 3 by decide), if_neg (show ¬ nI 9 = 4 by decide), if_neg (show ¬ nI 9 = 5 by decide), if_neg (show ¬ nI 9 = 6 by decide), if_neg (show ¬ nI 9 = 7 by decide), if_neg (show ¬ nI 9 = 8 by decide), if_pos (show nI 9 = 9 by rfl)]
            unfold Tx_linesOf
            rw [show nI 9 - 9 = nI 0 by decide, if_neg (by decide), if_neg (by decide), ldA_nI (by omega) (by omega), cl_eq, hR.1.2.2.2.2.2.1]
          · have h1 := repM_t hR
            unfold Mo_look
            simp only [Nat.reduceAdd]
            rw [pF_eq, if_neg (show ¬ nI 9 = 0 by decide), if_neg (show ¬ nI 9 = 1 by decide), if_neg (show ¬ nI 9 = 2 by decide), if_neg (show ¬ nI 9 = 3 by decide), if_neg (show ¬ nI 9 = 4 by decide), if_neg (show ¬ nI 9 = 5 by decide), if_neg (show ¬ nI 9 = 6 by decide), if_neg (show ¬ nI 9 = 7 by decide), if_neg (show ¬ nI 9 = 8 by decide), if_pos (show nI 9 = 9 by rfl)]
            obtain ⟨f, hf, _⟩ := h1.1.2.2.2.1
            rw [ldA_li (i := 0) (by decide) (by decide)]
            show some ((up2 ν 59 0 0) 66 0, _) = _
            rw [hf]
        · refine ⟨poA (zP z), fun μ y hR => ?_, fun ν hR => ?_⟩
          · unfold Sf_look
            simp only [Nat.reduceAdd]
            rw [within_eq, cl_eq, if_pos (show nI 10 < 20 ∨ 35 < nI 10 by decide), if_pos rfl, if_neg (show ¬ nI 10 = 0 by decide), if_neg (show ¬ nI 10 = 1 by decide), if_neg (show ¬ nI 10 = 2 by decide), if_neg (show ¬ nI 10 = 3 by decide), if_neg (show ¬ nI 10 = 4 by decide), if_neg (show ¬ nI 10 = 5 by decide), if_neg (show ¬ nI 10 = 6 by decide), if_neg (show ¬ nI 10 = 7 by decide), if_neg (show ¬ nI 10 = 8 by decide), if_neg (show ¬ nI 10 = 9 by decide), if_pos (show nI 10 = 10 by rfl)]
            unfold Tx_linesOf
            rw [show nI 10 - 9 = nI 1 by decide, if_neg (by decide), if_neg (by decide), ldA_nI (by omega) (by omega), cl_eq, hR.1.2.2.2.2.2.2.1]
          · have h1 := repM_t hR
            unfold Mo_look
            simp only [Nat.reduceAdd]
            rw [pF_eq, if_neg (show ¬ nI 10 = 0 by decide), if_neg (show ¬ nI 10 = 1 by decide), if_neg (show ¬ nI 10 = 2 by decide), if_neg (show ¬ nI 10 = 3 by decide), if_neg (show ¬ nI 10 = 4 by decide), if_neg (show ¬ nI 10 = 5 by decide), if_neg (show ¬ nI 10 = 6 by decide), if_neg (show ¬ nI 10 = 7 by decide), if_neg (show ¬ nI 10 = 8 by decide), if_neg (show ¬ nI 10 = 9 by decide), if_pos (show nI 10 = 10 by rfl)]
            rw [gF_eq, h1.1.2.2.2.2.2.2.1]
        · refine ⟨nI (poW (zP z)).length, fun μ y hR => ?_, fun ν hR => ?_⟩
          · unfold Sf_look
            simp only [Nat.reduceAdd]
            rw [within_eq, cl_eq, if_pos (show nI 11 < 20 ∨ 35 < nI 11 by decide), if_pos rfl, if_neg (show ¬ nI 11 = 0 by decide), if_neg (show ¬ nI 11 = 1 by decide), if_neg (show ¬ nI 11 = 2 by decide), if_neg (show ¬ nI 11 = 3 by decide), if_neg (show ¬ nI 11 = 4 by decide), if_neg (show ¬ nI 11 = 5 by decide), if_neg (show ¬ nI 11 = 6 by decide), if_neg (show ¬ nI 11 = 7 by decide), if_neg (show ¬ nI 11 = 8 by decide), if_neg (show ¬ nI 11 = 9 by decide), if_neg (show ¬ nI 11 = 10 by decide), if_pos (show nI 11 = 11 by rfl)]
            unfold Tx_linesOf
            rw [show nI 11 - 9 = nI 2 by decide, if_neg (by decide), if_neg (by decide), ldA_nI (by omega) (by omega), cl_eq, hR.1.2.2.2.2.1.1]
          · have h1 := repM_t hR
            unfold Mo_look
            simp only [Nat.reduceAdd]
            rw [pF_eq, if_neg (show ¬ nI 11 = 0 by decide), if_neg (show ¬ nI 11 = 1 by decide), if_neg (show ¬ nI 11 = 2 by decide), if_neg (show ¬ nI 11 = 3 by decide), if_neg (show ¬ nI 11 = 4 by decide), if_neg (show ¬ nI 11 = 5 by decide), if_neg (show ¬ nI 11 = 6 by decide), if_neg (show ¬ nI 11 = 7 by decide), if_neg (show ¬ nI 11 = 8 by decide), if_neg (show ¬ nI 11 = 9 by decide), if_neg (show ¬ nI 11 = 10 by decide), if_pos (show nI 11 = 11 by rfl)]
            rw [gF_eq, h1.1.2.2.2.2.2.1.1]
        · refine ⟨poB (zP z), fun μ y hR => ?_, fun ν hR => ?_⟩
          · unfold Sf_look
            simp only [Nat.reduceAdd]
            rw [within_eq, cl_eq, if_pos (show nI 12 < 20 ∨ 35 < nI 12 by decide), if_pos rfl, if_neg (show ¬ nI 12 = 0 by decide), if_neg (show ¬ nI 12 = 1 by decide), if_neg (show ¬ nI 12 = 2 by decide), if_neg (show ¬ nI 12 = 3 by decide), if_neg (show ¬ nI 12 = 4 by decide), if_neg (show ¬ nI 12 = 5 by decide), if_neg (show ¬ nI 12 = 6 by decide), if_neg (show ¬ nI 12 = 7 by decide), if_neg (show ¬ nI 12 = 8 by decide), if_neg (show ¬ nI 12 = 9 by decide), if_neg (show ¬ nI 12 = 10 by decide), if_neg (show ¬ nI 12 = 11 by decide), if_pos (show nI 12 = 12 by rfl)]
            unfold Tx_linesOf
            rw [show nI 12 - 9 = nI 3 by decide, if_neg (by decide), if_neg (by decide), ldA_nI (by omega) (by omega), cl_eq, hR.1.2.2.2.2.2.2.2.1]
          · have h1 := repM_t hR
            unfold Mo_look
            simp only [Nat.reduceAdd]
            rw [pF_eq, if_neg (show ¬ nI 12 = 0 by decide), if_neg (show ¬ nI 12 = 1 by decide), if_neg (show ¬ nI 12 = 2 by decide), if_neg (show ¬ nI 12 = 3 by decide), if_neg (show ¬ nI 12 = 4 by decide), if_neg (show ¬ nI 12 = 5 by decide), if_neg (show ¬ nI 12 = 6 by decide), if_neg (show ¬ nI 12 = 7 by decide), if_neg (show ¬ nI 12 = 8 by decide), if_neg (show ¬ nI 12 = 9 by decide), if_neg (show ¬ nI 12 = 10 by decide), if_neg (show ¬ nI 12 = 11 by decide), if_pos (show nI 12 = 12 by rfl)]
            rw [gF_eq, h1.1.2.2.2.2.2.2.2.1]
        · refine ⟨nI (zU z).length, fun μ y hR => ?_, fun ν hR => ?_⟩
          · unfold Sf_look
            simp only [Nat.reduceAdd]
            rw [within_eq, cl_eq, if_pos (show nI 13 < 20 ∨ 35 < nI 13 by decide), if_pos rfl, if_neg (show ¬ nI 13 = 0 by decide), if_neg (show ¬ nI 13 = 1 by decide), if_neg (show ¬ nI 13 = 2 by decide), if_neg (show ¬ nI 13 = 3 by decide), if_neg (show ¬ nI 13 = 4 by decide), if_neg (show ¬ nI 13 = 5 by decide), if_neg (show ¬ nI 13 = 6 by decide), if_neg (show ¬ nI 13 = 7 by decide), if_neg (show ¬ nI 13 = 8 by decide), if_neg (show ¬ nI 13 = 9 by decide), if_neg (show ¬ nI 13 = 10 by decide), if_neg (show ¬ nI 13 = 11 by decide), if_neg (show ¬ nI 13 = 12 by decide), if_pos (show nI 13 = 13 by rfl)]
            obtain ⟨a, ha, h7, h8, _⟩ := hR.2.2.2.2.2.2.1
            rw [gF_eq, h8]
          · have h1 := repM_t hR
            unfold Mo_look
            simp only [Nat.reduceAdd]
            rw [pF_eq, if_neg (show ¬ nI 13 = 0 by decide), if_neg (show ¬ nI 13 = 1 by decide), if_neg (show ¬ nI 13 = 2 by decide), if_neg (show ¬ nI 13 = 3 by decide), if_neg (show ¬ nI 13 = 4 by decide), if_neg (show ¬ nI 13 = 5 by decide), if_neg (show ¬ nI 13 = 6 by decide), if_neg (show ¬ nI 13 = 7 by decide), if_neg (show ¬ nI 13 = 8 by decide), if_neg (show ¬ nI 13 = 9 by decide), if_neg (show ¬ nI 13 = 10 by decide), if_neg (show ¬ nI 13 = 11 by decide), if_neg (show ¬ nI 13 = 12 by decide), if_pos (show nI 13 = 13 by rfl)]
            rw [gF_eq, h1.2.2.2.1]
  · exact no (fun j hj => hn j (by omega)) hv
