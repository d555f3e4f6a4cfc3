/-! L3: FAULT, END, BOOK, OF, LOOK, PERSON -/
theorem mo_t {ν : Mu} {z : Zt} (hR : RepM ν z) : RepM (up2 ν 59 0 0) z ∧ InM ν (up2 ν 59 0 0) := ⟨repM_t hR, inM_up (inM_refl ν) (by omega)⟩
theorem sn_fault (w : Int32) : StepN (Sf_fault 0 w) (Mo_fault 59 w) := by
  refine stepN_of (fun z hA => ⟨if w = 0 then zF z else if w = 1 then zG z else -1, z, hA, fun μ y hy hR => ?_, fun ν hR => ?_⟩)
  · unfold Sf_fault
    simp only [Nat.reduceAdd]
    by_cases c0 : w = 0
    · rw [if_pos c0, if_pos c0, gF_eq]; exact ev_some ⟨hR.2.2.2.2.1, hR, inC_refl μ⟩
    rw [if_neg c0, if_neg c0]
    by_cases c1 : w = 1
    · rw [if_pos c1, if_pos c1, gF_eq]; exact ev_some ⟨hR.2.2.2.2.2.1, hR, inC_refl μ⟩
    · rw [if_neg c1, if_neg c1]; exact ev_some ⟨rfl, hR, inC_refl μ⟩
  · obtain ⟨h1, i1⟩ := mo_t hR
    unfold Mo_fault
    rw [pF_eq]
    by_cases c0 : w = 0
    · rw [if_pos c0, if_pos c0, gF_eq]; exact ev_some ⟨h1.2.2.2.2.2.2.2.2.1, h1, i1⟩
    rw [if_neg c0, if_neg c0]
    by_cases c1 : w = 1
    · rw [if_pos c1, if_pos c1, gF_eq]; exact ev_some ⟨h1.2.2.2.2.2.2.2.2.2.1, h1, i1⟩
    · rw [if_neg c1, if_neg c1]; exact ev_some ⟨rfl, h1, i1⟩
def mvB (z : Zt) (b : List Nat) : Zt := (zP z, zU z, b, zF z, zG z, zI z)
theorem repC_tape {μ μ' : Mu} {y : Ly} {z : Zt} {b : List Nat} (hy : LyRep y) (hR : RepC μ y z) (h : ∀ k, k ≠ 48 → k ≠ 49 → μ' k = μ k) (h1 : μ' 48 1 = nI b.length) (h2 : ∀ i, i < b.length → μ' 49 i = nI (b.getD i 0)) (h8 : μ' 48 8 = μ 48 8) (h9 : μ' 48 9 = μ 48 9) : RepC μ' y (mvB z b) := by
  obtain ⟨g1, g2, g3, g4, g5, g6, g7, g8⟩ := hR
  exact ⟨portC_of (fun k a c _ => h k (by omega) (by omega)) g1, by rw [h 42 (by decide) (by decide)]; exact g2, h1, h2, h8.trans g5, h9.trans g6, undoC_of hy (h 0 (by decide) (by decide)) (fun k hk => h k (by omega) (by omega)) g7, picC_of hy (fun k hk => h k (by omega) (by omega)) g8⟩
theorem repM_tape {ν ν' : Mu} {z : Zt} {b : List Nat} (hR : RepM ν z) (h : ∀ k, k ≠ 59 → k ≠ 64 → ν' k = ν k) (hf : ∀ j, j ≠ 0 → j ≠ 9 → ν' 59 j = ν 59 j) (h1 : ν' 59 9 = nI b.length) (h2 : ∀ i, i < b.length → ν' 64 i = nI (b.getD i 0)) : RepM ν' (mvB z b) := by
  obtain ⟨g1, ⟨g2, g2b⟩, g3, g4, g5, g6, g7, g8, g9, g10, g11⟩ := hR
  refine ⟨portM_of (fun k hk => h k (fun z => by rw [z] at hk; exact absurd hk (by decide)) (fun z => by rw [z] at hk; exact absurd hk (by decide))) (fun j hj => hf j (fun z => by rw [z] at hj; exact absurd hj (by decide)) (fun z => by rw [z] at hj; exact absurd hj (by decide))) g1, ⟨(h 60 (by decide) (by decide)).trans g2, (h 63 (by decide) (by decide)).trans g2b⟩, (hf 5 (by decide) (by decide)).trans g3, (hf 3 (by decide) (by decide)).trans g4, fun i k a c => by rw [h 61 (by decide) (by decide)]; exact g5 i k a c, h1, h2, fun i hi => by rw [h 65 (by decide) (by decide)]; exact g8 i hi, (hf 29 (by decide) (by decide)).trans g9, (hf 30 (by decide) (by decide)).trans g10, imgM_of (hf 66 (by decide) (by decide)) (h 98 (by decide) (by decide)) g11⟩
theorem sn_end (v : Int32) : StepN (Sf_end 0 v) (Mo_end 59 v) := by
  refine stepN_of (fun z hA => ?_)
  have hl := hA.2.2.2.1
  by_cases c : v < 0 ∨ nI (zB z).length < v
  · refine ⟨0, z, hA, fun μ y hy hR => ?_, fun ν hR => ?_⟩
    · unfold Sf_end Rd_cut
      simp only [Nat.reduceAdd]
      by_cases c0 : v < 0
      · rw [if_pos c0, cl_eq, zg_eq (Or.inl rfl)]; exact ev_some ⟨rfl, hR, inC_refl μ⟩
      · have c1 : ¬ v ≤ nI (zB z).length := by
          rcases c with c | c
          · exact absurd c c0
          · rw [fa_le]; rw [fa_lt] at c; omega
        rw [if_neg c0, gF_eq, hR.2.2.1, if_neg c1, cl_eq, zg_eq (Or.inl rfl)]; exact ev_some ⟨rfl, hR, inC_refl μ⟩
    · obtain ⟨h1, i1⟩ := mo_t hR
      unfold Mo_end
      rw [pF_eq, gF_eq, h1.2.2.2.2.2.1, isIn_eq, cl_eq, if_pos c, if_pos rfl]
      exact ev_some ⟨rfl, h1, i1⟩
  · obtain ⟨k, _, hk, rfl⟩ := nI_rng (lo := 0) (n := (zB z).length) (by omega) (by omega) (fun q => c (Or.inl q)) (fun q => c (Or.inr q))
    have hlen : ((zB z).take k).length = k := by rw [List.length_take]; omega
    have hget : ∀ i, i < k → ((zB z).take k).getD i 0 = (zB z).getD i 0 := fun i hi => by
      rw [List.getD_eq_getElem?_getD, List.getD_eq_getElem?_getD, List.getElem?_take_of_lt hi]
    refine ⟨1, mvB z ((zB z).take k), ⟨hA.1, hA.2.1, hA.2.2.1, by show ((zB z).take k).length ≤ 400; omega, fun b hb => hA.2.2.2.2.1 b (List.mem_of_mem_take hb), hA.2.2.2.2.2⟩, fun μ y hy hR => ?_, fun ν hR => ?_⟩
    · unfold Sf_end Rd_cut
      simp only [Nat.reduceAdd]
      rw [if_neg (nI_pos (by omega)), gF_eq, hR.2.2.1, if_pos (nI_le hk (by omega)), pF_eq, cl_eq, zg_eq (Or.inr rfl)]
      refine ev_some ⟨rfl, repC_tape hy hR (fun k a _ => up2_ne a) (by rw [up2_same, hlen]) (fun i hi => ?_) (up2_off (Or.inr (by decide))) (up2_off (Or.inr (by decide))), inC_up (inC_refl μ) (by omega)⟩
      rw [hlen] at hi
      rw [up2_off (Or.inl (by decide)), hget i hi]; exact hR.2.2.2.1 i (by omega)
    · obtain ⟨h1, i1⟩ := mo_t hR
      unfold Mo_end
      rw [pF_eq, gF_eq, h1.2.2.2.2.2.1, isIn_eq, cl_eq, if_neg c, if_neg (show ¬ (1 : Int32) = 0 by decide), pF_eq]
      refine ev_some ⟨rfl, repM_tape h1 (fun k a _ => up2_ne a) (fun j _ b => up2_off (Or.inr b)) (by rw [up2_same, hlen]) (fun i hi => ?_), inM_up i1 (by omega)⟩
      rw [hlen] at hi
      rw [up2_off (Or.inl (by decide)), hget i hi]; exact h1.2.2.2.2.2.2.1 i (by omega)
theorem sn_book (i w : Int32) : StepN (Sf_book 0 i w) (Mo_book 59 i w) := by
  refine stepN_of (fun z hA => ?_)
  obtain ⟨l, hl, hl2⟩ := hA.1.1.1.2.2.2.2.2
  have c9 : ∀ μ y, RepC μ y z → μ 2 9 = nI l := fun μ y hR => (hR.1.1.2.2.2.1 9 (by omega) (by omega)).trans hl2
  have m2 : ∀ ν, RepM ν z → ν 60 2 = nI l := fun ν hR => by rw [hR.2.1.1]; exact hl2
  -- none such
  have hle : ∀ v : Int32, nI l - 1 < v ↔ nI l ≤ v := fun v => by
    have h1 := nI_toInt (n := l) (by omega)
    have h2 : (nI l - 1).toInt = l - 1 := by rw [fb_subI (by rw [h1, show (1 : Int32).toInt = 1 by decide]; omega) (by rw [h1, show (1 : Int32).toInt = 1 by decide]; omega), h1, show (1 : Int32).toInt = 1 by decide]
    rw [fa_lt, fa_le, h2, h1]; omega
  by_cases c : (i < 0 ∨ nI l ≤ i) ∨ (w < 0 ∨ 3 < w)
  · refine ⟨-1, z, hA, fun μ y hy hR => ?_, fun ν hR => ?_⟩
    · have e : Sf_book 0 i w μ = some (-1, μ) := by
        unfold Sf_book Pt_bookAt Pt_bookAt_35 Pt_bookAt_36
        simp only [Nat.reduceAdd]
        by_cases c0 : i < 0
        · rw [if_pos c0, if_pos trivial, cl_eq]
        rw [if_neg c0, gF_eq, c9 μ y hR]
        by_cases c1 : nI l ≤ i
        · rw [if_pos c1, if_pos trivial, cl_eq]
        rw [if_neg c1]
        obtain ⟨k, hk, rfl⟩ : ∃ k, k < l ∧ i = nI k := by
          rcases pk_ix i (n := l) (by omega) with q | q | q
          · exact absurd q c0
          · exact absurd q c1
          · exact q
        rw [if_neg (show ¬ (150 : Int32) ≤ nI k from nI_ge (b := 150) (by omega) (by omega))]
        by_cases c2 : w < 0
        · rw [if_pos c2, if_pos trivial, cl_eq]
        rw [if_neg c2, if_pos (show (4 : Int32) ≤ w by
          have c3 : 3 < w := by
            rcases c with (z | z) | z | z
            · exact absurd z c0
            · exact absurd z c1
            · exact absurd z c2
            · exact z
          rw [fa_lt, show (3 : Int32).toInt = 3 by decide] at c3
          rw [fa_le, show (4 : Int32).toInt = 4 by decide]; omega), if_pos trivial, cl_eq]
      rw [e]; exact ev_some ⟨rfl, hR, inC_refl μ⟩
    · obtain ⟨h1, i1⟩ := mo_t hR
      have e : Mo_book 59 i w ν = some (-1, up2 ν 59 0 0) := by
        unfold Mo_book
        simp only [Nat.reduceAdd]
        rw [pF_eq, ldA_li (i := 2) (by decide) (by decide)]
        show cl (Mo_isIn 59 i 0 (up2 ν 59 0 0 60 2 - 1) (up2 ν 59 0 0)) _ = _
        rw [m2 _ h1, isIn_eq, cl_eq]
        by_cases c1 : i < 0 ∨ nI l - 1 < i
        · rw [if_pos c1, if_pos rfl]
        · have c2 : w < 0 ∨ 3 < w := by
            rcases c with (z | z) | z
            · exact absurd (Or.inl z) c1
            · exact absurd (Or.inr ((hle i).mpr z)) c1
            · exact z
          rw [if_neg c1, if_neg (show ¬ (1 : Int32) = 0 by decide), isIn_eq, cl_eq, if_pos c2, if_pos rfl]
      rw [e]; exact ev_some ⟨rfl, h1, i1⟩
  · obtain ⟨k, hk, rfl⟩ : ∃ k, k < l ∧ i = nI k := by
      rcases pk_ix i (n := l) (by omega) with q | q | q
      · exact absurd (Or.inl (Or.inl q)) c
      · exact absurd (Or.inl (Or.inr q)) c
      · exact q
    obtain ⟨j, _, hj, rfl⟩ := nI_rng (lo := 0) (n := 3) (by omega) (by omega) (fun q => c (Or.inr (Or.inl q))) (fun q => c (Or.inr (Or.inr q)))
    refine ⟨(poN (zP z)).2 (4 * k + j), z, hA, fun μ y hy hR => ?_, fun ν hR => ?_⟩
    · have ix : nI k * 4 + nI j = nI (4 * k + j) := by show nI k * nI 4 + nI j = _; rw [pk_mul, nI_add, Nat.mul_comm]
      unfold Sf_book Pt_bookAt Pt_bookAt_35 Pt_bookAt_36
      simp only [Nat.reduceAdd]
      rw [if_neg (nI_pos (by omega)), gF_eq, c9 μ y hR, if_neg (nI_ge hk (by omega)), if_neg (show ¬ (150 : Int32) ≤ nI k from nI_ge (b := 150) (by omega) (by omega)), if_neg (nI_pos (by omega)), if_neg (show ¬ (4 : Int32) ≤ nI j from nI_ge (b := 4) (by omega) (by omega)), if_neg (show ¬ (1 : Int32) = 0 by decide), ix, ldA_nI (by omega) (by omega), cl_eq]
      exact ev_some ⟨hR.1.2.1 _ (by omega), hR, inC_refl μ⟩
    · obtain ⟨h1, i1⟩ := mo_t hR
      have ix : (4 : Int32) * nI k + nI j = nI (4 * k + j) := by show nI 4 * nI k + nI j = _; rw [pk_mul, nI_add]
      unfold Mo_book
      simp only [Nat.reduceAdd]
      rw [pF_eq, ldA_li (i := 2) (by decide) (by decide)]
      show Ev (cl (Mo_isIn 59 (nI k) 0 (up2 ν 59 0 0 60 2 - 1) (up2 ν 59 0 0)) _) _
      rw [m2 _ h1, isIn_eq, cl_eq, if_neg (show ¬ (nI k < 0 ∨ nI l - 1 < nI k) by
        rintro (z | z)
        · exact nI_pos (by omega) z
        · exact nI_ge hk (by omega) ((hle _).mp z)), if_neg (show ¬ (1 : Int32) = 0 by decide), isIn_eq, cl_eq, if_neg (fun z => c (Or.inr z)), if_neg (show ¬ (1 : Int32) = 0 by decide), ix, ldA_nI (by omega) (by omega)]
      exact ev_some ⟨h1.1.2.1 _ (by omega), h1, i1⟩
theorem sn_of (p w : Int32) : StepN (Sf_of 0 p w) (Mo_of 59 p w) := by
  refine stepN_of (fun z hA => ?_)
  have hP : poP (zP z) ≤ 16 := hA.1.1.1.1
  have hs := hA.1.1
  rcases person_or hP p with hw | ⟨p, hp, rfl⟩
  · refine ⟨-2, z, hA, fun μ y hy hR => ?_, fun ν hR => ?_⟩
    · unfold Sf_of
      simp only [Nat.reduceAdd]
      rw [fg_isPerson hR.1.1, cl_eq, if_pos hw, if_pos rfl]; exact ev_some ⟨rfl, hR, inC_refl μ⟩
    · obtain ⟨h1, i1⟩ := mo_t hR
      unfold Mo_of
      rw [pF_eq, mo_isPerson h1.1.2.2.1, cl_eq, if_pos hw, if_pos rfl]; exact ev_some ⟨rfl, h1, i1⟩
  have hpw : ¬ (nI p < 0 ∨ nI (poP (zP z)) ≤ nI p) := by
    rintro (q | q)
    · exact nI_pos (by omega) q
    · exact nI_ge hp (by omega) q
  by_cases c : w < 0 ∨ 10 < w
  · have n4 : w < 0 ∨ 4 < w := by
      rcases c with c | c
      · exact Or.inl c
      · exact Or.inr (by rw [fa_lt] at c ⊢; rw [show (10 : Int32).toInt = 10 by decide] at c; rw [show (4 : Int32).toInt = 4 by decide]; omega)
    have ne : ∀ q : Int32, q.toInt ≥ 0 → q.toInt ≤ 10 → ¬ w = q := fun q h0 h1 e => by
      rw [e] at c
      rw [fa_lt, fa_lt, show (10 : Int32).toInt = 10 by decide, show (0 : Int32).toInt = 0 by decide] at c
      omega
    refine ⟨-2, z, hA, fun μ y hy hR => ?_, fun ν hR => ?_⟩
    · unfold Sf_of
      simp only [Nat.reduceAdd]
      rw [fg_isPerson hR.1.1, cl_eq, if_neg hpw, if_neg (show ¬ (1 : Int32) = 0 by decide), within_eq, cl_eq, if_pos c, if_pos rfl]; exact ev_some ⟨rfl, hR, inC_refl μ⟩
    · obtain ⟨h1, i1⟩ := mo_t hR
      unfold Mo_of
      rw [pF_eq, mo_isPerson h1.1.2.2.1, cl_eq, if_neg hpw, if_neg (show ¬ (1 : Int32) = 0 by decide), isIn_eq, cl_eq, if_pos n4, if_pos rfl, if_neg (ne 5 (by decide) (by decide)), if_neg (ne 6 (by decide) (by decide)), if_neg (ne 7 (by decide) (by decide)), if_neg (ne 8 (by decide) (by decide)), if_neg (ne 9 (by decide) (by decide)), if_neg (ne 10 (by decide) (by decide))]; exact ev_some ⟨rfl, h1, i1⟩
  obtain ⟨k, _, hk, rfl⟩ := nI_rng (lo := 0) (n := 10) (by omega) (by omega) (fun q => c (Or.inl q)) (fun q => c (Or.inr q))
  have ec : ∀ μ y, RepC μ y z → Sf_of 0 (nI p) (nI k) μ = if (7 : Int32) ≤ nI k then (if nI k = 10 then cl (Tx_heirOf 6 (nI p) μ) (fun x8 μ7 => some (x8, μ7)) else cl (Dy_asks 39 1 2 (nI p) ((nI k - 7) + 1) μ) (fun x6 μ5 => some (x6, μ5))) else cl (Fg_get 2 (nI p) (nI k) μ) (fun x10 μ9 => some (x10, μ9)) := by
    intro μ y hR
    unfold Sf_of
    simp only [Nat.reduceAdd]
    rw [fg_isPerson hR.1.1, cl_eq, if_neg hpw, if_neg (show ¬ (1 : Int32) = 0 by decide), within_eq, cl_eq, if_neg c, if_neg (show ¬ (1 : Int32) = 0 by decide)]
  have em : ∀ ν, RepM ν z → Mo_of 59 (nI p) (nI k) ν = if (if nI k < 0 ∨ (4 : Int32) < nI k then (0 : Int32) else 1) = 0 then (if nI k = 5 then ldA (up2 ν 59 0 0) 60 118 (86 + nI p) (fun x15 => some (1 - x15, up2 ν 59 0 0)) else (if nI k = 6 then cl (Mo_seatOf 59 (nI p) (up2 ν 59 0 0)) (fun x14 μ13 => some (x14, μ13)) else (if nI k = 7 then cl (Mo_spillsOf 59 (nI p) (up2 ν 59 0 0)) (fun x12 μ11 => some (x12, μ11)) else (if nI k = 8 then cl (Mo_throwsOf 59 (nI p) (up2 ν 59 0 0)) (fun x10 μ9 => some (x10, μ9)) else (if nI k = 9 then cl (Mo_runsOf 59 (nI p) (up2 ν 59 0 0)) (fun x8 μ7 => some (x8, μ7)) else (if nI k = 10 then ldA (up2 ν 59 0 0) 77 32 (nI p) (fun x6 => some (x6 - 1, up2 ν 59 0 0)) else some ((-2), up2 ν 59 0 0))))))) else ldA (up2 ν 59 0 0) 60 118 ((6 + (16 * nI k)) + nI p) (fun x16 => some (x16, up2 ν 59 0 0)) := by
    intro ν hR
    obtain ⟨h1, i1⟩ := mo_t hR
    unfold Mo_of
    simp only [Nat.reduceAdd]
    rw [pF_eq, mo_isPerson h1.1.2.2.1, cl_eq, if_neg hpw, if_neg (show ¬ (1 : Int32) = 0 by decide), isIn_eq, cl_eq]
  by_cases k5 : k < 5
  · refine ⟨(poN (zP z)).1 (6 + 16 * k + p), z, hA, fun μ y hy hR => ?_, fun ν hR => ?_⟩
    · rw [ec μ y hR, if_neg (show ¬ (7 : Int32) ≤ nI k from nI_ge (b := 7) (by omega) (by omega)), fg_get hR.1.1 p k hp (by omega), cl_eq]
      exact ev_some ⟨hR.1.1.2.2.2.2.1 p k hp k5, hR, inC_refl μ⟩
    · obtain ⟨h1, i1⟩ := mo_t hR
      have ix : (6 : Int32) + 16 * nI k + nI p = nI (6 + 16 * k + p) := by show nI 6 + nI 16 * nI k + nI p = _; rw [pk_mul, nI_add, nI_add]
      rw [em ν hR, if_neg (show ¬ (if nI k < 0 ∨ (4 : Int32) < nI k then (0 : Int32) else 1) = 0 by
        rw [if_neg (by
          rintro (q | q)
          · exact nI_pos (by omega) q
          · exact nI_nlt (a := 4) (by omega) (by omega) q)]; decide), ix, ldA_nI (by omega) (by omega), h1.2.1.1]
      exact ev_some ⟨rfl, h1, i1⟩
  have c4 : (if nI k < 0 ∨ (4 : Int32) < nI k then (0 : Int32) else 1) = 0 := if_pos (Or.inr (nI_lt (a := 4) (by omega) (by omega)))
  have hask : ∀ word, word ≤ 2 → k = 7 + word → (∀ ν, RepM ν z → Ev (Mo_of 59 (nI p) (nI k) ν) (fun r ν' => r = askN (poP (zP z)) (poN (zP z)).1 (poL (zP z)) (poH (zP z)) p word ∧ Off [78, 79] (up2 ν 59 0 0) ν')) → ∃ r z', AbsOk z' ∧ (∀ μ y, LyRep y → RepC μ y z → Ev (Sf_of 0 (nI p) (nI k) μ) (fun x μ1 => x = r ∧ RepC μ1 y z' ∧ InC μ μ1)) ∧ (∀ ν, RepM ν z → Ev (Mo_of 59 (nI p) (nI k) ν) (fun x ν1 => x = r ∧ RepM ν1 z' ∧ InM ν ν1)) := by
    intro word hw hk7 hm
    refine ⟨askN (poP (zP z)) (poN (zP z)).1 (poL (zP z)) (poH (zP z)) p word, z, hA, fun μ y hy hR => ?_, fun ν hR => ?_⟩
    · have ix : nI k - 7 + 1 = nI (word + 1) := by
        show nI k - nI 7 + nI 1 = _
        rw [pk_sub (by omega), nI_add]; congr 1; omega
      rw [ec μ y hR, if_pos (show (7 : Int32) ≤ nI k from nI_le (a := 7) (by omega) (by omega)), if_neg (fun q : nI k = 10 => by have := (nI_eq (b := 10) (by omega) (by omega)).mp q; omega), ix]
      refine ev_cl (ev_mono (c_asks (ctxC_rep hR) hs hp hw) (fun r μ1 h => ev_some ⟨h.1, repC_of hy (fun k a _ => h.2 k (fun z => a ?_)) hR, fun k a b => h.2 k (fun z => ?_)⟩))
      · simp only [List.mem_cons, List.not_mem_nil, or_false] at z ⊢; omega
      · simp only [List.mem_cons, List.not_mem_nil, or_false] at z; omega
    · obtain ⟨h1, i1⟩ := mo_t hR
      refine ev_mono (hm ν hR) (fun r ν' h => ⟨h.1, repM_of (fun k hk => h.2 k (fun z => ?_)) (fun j _ => by rw [h.2 59 (by decide)]) h1, fun k hk => (h.2 k (fun z => ?_)).trans (i1 k hk)⟩)
      · simp only [List.mem_cons, List.not_mem_nil, or_false] at z hk; omega
      · simp only [List.mem_cons, List.not_mem_nil, or_false] at z; omega
  rcases (show k = 5 ∨ k = 6 ∨ k = 7 ∨ k = 8 ∨ k = 9 ∨ k = 10 by omega) with rfl | rfl | rfl | rfl | rfl | rfl
  · refine ⟨1 - (poN (zP z)).1 (86 + p), z, hA, fun μ y hy hR => ?_, fun ν hR => ?_⟩
    · rw [ec μ y hR, if_neg (by decide), fg_get hR.1.1 p 5 hp (by omega), cl_eq]
      exact ev_some ⟨hR.1.1.2.2.2.2.2.1 p hp, hR, inC_refl μ⟩
    · obtain ⟨h1, i1⟩ := mo_t hR
      rw [em ν hR, if_pos c4, if_pos (by rfl), show (86 : Int32) + nI p = nI (86 + p) from nI_add 86 p, ldA_nI (by omega) (by omega), h1.2.1.1]
      exact ev_some ⟨rfl, h1, i1⟩
  · refine ⟨(poN (zP z)).1 (102 + p) - 1, z, hA, fun μ y hy hR => ?_, fun ν hR => ?_⟩
    · rw [ec μ y hR, if_neg (by decide), fg_get hR.1.1 p 6 hp (by omega), cl_eq]
      exact ev_some ⟨hR.1.1.2.2.2.2.2.2.1 p hp, hR, inC_refl μ⟩
    · obtain ⟨h1, i1⟩ := mo_t hR
      rw [em ν hR, if_pos c4, if_neg (by decide), if_pos (by rfl), mo_seatOf hP hp, cl_eq, h1.2.1.1]
      exact ev_some ⟨rfl, h1, i1⟩
  · refine hask 0 (by omega) rfl (fun ν hR => ?_)
    rw [em ν hR, if_pos c4, if_neg (by decide), if_neg (by decide), if_pos (by rfl)]
    exact ev_cl (ev_mono (m_spills (ctxM_rep (mo_t hR).1) hs hp) (fun r ν1 h => ev_some h))
  · refine hask 1 (by omega) rfl (fun ν hR => ?_)
    rw [em ν hR, if_pos c4, if_neg (by decide), if_neg (by decide), if_neg (by decide), if_pos (by rfl)]
    exact ev_cl (ev_mono (m_throws (ctxM_rep (mo_t hR).1) hs hp) (fun r ν1 h => ev_some h))
  · refine hask 2 (by omega) rfl (fun ν hR => ?_)
    rw [em ν hR, if_pos c4, if_neg (by decide), if_neg (by decide), if_neg (by decide), if_neg (by decide), if_pos (by rfl)]
    exact ev_cl (ev_mono (m_runs (ctxM_rep (mo_t hR).1) hs hp) (fun r ν1 h => ev_some h))
  · refine ⟨poH (zP z) p - 1, z, hA, fun μ y hy hR => ?_, fun ν hR => ?_⟩
    · rw [ec μ y hR, if_pos (by decide), if_pos (by rfl)]
      unfold Tx_heirOf
      simp only [Nat.reduceAdd]
      rw [if_neg (nI_pos (by omega)), if_neg (show ¬ (16 : Int32) ≤ nI p from nI_ge (b := 16) (by omega) (by omega)), ldA_nI (by omega) (by omega), cl_eq]
      exact ev_some ⟨(hR.1.2.2.2.1 p (by omega)).1, hR, inC_refl μ⟩
    · obtain ⟨h1, i1⟩ := mo_t hR
      rw [em ν hR, if_pos c4, if_neg (by decide), if_neg (by decide), if_neg (by decide), if_neg (by decide), if_neg (by decide), if_pos (by rfl), ldA_nI (by omega) (by omega), h1.1.2.2.2.2.1 p (by omega)]
      exact ev_some ⟨rfl, h1, i1⟩
