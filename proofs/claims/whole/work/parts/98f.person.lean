/-! L3: PERSON -/
def mvP (z : Zt) (P : Nat) (S : St) (U : List (Nat → Int32)) : Zt := ((P, S, poL (zP z), poH (zP z), poW (zP z), poA (zP z), poB (zP z), poT (zP z), poK (zP z)), U, zB z, zF z, zG z, zI z)
theorem repC_figP {μ μ' : Mu} {y : Ly} {z : Zt} {P : Nat} {S : St} {U : List (Nat → Int32)} (hy : LyRep y) (hR : RepC μ y z) (h : ∀ k, k ∉ [0, 1, 2, 3, 4, 5, 6, 13, 39, 40, 41, 43, 44, 45, 46, 47, 50, 51, 52, 53, 54, 55, 56, 57, 58] → k < 59 → μ' k = μ k) (hF : FigC P 2 0 μ' S.1) (hb : ∀ k, k < 600 → μ' 5 k = S.2 k) (hU : UndoC μ' y P U) (hI : PicC μ' y (zI z)) : RepC μ' y (mvP z P S U) := by
  obtain ⟨⟨g1, g2, g3, g4, g5, g6, g7, g8, g9⟩, h2, h3, h4, h5, h6, h7, h8⟩ := hR
  have e : ∀ k, 7 ≤ k → k ≤ 38 → k ≠ 13 → μ' k = μ k := fun k a b c => h k (fun z => by
    simp only [List.mem_cons, List.not_mem_nil, or_false] at z; omega) (by omega)
  exact ⟨⟨hF, hb, lawC_off (fun k a b => e k (by omega) (by omega) (by omega)) g3, heirC_of (e 15 (by omega) (by omega) (by omega)) (e 16 (by omega) (by omega) (by omega)) g4, weaC_of (e 14 (by omega) (by omega) (by omega)) (e 17 (by omega) (by omega) (by omega)) g5, by rw [e 17 (by omega) (by omega) (by omega)]; exact g6, by rw [e 17 (by omega) (by omega) (by omega)]; exact g7, by rw [e 17 (by omega) (by omega) (by omega)]; exact g8, toldC_off (fun k a b => e k (by omega) (by omega) (by omega)) g9⟩, by rw [h 42 (by decide) (by omega)]; exact h2, by rw [h 48 (by decide) (by omega)]; exact h3, fun i hi => by rw [h 49 (by decide) (by omega)]; exact h4 i hi, by rw [h 48 (by decide) (by omega)]; exact h5, by rw [h 48 (by decide) (by omega)]; exact h6, hU, hI⟩
theorem repM_figP {ν ν' : Mu} {z : Zt} {P : Nat} {S : St} {U : List (Nat → Int32)} (hR : RepM ν z) (hr : ∀ k, k ∈ [64, 65, 66, 67, 68, 69, 70, 71, 72, 76, 77, 81, 82, 83, 85, 86, 88, 91, 93, 94, 95, 98] → ν' k = ν k) (hf : ∀ j, j ∈ [5, 9, 29, 30, 31, 34, 36, 41, 42, 45, 51, 55, 58, 61, 66] → ν' 59 j = ν 59 j) (h6 : ν' 59 6 = nI P) (h60 : ν' 60 = S.1) (h63 : ν' 63 = S.2) (h3 : ν' 59 3 = nI U.length) (hU : ∀ i k, i < U.length → k < 118 → ν' 61 (118 * (U.length - 1 - i) + k) = U.getD i N0 k) : RepM ν' (mvP z P S U) := by
  obtain ⟨⟨g1, g2, g3, g4, g5, g6, g7, g8, g9⟩, ⟨h2, h2b⟩, h5, h4, h5', g10, h7, h8, h9, h10, h11⟩ := hR
  refine ⟨⟨fun k _ => by rw [h60]; rfl, fun k _ => by rw [h63]; rfl, h6, lawM_off (fun k a b => hr k (by
    simp only [List.mem_cons, List.not_mem_nil, or_false]; omega)) g4, fun k hk => by rw [hr 77 (by decide)]; exact g5 k hk, weaM_of (hf 34 (by decide)) (hr 76 (by decide)) g6, (hf 31 (by decide)).trans g7, (hf 36 (by decide)).trans g8, toldM_off (fun j hj => hf j ?_) (fun k hk => hr k ?_) g9⟩, ⟨h60, h63⟩, (hf 5 (by decide)).trans h5, h3, hU, (hf 9 (by decide)).trans g10, fun i hi => by rw [hr 64 (by decide)]; exact h7 i hi, fun i hi => by rw [hr 65 (by decide)]; exact h8 i hi, (hf 29 (by decide)).trans h9, (hf 30 (by decide)).trans h10, imgM_of (hf 66 (by decide)) (hr 98 (by decide)) h11⟩
  · simp only [List.mem_cons, List.not_mem_nil, or_false] at hj ⊢; omega
  · simp only [List.mem_cons, List.not_mem_nil, or_false] at hk ⊢; omega
def comeN (N : Nat → Int32) (P : Nat) (b : Int32) : Nat → Int32 := fun i => if 6 ≤ i ∧ i < 118 ∧ (i - 6) % 16 = P then (if i = 6 + P then b else 0) else N i
theorem comeN_old {N : Nat → Int32} {P : Nat} {b : Int32} {f p : Nat} (hp : p < P) (hP : P < 16) : comeN N P b (6 + 16 * f + p) = N (6 + 16 * f + p) := by
  unfold comeN
  rw [if_neg (by omega)]
theorem comeN_at {N : Nat → Int32} {P : Nat} {b : Int32} {f : Nat} (hP : P < 16) (h0 : 1 ≤ f) (h6 : f < 7) : comeN N P b (6 + 16 * f + P) = 0 := by
  unfold comeN
  rw [if_pos (by omega), if_neg (by omega)]
theorem comeN_b {N : Nat → Int32} {P : Nat} {b : Int32} (hP : P < 16) : comeN N P b (6 + P) = b := by
  unfold comeN
  rw [if_pos (by omega), if_pos rfl]
theorem comeN_lo {N : Nat → Int32} {P : Nat} {b : Int32} {i : Nat} (h : i < 6) : comeN N P b i = N i := by
  unfold comeN
  rw [if_neg (by omega)]
theorem nok_come {P : Nat} {N : Nat → Int32} (h : NOk P N) (hP : P < 16) (b : Int32) : NOk (P + 1) (comeN N P b) := by
  obtain ⟨h1, h2, h3, h4, h5, l, h6, h7⟩ := h
  have o1 : ∀ p, p < P → comeN N P b (22 + p) = N (22 + p) := fun p hp => comeN_old (f := 1) hp hP
  have o5 : ∀ p, p < P → comeN N P b (86 + p) = N (86 + p) := fun p hp => comeN_old (f := 5) hp hP
  have o6 : ∀ p, p < P → comeN N P b (102 + p) = N (102 + p) := fun p hp => comeN_old (f := 6) hp hP
  have a1 : comeN N P b (22 + P) = 0 := comeN_at (f := 1) hP (by omega) (by omega)
  have a5 : comeN N P b (86 + P) = 0 := comeN_at (f := 5) hP (by omega) (by omega)
  have a6 : comeN N P b (102 + P) = 0 := comeN_at (f := 6) hP (by omega) (by omega)
  refine ⟨by omega, fun p hp => ?_, fun p hp => ?_, fun p hp => ?_, fun p q hp hq e => ?_, l, h6, (comeN_lo (by omega)).trans h7⟩
  · rcases Nat.lt_or_ge p P with c | c
    · rw [o1 p c]; exact h2 p c
    · rw [show p = P by omega, a1]; exact ⟨0, by omega, rfl⟩
  · rcases Nat.lt_or_ge p P with c | c
    · rw [o5 p c, o6 p c, o1 p c]; exact h3 p c
    · rw [show p = P by omega, a5]; exact Or.inl rfl
  · rcases Nat.lt_or_ge p P with c | c
    · rw [o6 p c]; exact h4 p c
    · rw [show p = P by omega, a6]; exact ⟨0, by omega, rfl⟩
  · rcases Nat.lt_or_ge p P with c | c
    · rcases Nat.lt_or_ge q P with d | d
      · rw [o6 p c] at e ⊢; rw [o6 q d] at e; exact h5 p q c d e
      · rw [show q = P by omega, a6] at e; exact Or.inr e
    · rw [show p = P by omega]; exact Or.inr a6
theorem fg_come {P c : Nat} {th b : Int32} {μ : Mu} {N : Nat → Int32} (h : FigC P c th μ N) (hP : P < 16) : Ev (Fg_come c b μ) (fun r μ' => r = nI P ∧ FigC (P + 1) c th μ' (comeN N P b) ∧ Off [c, c + 1] μ μ') := by
  obtain ⟨h1, h2, h3, h4, h5, h6, h7, h8, h9⟩ := h
  have k3 : up2 μ c 3 (nI P + 1) c 3 = nI (P + 1) := by rw [up2_same, nI_1]
  have put : ∀ (ν : Mu) (f : Nat) (v : Int32), ν c 3 = nI (P + 1) → f < 7 → Fg_put c (nI P) (nI f) v ν = some ((), up2 ν (c + 1) (7 * P + f) v) := by
    intro ν f v hν hf
    unfold Fg_put
    simp (disch := omega) only [gF_eq, hν, lt0_nI, nI_leI, li_le, if_neg, if_false, ix7, stA_nI]
  unfold Fg_come
  rw [gF_eq, h3, if_pos (show nI P < (16 : Int32) from nI_lt (b := 16) hP (by omega)), gF_eq, h3, gF_eq, h3, pF_eq, show (0 : Int32) = nI 0 from rfl, put _ 0 b k3 (by omega), cl_eq, show (5 : Int32) = nI 5 from rfl, put _ 5 1 ?_ (by omega), cl_eq, show (6 : Int32) = nI 6 from rfl, put _ 6 (-1) ?_ (by omega), cl_eq]
  · refine ev_some ⟨rfl, ⟨by omega, ?_, ?_, fun j hj hj2 => ?_, fun p f hp hf => ?_, fun p hp => ?_, fun p hp => ?_, fun s hs => ?_, fun p f a b2 u v => ?_⟩, fun k hk => ?_⟩
    · rw [up2_ne (by omega), up2_ne (by omega), up2_ne (by omega), up2_off (Or.inr (by decide))]; exact h2
    · rw [up2_ne (by omega), up2_ne (by omega), up2_ne (by omega)]; exact k3
    · rw [up2_ne (by omega), up2_ne (by omega), up2_ne (by omega), up2_off (Or.inr (by omega)), h4 j hj hj2, comeN_lo (by omega)]
    · rw [up2_off (Or.inr (by omega)), up2_off (Or.inr (by omega))]
      rcases Nat.lt_or_ge p P with q | q
      · rw [up2_off (Or.inr (by omega)), up2_ne (by omega), comeN_old q hP]; exact h5 p f q hf
      · rw [show p = P by omega]
        by_cases f0 : f = 0
        · rw [f0, up2_same]; exact (comeN_b hP).symm
        · rw [up2_off (Or.inr (by omega)), up2_ne (by omega), comeN_at hP (by omega) (by omega)]; exact h9 P f (by omega) (by omega) (by omega) hf
    · rw [up2_off (Or.inr (by omega))]
      rcases Nat.lt_or_ge p P with q | q
      · rw [up2_off (Or.inr (by omega)), up2_off (Or.inr (by omega)), up2_ne (by omega), h6 p q]
        exact congrArg (fun z => 1 - z) (comeN_old (f := 5) q hP).symm
      · rw [show p = P by omega, up2_same]
        have := comeN_at (N := N) (b := b) (f := 5) hP (by omega) (by omega)
        rw [show 6 + 16 * 5 + P = 86 + P by omega] at this
        rw [this]; decide
    · rcases Nat.lt_or_ge p P with q | q
      · rw [up2_off (Or.inr (by omega)), up2_off (Or.inr (by omega)), up2_off (Or.inr (by omega)), up2_ne (by omega), h7 p q]
        exact congrArg (fun z => z - 1) (comeN_old (f := 6) q hP).symm
      · rw [show p = P by omega, up2_same]
        have := comeN_at (N := N) (b := b) (f := 6) hP (by omega) (by omega)
        rw [show 6 + 16 * 6 + P = 102 + P by omega] at this
        rw [this]; decide
    · rw [up2_ne (by omega), up2_ne (by omega), up2_ne (by omega), up2_ne (by omega), h8 s hs]
      have o6 : ∀ p, p < P → comeN N P b (102 + p) = N (102 + p) := fun p hp => comeN_old (f := 6) hp hP
      have a6 : comeN N P b (102 + P) = 0 := comeN_at (f := 6) hP (by omega) (by omega)
      rcases whoN_is (P := P) (N := N) (s := s) with ⟨p, hp, e, g1, g2⟩ | ⟨e, g1⟩
      · rw [e]; exact (whoN_at (by omega) ((o6 p hp).trans g1) (fun j hj => by rw [o6 j (by omega)]; exact g2 j hj)).symm
      · rw [e]; refine (whoN_no (fun p hp => ?_)).symm
        rcases Nat.lt_or_ge p P with q | q
        · rw [o6 p q]; exact g1 p q
        · rw [show p = P by omega, a6]; exact fun z => nI_ne0 (n := s + 1) (by omega) (by omega) z.symm
    · rw [up2_off (Or.inr (by omega)), up2_off (Or.inr (by omega)), up2_off (Or.inr (by omega)), up2_ne (by omega)]; exact h9 p f (by omega) b2 u v
    · simp only [List.mem_cons, List.not_mem_nil, or_false, not_or] at hk
      rw [up2_ne hk.2, up2_ne hk.2, up2_ne hk.2, up2_ne hk.1]
  · rw [up2_ne (by omega), up2_ne (by omega)]; exact k3
  · rw [up2_ne (by omega)]; exact k3
def zcN (N : Nat → Int32) (P k : Nat) : Nat → Int32 := fun i => if 6 ≤ i ∧ i < 6 + 16 * k ∧ (i - 6) % 16 = P then 0 else N i
theorem mo_come {P : Nat} {ν : Mu} {b : Int32} {N : Nat → Int32} (h6 : ν 59 6 = nI P) (hP : P < 16) (h60 : ν 60 = N) : Ev (Mo_person_30 59 b FU 6 ν) (fun r ν' => r = nI P ∧ ν' 60 = comeN N P b ∧ ν' 59 6 = nI (P + 1) ∧ ν' 59 3 = 0 ∧ (∀ j, j ≠ 3 → j ≠ 6 → ν' 59 j = ν 59 j) ∧ ∀ k, k ≠ 59 → k ≠ 60 → ν' k = ν k) := by
  suffices K : ∀ μ1 : Mu, (∀ k, k ≠ 60 → μ1 k = ν k) → μ1 60 = zcN N P 0 → Ev (Mo_person_30 59 b FU (nI (6 + 16 * 0)) μ1) (fun r ν' => r = nI P ∧ ν' 60 = comeN N P b ∧ ν' 59 6 = nI (P + 1) ∧ ν' 59 3 = 0 ∧ (∀ j, j ≠ 3 → j ≠ 6 → ν' 59 j = ν 59 j) ∧ ∀ k, k ≠ 59 → k ≠ 60 → ν' k = ν k) from K ν (fun _ _ => rfl) (by
    rw [h60]; funext i; unfold zcN; rw [if_neg (by omega)])
  unfold Mo_person_30
  refine lp_fu (F := fun kb => Mo_person_30b 59 kb b) (z := fun _ _ => none) 7 (fun k A => ∀ μ1 : Mu, (∀ k, k ≠ 60 → μ1 k = ν k) → μ1 60 = zcN N P k → Ev (A (nI (6 + 16 * k)) μ1) (fun r ν' => r = nI P ∧ ν' 60 = comeN N P b ∧ ν' 59 6 = nI (P + 1) ∧ ν' 59 3 = 0 ∧ (∀ j, j ≠ 3 → j ≠ 6 → ν' 59 j = ν 59 j) ∧ ∀ k, k ≠ 59 → k ≠ 60 → ν' k = ν k)) (by omega) ?_ ?_ 0 (by omega)
  · intro A μ1 hO hz
    show Ev (Mo_person_30b 59 A b _ μ1) _
    unfold Mo_person_30b
    simp only [Nat.reduceAdd]
    have k6 : μ1 59 6 = nI P := by rw [hO 59 (by decide)]; exact h6
    rw [if_pos (show (118 : Int32) ≤ nI (6 + 16 * 7) from nI_le (a := 118) (by omega) (by omega)), gF_eq, k6, show (6 : Int32) + nI P = nI (6 + P) from nI_add 6 P, stA_nI (by omega) (by omega), gF_eq, up2_ne (by decide), k6, pF_eq, pF_eq, gF_eq, up2_off (Or.inr (by decide)), up2_same]
    refine ev_some ⟨by rw [nI_1, nI_pred], ?_, ?_, up2_same _ _ _ _, fun j a b2 => ?_, fun k a b2 => ?_⟩
    · rw [up2_ne (by decide), up2_ne (by decide), up2_row, hz]
      funext i
      unfold comeN
      by_cases c : i = 6 + P
      · rw [c, fu_same, if_pos (by omega), if_pos rfl]
      · rw [fu_off c]
        unfold zcN
        by_cases d : 6 ≤ i ∧ i < 118 ∧ (i - 6) % 16 = P
        · rw [if_pos (by omega), if_pos d, if_neg c]
        · rw [if_neg (by omega), if_neg d]
    · rw [up2_off (Or.inr (by decide)), up2_same, nI_1]
    · rw [up2_off (Or.inr a), up2_off (Or.inr b2), up2_ne (by decide), hO 59 (by decide)]
    · rw [up2_ne a, up2_ne a, up2_ne b2, hO k b2]
  · intro k A hk ih μ1 hO hz
    show Ev (Mo_person_30b 59 A b _ μ1) _
    unfold Mo_person_30b
    simp only [Nat.reduceAdd]
    have k6 : μ1 59 6 = nI P := by rw [hO 59 (by decide)]; exact h6
    rw [if_neg (show ¬ (118 : Int32) ≤ nI (6 + 16 * k) from nI_ge (b := 118) (by omega) (by omega)), gF_eq, k6, nI_add, stA_nI (by omega) (by omega), show nI (6 + 16 * k) + 16 = nI (6 + 16 * (k + 1)) by rw [show (16 : Int32) = nI 16 from rfl, nI_add]; congr 1]
    refine ih _ (fun q hq => by rw [up2_ne hq, hO q hq]) ?_
    rw [up2_row, hz]
    funext i
    unfold zcN
    by_cases c : i = 6 + 16 * k + P
    · rw [c, fu_same, if_pos (by omega)]
    · rw [fu_off c]
      by_cases d : 6 ≤ i ∧ i < 6 + 16 * k ∧ (i - 6) % 16 = P
      · rw [if_pos d, if_pos (by omega)]
      · rw [if_neg d, if_neg (by omega)]
theorem hok_mono {P P' : Nat} {H : Nat → Int32} (hP : P ≤ P') (h : HOk P H) : HOk P' H := fun q hq => by
  rcases h q hq with c | ⟨a, h, b, e⟩
  · exact Or.inl c
  · exact Or.inr ⟨by omega, h, by omega, e⟩
theorem wok_mono {P P' : Nat} {W : List WLn} (hP : P ≤ P') (h : WOk P W) : WOk P' W := ⟨h.1, fun l hl => by
  obtain ⟨a, b, c, d, e, f⟩ := h.2 l hl
  exact ⟨a, b, c, d, fun z => Nat.lt_of_lt_of_le (e z) hP, fun z => Nat.lt_of_lt_of_le (f z) hP⟩⟩
theorem sn_person (b : Int32) : StepN (Sf_person 0 b) (Mo_person 59 b) := by
  refine stepN_of (fun z hA => ?_)
  have hP : poP (zP z) ≤ 16 := hA.1.1.1.1
  have no : (b < 0 ∨ 9 < b) ∨ poP (zP z) = 16 → ∃ r z', AbsOk z' ∧ (∀ μ y, LyRep y → RepC μ y z → Ev (Sf_person 0 b μ) (fun x μ1 => x = r ∧ RepC μ1 y z' ∧ InC μ μ1)) ∧ (∀ ν, RepM ν z → Ev (Mo_person 59 b ν) (fun x ν1 => x = r ∧ RepM ν1 z' ∧ InM ν ν1)) := by
    intro hc
    refine ⟨-1, z, hA, fun μ y hy hR => ?_, fun ν hR => ?_⟩
    · have e : Sf_person 0 b μ = some (-1, μ) := by
        unfold Sf_person
        simp only [Nat.reduceAdd]
        rw [within_eq, cl_eq]
        by_cases c : b < 0 ∨ 9 < b
        · rw [if_pos c, if_pos rfl]
        · rw [if_neg c, if_neg (show ¬ (1 : Int32) = 0 by decide), gF_eq, hR.1.1.2.2.1, if_neg]
          rcases hc with q | q
          · exact absurd q c
          · rw [q]; decide
      rw [e]; exact ev_some ⟨rfl, hR, inC_refl μ⟩
    · have h1 := repM_t hR
      have e : Mo_person 59 b ν = some (-1, up2 ν 59 0 0) := by
        unfold Mo_person
        rw [pF_eq, isIn_eq, cl_eq]
        by_cases c : b < 0 ∨ 9 < b
        · rw [if_pos c, if_pos rfl]
        · rw [if_neg c, if_neg (show ¬ (1 : Int32) = 0 by decide), gF_eq, h1.1.2.2.1, if_pos]
          rcases hc with q | q
          · exact absurd q c
          · rw [q]; rfl
      rw [e]; exact ev_some ⟨rfl, h1, inM_up (inM_refl ν) (by omega)⟩
  by_cases c : b < 0 ∨ 9 < b
  · exact no (Or.inl c)
  by_cases c16 : poP (zP z) = 16
  · exact no (Or.inr c16)
  have hP' : poP (zP z) < 16 := by omega
  refine ⟨nI (poP (zP z)), mvP z (poP (zP z) + 1) (comeN (poN (zP z)).1 (poP (zP z)) b, (poN (zP z)).2) [], ⟨⟨⟨nok_come hA.1.1.1 hP' b, hA.1.1.2.1, hok_mono (Nat.le_succ _) hA.1.1.2.2⟩, wok_mono (Nat.le_succ _) hA.1.2.1, hA.1.2.2⟩, Nat.zero_le 6, fun N hN => absurd hN List.not_mem_nil, hA.2.2.2⟩, fun μ y hy hR => ?_, fun ν hR => ?_⟩
  · unfold Sf_person Sf_forget
    simp only [Nat.reduceAdd]
    rw [within_eq, cl_eq, if_neg c, if_neg (show ¬ (1 : Int32) = 0 by decide), gF_eq, hR.1.1.2.2.1, if_pos (show nI (poP (zP z)) < (16 : Int32) from nI_lt (b := 16) hP' (by omega)), pF_eq, cl_eq]
    have hF : FigC (poP (zP z)) 2 0 (up2 μ 0 8 0) (poN (zP z)).1 := figC_congr (up2_ne (by decide)) (up2_ne (by decide)) (up2_ne (by decide)) hR.1.1
    refine ev_cl (ev_mono (fg_come hF hP') (fun r μ' h => ev_some ⟨h.1, repC_figP hy hR (fun k hk _ => ?_) h.2.1 (fun k hk => ?_) (undoC_no hy ?_ ?_ (fun k hk => ?_) hR.2.2.2.2.2.2.1) (picC_of hy (fun k hk => ?_) hR.2.2.2.2.2.2.2), fun k a a2 => ?_⟩))
    · rw [h.2.2 k (fun z => hk (by
        simp only [List.mem_cons, List.not_mem_nil, or_false] at z ⊢; omega)), up2_ne (fun z => hk (by rw [z]; decide))]
    · rw [h.2.2 5 (by decide), up2_ne (by decide)]; exact hR.1.2.1 k hk
    · rw [h.2.2 0 (by decide), up2_off (Or.inr (by decide))]
    · rw [h.2.2 0 (by decide), up2_same]
    · rw [h.2.2 k (fun z => by
        simp only [List.mem_cons, List.not_mem_nil, or_false] at z; omega), up2_ne (by omega)]
    · rw [h.2.2 k (fun z => by
        simp only [List.mem_cons, List.not_mem_nil, or_false] at z; omega), up2_ne (by omega)]
    · rw [h.2.2 k (fun z => by
        simp only [List.mem_cons, List.not_mem_nil, or_false] at z; omega), up2_ne (by omega)]
  · have h1 := repM_t hR
    unfold Mo_person
    rw [pF_eq, isIn_eq, cl_eq, if_neg c, if_neg (show ¬ (1 : Int32) = 0 by decide), gF_eq, h1.1.2.2.1, if_neg (fun q : nI (poP (zP z)) = 16 => c16 ((nI_eq (b := 16) (by omega) (by omega)).mp q))]
    refine ev_mono (mo_come h1.1.2.2.1 hP' h1.2.1.1) (fun r ν' h => ⟨h.1, repM_figP h1 (fun k hk => h.2.2.2.2.2 k (fun z => ?_) (fun z => ?_)) (fun j hj => h.2.2.2.2.1 j (fun z => ?_) (fun z => ?_)) h.2.2.1 h.2.1 ?_ h.2.2.2.1 (fun i k hi => absurd hi (by show ¬ i < 0; omega)), fun k hk => ?_⟩)
    · rw [z] at hk; exact absurd hk (by decide)
    · rw [z] at hk; exact absurd hk (by decide)
    · rw [z] at hj; exact absurd hj (by decide)
    · rw [z] at hj; exact absurd hj (by decide)
    · rw [h.2.2.2.2.2 63 (by decide) (by decide)]; exact h1.2.1.2
    · rw [h.2.2.2.2.2 k (by omega) (by omega), up2_ne (by omega)]
