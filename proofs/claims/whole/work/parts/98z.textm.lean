/-! L3: TEXT, the reference -/
def FrZ (ν ν' : Mu) : Prop := (∀ k, k ∉ [59, 67, 68, 69, 70, 71, 72, 73, 74, 75, 76, 77] → ν' k = ν k) ∧ (∀ k i, k ∈ [67, 68, 69, 70] → i < 32 → ν' k i = ν k i) ∧ (∀ i, i < 800 → ν' 71 i = ν 71 i ∧ ν' 72 i = ν 72 i) ∧ (∀ i, i < 64 → ν' 76 i = ν 76 i) ∧ (∀ i, i < 16 → ν' 77 i = ν 77 i) ∧ ∀ j, j ∉ [0, 9, 10, 11, 12, 13, 22, 23, 24, 26, 27, 28, 29, 30] → ν' 59 j = ν 59 j
theorem plL_z {p : Nat × Nat} (hp : p ∈ plL) : (p.1 ∉ [73, 74, 75]) ∧ (p.1 ∈ [67, 68, 69, 70] → p.2 < 32) ∧ (p.1 = 71 ∨ p.1 = 72 → p.2 < 800) ∧ (p.1 = 76 → p.2 < 64) ∧ (p.1 = 77 → p.2 < 16) ∧ (p.1 = 59 → p.2 ∉ [0, 9, 10, 11, 12, 13, 22, 23, 24, 26, 27, 28, 29, 30]) := by
  have : plL.all (fun p => decide ((p.1 ∉ [73, 74, 75]) ∧ (p.1 ∈ [67, 68, 69, 70] → p.2 < 32) ∧ (p.1 = 71 ∨ p.1 = 72 → p.2 < 800) ∧ (p.1 = 76 → p.2 < 64) ∧ (p.1 = 77 → p.2 < 16) ∧ (p.1 = 59 → p.2 ∉ [0, 9, 10, 11, 12, 13, 22, 23, 24, 26, 27, 28, 29, 30]))) = true := by decide +kernel
  exact of_decide_eq_true (List.all_eq_true.mp this p hp)
theorem frz_pl {ν ν' : Mu} (h : FrZ ν ν') {p : Nat × Nat} (hp : p ∈ plL) : ν' p.1 p.2 = ν p.1 p.2 := by
  obtain ⟨a1, a2, a3, a4, a5, a6⟩ := plL_z hp
  obtain ⟨h1, h2, h3, h4, h5, h6⟩ := h
  by_cases c0 : p.1 = 59
  · rw [c0]; exact h6 _ (a6 c0)
  by_cases c1 : p.1 ∈ [67, 68, 69, 70]
  · exact h2 _ _ c1 (a2 c1)
  by_cases c2 : p.1 = 71
  · rw [c2]; exact (h3 _ (a3 (Or.inl c2))).1
  by_cases c3 : p.1 = 72
  · rw [c3]; exact (h3 _ (a3 (Or.inr c3))).2
  by_cases c4 : p.1 = 76
  · rw [c4]; exact h4 _ (a4 c4)
  by_cases c5 : p.1 = 77
  · rw [c5]; exact h5 _ (a5 c5)
  · rw [h1 p.1 (fun z => ?_)]
    simp only [List.mem_cons, List.not_mem_nil, or_false] at z a1 c1
    omega
theorem frz_up {ν ν' : Mu} {j : Nat} {v : Int32} (h : FrZ ν ν') (hj : j ∈ [0, 9, 10, 11, 12, 13, 22, 23, 24, 26, 27, 28, 29, 30]) : FrZ ν (up2 ν' 59 j v) := by
  obtain ⟨h1, h2, h3, h4, h5, h6⟩ := h
  refine ⟨fun k hk => (up2_ne (fun z => hk (by rw [z]; decide))).trans (h1 k hk), fun k i hk hi => (up2_off (Or.inl (fun z => by rw [z] at hk; exact absurd hk (by decide)))).trans (h2 k i hk hi), fun i hi => ⟨(up2_off (Or.inl (by decide))).trans (h3 i hi).1, (up2_off (Or.inl (by decide))).trans (h3 i hi).2⟩, fun i hi => (up2_off (Or.inl (by decide))).trans (h4 i hi), fun i hi => (up2_off (Or.inl (by decide))).trans (h5 i hi), fun i hi => (up2_off (Or.inr (fun z => hi (by rw [z]; exact hj)))).trans (h6 i hi)⟩
theorem frz_refl (ν : Mu) : FrZ ν ν := ⟨fun _ _ => rfl, fun _ _ _ _ => rfl, fun _ _ => ⟨rfl, rfl⟩, fun _ _ => rfl, fun _ _ => rfl, fun _ _ => rfl⟩
theorem frz_M {ν ν1 ν2 : Mu} (h : FrZ ν ν1) (g : FrM ν1 ν2) : FrZ ν ν2 := by
  obtain ⟨h1, h2, h3, h4, h5, h6⟩ := h
  refine ⟨fun k hk => (g.1 k (fun z => hk (by rw [z]; decide))).trans (h1 k hk), fun k i hk hi => by rw [g.1 k (fun z => by rw [z] at hk; exact absurd hk (by decide))]; exact h2 k i hk hi, fun i hi => by rw [g.1 71 (by decide), g.1 72 (by decide)]; exact h3 i hi, fun i hi => by rw [g.1 76 (by decide)]; exact h4 i hi, fun i hi => by rw [g.1 77 (by decide)]; exact h5 i hi, fun j hj => (g.2 j (fun z => hj ?_)).trans (h6 j hj)⟩
  simp only [List.mem_cons, List.not_mem_nil, or_false] at z ⊢; omega
theorem frz_LM {ν ν1 ν2 : Mu} (h : FrZ ν ν1) (g : FrLM ν1 ν2) : FrZ ν ν2 := by
  obtain ⟨h1, h2, h3, h4, h5, h6⟩ := h
  obtain ⟨g1, g2, g3, g4⟩ := g
  refine ⟨fun k hk => (g1 k (fun z => hk ?_)).trans (h1 k hk), fun k i hk hi => (g2 k i hk hi).trans (h2 k i hk hi), fun i hi => ⟨(g3 i hi).1.trans (h3 i hi).1, (g3 i hi).2.trans (h3 i hi).2⟩, fun i hi => by rw [g1 76 (by decide)]; exact h4 i hi, fun i hi => by rw [g1 77 (by decide)]; exact h5 i hi, fun j hj => (g4 j (fun z => hj ?_)).trans (h6 j hj)⟩
  · simp only [List.mem_cons, List.not_mem_nil, or_false] at z ⊢; omega
  · simp only [List.mem_cons, List.not_mem_nil, or_false] at z ⊢; omega
theorem frz_X {ν ν1 ν2 : Mu} (h : FrZ ν ν1) (g : FrX ν1 ν2) : FrZ ν ν2 := by
  obtain ⟨h1, h2, h3, h4, h5, h6⟩ := h
  obtain ⟨g1, g2, g3, g4, g5⟩ := g
  refine ⟨fun k hk => (g1 k (fun z => hk ?_)).trans (h1 k hk), fun k i hk hi => (congrFun (g1 k (fun z => ?_)) i).trans (h2 k i hk hi), fun i hi => ⟨(g2 i hi).1.trans (h3 i hi).1, (g2 i hi).2.trans (h3 i hi).2⟩, fun i hi => (g3 i hi).trans (h4 i hi), fun i hi => (g4 i hi).trans (h5 i hi), fun j hj => (g5 j (fun z => hj ?_)).trans (h6 j hj)⟩
  · simp only [List.mem_cons, List.not_mem_nil, or_false] at z ⊢; omega
  · simp only [List.mem_cons, List.not_mem_nil, or_false] at z hk; omega
  · simp only [List.mem_cons, List.not_mem_nil, or_false] at z ⊢; omega
theorem frz_in {ν ν' : Mu} (h : FrZ ν ν') : InM ν ν' := fun k hk => h.1 k (fun z => by
  simp only [List.mem_cons, List.not_mem_nil, or_false] at z; omega)
/-- told again -/
theorem repM_txt {ν ν1 ν' : Mu} {z : Zt} {p : PoS} {U : List (Nat → Int32)} {F G : Int32} (hR : RepM ν z) (h : FrZ ν ν1) (hr : ∀ k, k ∈ [61, 65, 98] → ν' k = ν1 k) (hf : ∀ j, j ∈ [5, 66] → ν' 59 j = ν1 59 j) (hP : PortM ν' p) (h60 : ν' 60 = (poN p).1) (h63 : ν' 63 = (poN p).2) (h9 : ν' 59 9 = 0) (h29 : ν' 59 29 = F) (h30 : ν' 59 30 = G) (h3 : ν' 59 3 = nI U.length) (hU : ∀ i k, i < U.length → k < 118 → ν' 61 (118 * (U.length - 1 - i) + k) = U.getD i N0 k) : RepM ν' (zX z p U F G) := by
  obtain ⟨g1, ⟨g2, g2b⟩, g3, g4, g5, g6, g7, g8, gA, gB, gC⟩ := hR
  exact ⟨hP, ⟨h60, h63⟩, by rw [hf 5 (by decide), h.2.2.2.2.2 5 (by decide)]; exact g3, h3, hU, h9, fun i hi => absurd hi (by show ¬ i < 0; omega), fun i hi => by rw [hr 65 (by decide), h.1 65 (by decide)]; exact g8 i hi, h29, h30, imgM_of (by rw [hf 66 (by decide), h.2.2.2.2.2 66 (by decide)]) (by rw [hr 98 (by decide), h.1 98 (by decide)]) gC⟩
theorem repM_bad {ν ν' : Mu} {z : Zt} {F G : Int32} (hA : AbsOk z) (hR : RepM ν z) (h : FrZ ν ν') (h9 : ν' 59 9 = 0) (h29 : ν' 59 29 = F) (h30 : ν' 59 30 = G) : RepM ν' (zX z (zP z) (zU z) F G) ∧ InM ν ν' :=
  ⟨repM_txt hR h (fun _ _ => rfl) (fun _ _ => rfl) (portM_pl hR.1 hA.1 (fun p hp => frz_pl h hp)) (by rw [h.1 60 (by decide)]; exact hR.2.1.1) (by rw [h.1 63 (by decide)]; exact hR.2.1.2) h9 h29 h30 (by rw [h.2.2.2.2.2 3 (by decide)]; exact hR.2.2.2.1) (fun i k a b => by rw [h.1 61 (by decide)]; exact hR.2.2.2.2.1 i k a b), frz_in h⟩
/-- opened -/
def TxO (ν : Mu) (z : Zt) (ν2 : Mu) : Prop := FrZ ν ν2 ∧ CoM (tT z) (zB z).length 0 [] ν2 ∧ ν2 59 24 = 0 ∧ ν2 59 22 = 0 ∧ ν2 59 29 = 0 ∧ ν2 59 30 = -1 ∧ ν2 59 6 = nI (poP (zP z))
theorem mt_open {ν : Mu} {z : Zt} (hA : AbsOk z) (hR : RepM ν z) : Ev (Mo_reads 59 (up2 (up2 (up2 (up2 (up2 (up2 (up2 ν 59 0 0) 59 29 0) 59 30 (-1)) 59 10 0) 59 23 0) 59 24 0) 59 22 0)) (fun _ ν2 => TxO ν z ν2) := by
  have hF : FrZ ν (up2 (up2 (up2 (up2 (up2 (up2 (up2 ν 59 0 0) 59 29 0) 59 30 (-1)) 59 10 0) 59 23 0) 59 24 0) 59 22 0) := frz_up (frz_up (frz_up (frz_up (frz_up (frz_up (frz_up (frz_refl ν) (by decide)) (by decide)) (by decide)) (by decide)) (by decide)) (by decide)) (by decide)
  have e10 : (up2 (up2 (up2 (up2 (up2 (up2 (up2 ν 59 0 0) 59 29 0) 59 30 (-1)) 59 10 0) 59 23 0) 59 24 0) 59 22 0) 59 10 = nI 0 := by rw [up2_off (Or.inr (by decide)), up2_off (Or.inr (by decide)), up2_off (Or.inr (by decide)), up2_same]; rfl
  have e23 : (up2 (up2 (up2 (up2 (up2 (up2 (up2 ν 59 0 0) 59 29 0) 59 30 (-1)) 59 10 0) 59 23 0) 59 24 0) 59 22 0) 59 23 = 0 := by rw [up2_off (Or.inr (by decide)), up2_off (Or.inr (by decide)), up2_same]
  have e24 : (up2 (up2 (up2 (up2 (up2 (up2 (up2 ν 59 0 0) 59 29 0) 59 30 (-1)) 59 10 0) 59 23 0) 59 24 0) 59 22 0) 59 24 = 0 := by rw [up2_off (Or.inr (by decide)), up2_same]
  have e22 : (up2 (up2 (up2 (up2 (up2 (up2 (up2 ν 59 0 0) 59 29 0) 59 30 (-1)) 59 10 0) 59 23 0) 59 24 0) 59 22 0) 59 22 = 0 := up2_same _ _ _ _
  have e29 : (up2 (up2 (up2 (up2 (up2 (up2 (up2 ν 59 0 0) 59 29 0) 59 30 (-1)) 59 10 0) 59 23 0) 59 24 0) 59 22 0) 59 29 = 0 := by rw [up2_off (Or.inr (by decide)), up2_off (Or.inr (by decide)), up2_off (Or.inr (by decide)), up2_off (Or.inr (by decide)), up2_off (Or.inr (by decide)), up2_same]
  have e30 : (up2 (up2 (up2 (up2 (up2 (up2 (up2 ν 59 0 0) 59 29 0) 59 30 (-1)) 59 10 0) 59 23 0) 59 24 0) 59 22 0) 59 30 = -1 := by rw [up2_off (Or.inr (by decide)), up2_off (Or.inr (by decide)), up2_off (Or.inr (by decide)), up2_off (Or.inr (by decide)), up2_same]
  have e9 : (up2 (up2 (up2 (up2 (up2 (up2 (up2 ν 59 0 0) 59 29 0) 59 30 (-1)) 59 10 0) 59 23 0) 59 24 0) 59 22 0) 59 9 = nI (zB z).length := by rw [up2_off (Or.inr (by decide)), up2_off (Or.inr (by decide)), up2_off (Or.inr (by decide)), up2_off (Or.inr (by decide)), up2_off (Or.inr (by decide)), up2_off (Or.inr (by decide)), up2_off (Or.inr (by decide))]; exact hR.2.2.2.2.2.1
  generalize up2 (up2 (up2 (up2 (up2 (up2 (up2 ν 59 0 0) 59 29 0) 59 30 (-1)) 59 10 0) 59 23 0) 59 24 0) 59 22 0 = m at hF e10 e23 e24 e22 e29 e30 e9
  have hI : MoI (tT z) (zB z).length m := ⟨hA.2.2.2.1, tT_lt hA, e9, fun i hi => by rw [hF.1 64 (by decide)]; exact hR.2.2.2.2.2.2.1 i hi, fun i hi => by rw [hF.1 65 (by decide)]; exact hR.2.2.2.2.2.2.2.1 i hi⟩
  refine ev_mono (mo_reads hI (Nat.zero_le _) e10) (fun _ ν2 g => ⟨frz_M hF g.2, ⟨moI_fr g.2 hI, Nat.zero_le _, g.1, (g.2.2 23 (by decide)).trans e23, Nat.zero_le _, fun i hi => absurd hi (by show ¬ i < 0; omega)⟩, (g.2.2 24 (by decide)).trans e24, (g.2.2 22 (by decide)).trans e22, (g.2.2 29 (by decide)).trans e29, (g.2.2 30 (by decide)).trans e30, ?_⟩)
  rw [g.2.2 6 (by decide), hF.2.2.2.2.2 6 (by decide)]; exact hR.1.2.2.1
theorem McI_empty (bl bc : Nat) (ν : Mu) : McI bl bc ν [] 0 := ⟨fun _ => 0, fun l hl => absurd hl (by show ¬ l < 0; omega)⟩
/-! what is taken -/
theorem m_takeLaw {ν : Mu} {L : LawL} {sz : Nat} (h22 : ν 59 22 = 0) (h23 : ν 59 23 = nI sz) (hs : sz ≤ 400) (hL : L.length ≤ 16) (hI : McI 32 800 ν L sz) : Ev (Mo_takesLaw 59 (nI L.length) ν) (fun _ ν' => LawM ν' L ∧ ∀ k, k ∉ [66, 67, 68, 69, 70, 71, 72] → ν' k = ν k) := by
  have z16 : ∀ l, (16 : Int32) * 0 + nI l = nI l := fun l => by
    rw [show (16 : Int32) * 0 = nI 0 by decide, nI_add, Nat.zero_add]
  have z400 : ∀ l, (400 : Int32) * 0 + nI l = nI l := fun l => by
    rw [show (400 : Int32) * 0 = nI 0 by decide, nI_add, Nat.zero_add]
  suffices K : ∀ m : Mu, (∀ r j, r ∈ [67, 68, 69, 70] → j < 0 → m r j = ν r (32 + j)) → (∀ r j, r ∈ [67, 68, 69, 70] → 32 ≤ j → m r j = ν r j) → (∀ k, k ∉ [67, 68, 69, 70] → m k = ν k) → Ev (Mo_takesLaw_2 59 (nI L.length) FU (nI 0) m) (fun _ ν' => LawM ν' L ∧ ∀ k, k ∉ [66, 67, 68, 69, 70, 71, 72] → ν' k = ν k) from K ν (fun _ _ _ h => absurd h (by omega)) (fun _ _ _ _ => rfl) (fun _ _ => rfl)
  unfold Mo_takesLaw_2
  refine lp_fu (F := fun kb => Mo_takesLaw_2b 59 kb (nI L.length)) (z := fun _ _ => none) L.length (fun l A => ∀ m : Mu, (∀ r j, r ∈ [67, 68, 69, 70] → j < l → m r j = ν r (32 + j)) → (∀ r j, r ∈ [67, 68, 69, 70] → 32 ≤ j → m r j = ν r j) → (∀ k, k ∉ [67, 68, 69, 70] → m k = ν k) → Ev (A (nI l) m) (fun _ ν' => LawM ν' L ∧ ∀ k, k ∉ [66, 67, 68, 69, 70, 71, 72] → ν' k = ν k)) (by omega) ?_ ?_ 0 (by omega)
  · intro A m a1 a2 a3
    show Ev (Mo_takesLaw_2b 59 A _ _ m) _
    unfold Mo_takesLaw_2b
    rw [if_pos (nI_le (Nat.le_refl _) (by omega))]
    suffices K2 : ∀ m2 : Mu, (∀ r j, r ∈ [71, 72] → j < 0 → m2 r j = ν r (800 + j)) → (∀ r j, r ∈ [71, 72] → 800 ≤ j → m2 r j = ν r j) → (∀ k, k ∉ [71, 72] → m2 k = m k) → Ev (Mo_takesLaw_107 59 (nI L.length) FU (nI 0) m2) (fun _ ν' => LawM ν' L ∧ ∀ k, k ∉ [66, 67, 68, 69, 70, 71, 72] → ν' k = ν k) from K2 m (fun _ _ _ h => absurd h (by omega)) (fun r j hr _ => by rw [a3 r (fun z => by
      simp only [List.mem_cons, List.not_mem_nil, or_false] at z hr; omega)]) (fun _ _ => rfl)
    unfold Mo_takesLaw_107
    refine lp_fu (F := fun kb => Mo_takesLaw_107b 59 kb (nI L.length)) (z := fun _ _ => none) sz (fun i A => ∀ m2 : Mu, (∀ r j, r ∈ [71, 72] → j < i → m2 r j = ν r (800 + j)) → (∀ r j, r ∈ [71, 72] → 800 ≤ j → m2 r j = ν r j) → (∀ k, k ∉ [71, 72] → m2 k = m k) → Ev (A (nI i) m2) (fun _ ν' => LawM ν' L ∧ ∀ k, k ∉ [66, 67, 68, 69, 70, 71, 72] → ν' k = ν k)) (by omega) ?_ ?_ 0 (by omega)
    · intro A2 m2 b1 b2 b3
      show Ev (Mo_takesLaw_107b 59 A2 _ _ m2) _
      have f : ∀ j, m2 59 j = ν 59 j := fun j => by rw [b3 59 (by decide), a3 59 (by decide)]
      unfold Mo_takesLaw_107b
      simp only [Nat.reduceAdd]
      rw [gF_eq, f, h23, if_pos (nI_le (Nat.le_refl _) (by omega)), gF_eq, f, h22, stA_li (i := 0) (by decide) (by decide)]
      refine ev_some ⟨lawM_I (mcI_move (bl := 32) (bc := 800) (μ := ν) (fun r j hr hj => ?_) (fun r i hr hi => ?_) (Nat.le_refl _) hI) hs (up2_same _ _ _ _), fun k hk => ?_⟩
      · rw [Nat.zero_add, up2_ne (fun z => by rw [z] at hr; exact absurd hr (by decide)), b3 r (fun z => by
          simp only [List.mem_cons, List.not_mem_nil, or_false] at z hr; omega)]
        exact a1 r j hr hj
      · rw [Nat.zero_add, up2_ne (fun z => by rw [z] at hr; exact absurd hr (by decide))]
        exact b1 r i hr hi
      · simp only [List.mem_cons, List.not_mem_nil, or_false, not_or] at hk
        rw [up2_ne hk.1, b3 k (fun z => by
          simp only [List.mem_cons, List.not_mem_nil, or_false] at z; omega), a3 k (fun z => by
          simp only [List.mem_cons, List.not_mem_nil, or_false] at z; omega)]
    · intro i A2 hi ih m2 b1 b2 b3
      show Ev (Mo_takesLaw_107b 59 A2 _ _ m2) _
      have f : ∀ j, m2 59 j = ν 59 j := fun j => by rw [b3 59 (by decide), a3 59 (by decide)]
      unfold Mo_takesLaw_107b
      simp only [Nat.reduceAdd]
      rw [gF_eq, f, h23, if_neg (nI_ge hi (by omega)), gF_eq, f, h22, show (800 : Int32) + nI i = nI (800 + i) from nI_add 800 i, ldA_nI (by omega) (by omega), z400, stA_nI (by omega) (by omega), gF_eq, up2_ne (by decide), f, h22, ldA_nI (by omega) (by omega), z400, stA_nI (by omega) (by omega), nI_1]
      refine ih _ (fun r j hr hj => ?_) (fun r j hr hj => ?_) (fun k hk => ?_)
      · simp only [List.mem_cons, List.not_mem_nil, or_false] at hr
        by_cases e : j = i
        · subst e
          rcases hr with rfl | rfl
          · rw [up2_ne (by decide), up2_same]; exact b2 71 _ (by decide) (by omega)
          · rw [up2_same, up2_ne (by decide)]; exact b2 72 _ (by decide) (by omega)
        · rw [up2_off (Or.inr e), up2_off (Or.inr e)]
          exact b1 r j (by simp only [List.mem_cons, List.not_mem_nil, or_false]; exact hr) (by omega)
      · rw [up2_off (Or.inr (by omega)), up2_off (Or.inr (by omega))]; exact b2 r j hr hj
      · rw [up2_ne (fun z => hk (by rw [z]; decide)), up2_ne (fun z => hk (by rw [z]; decide))]; exact b3 k hk
  · intro l A hl ih m a1 a2 a3
    show Ev (Mo_takesLaw_2b 59 A _ _ m) _
    have f : ∀ j, m 59 j = ν 59 j := fun j => by rw [a3 59 (by decide)]
    have g1 : ∀ v, (up2 m 67 l v) 59 22 = 0 := fun v => by rw [up2_ne (by decide), f, h22]
    have g2 : ∀ v w, (up2 (up2 m 67 l v) 68 l w) 59 22 = 0 := fun v w => by rw [up2_ne (by decide), g1]
    have g3 : ∀ v w x, (up2 (up2 (up2 m 67 l v) 68 l w) 69 l x) 59 22 = 0 := fun v w x => by rw [up2_ne (by decide), g2]
    unfold Mo_takesLaw_2b
    simp only [Nat.reduceAdd]
    rw [if_neg (nI_ge hl (by omega)), gF_eq, f, h22, show (32 : Int32) + nI l = nI (32 + l) from nI_add 32 l, ldA_nI (by omega) (by omega), z16, stA_nI (by omega) (by omega), gF_eq, g1, ldA_nI (by omega) (by omega), z16, stA_nI (by omega) (by omega), gF_eq, g2, ldA_nI (by omega) (by omega), z16, stA_nI (by omega) (by omega), gF_eq, g3, ldA_nI (by omega) (by omega), z16, stA_nI (by omega) (by omega), nI_1]
    refine ih _ (fun r j hr hj => ?_) (fun r j hr hj => ?_) (fun k hk => ?_)
    · simp only [List.mem_cons, List.not_mem_nil, or_false] at hr
      by_cases e : j = l
      · subst e
        rcases hr with rfl | rfl | rfl | rfl
        · rw [up2_ne (by decide), up2_ne (by decide), up2_ne (by decide), up2_same]; exact a2 67 _ (by decide) (by omega)
        · rw [up2_ne (by decide), up2_ne (by decide), up2_same, up2_ne (by decide)]; exact a2 68 _ (by decide) (by omega)
        · rw [up2_ne (by decide), up2_same, up2_ne (by decide), up2_ne (by decide)]; exact a2 69 _ (by decide) (by omega)
        · rw [up2_same, up2_ne (by decide), up2_ne (by decide), up2_ne (by decide)]; exact a2 70 _ (by decide) (by omega)
      · rw [up2_off (Or.inr e), up2_off (Or.inr e), up2_off (Or.inr e), up2_off (Or.inr e)]
        exact a1 r j (by simp only [List.mem_cons, List.not_mem_nil, or_false]; exact hr) (by omega)
    · rw [up2_off (Or.inr (by omega)), up2_off (Or.inr (by omega)), up2_off (Or.inr (by omega)), up2_off (Or.inr (by omega))]; exact a2 r j hr hj
    · rw [up2_ne (fun z => hk (by rw [z]; decide)), up2_ne (fun z => hk (by rw [z]; decide)), up2_ne (fun z => hk (by rw [z]; decide)), up2_ne (fun z => hk (by rw [z]; decide))]; exact a3 k hk
theorem m_takeWea {ν : Mu} {W : List WLn} (hL : W.length ≤ 16) (hW : weM W ν) : Ev (Mo_takesOther_55 59 (nI W.length) FU 0 ν) (fun _ ν' => WeaM ν' W ∧ ν' 59 3 = 0 ∧ (∀ j, j ≠ 3 → j ≠ 34 → ν' 59 j = ν 59 j) ∧ ∀ k, k ≠ 59 → k ≠ 76 → ν' k = ν k) := by
  have i4 : (4 : Int32) * nI W.length = nI (4 * W.length) := by rw [show (4 : Int32) = nI 4 from rfl, pk_mul]
  suffices K : ∀ m : Mu, (∀ j, j < 0 → m 76 j = ν 76 (64 + j)) → (∀ j, 64 ≤ j → m 76 j = ν 76 j) → (∀ k, k ≠ 76 → m k = ν k) → Ev (Mo_takesOther_55 59 (nI W.length) FU (nI 0) m) (fun _ ν' => WeaM ν' W ∧ ν' 59 3 = 0 ∧ (∀ j, j ≠ 3 → j ≠ 34 → ν' 59 j = ν 59 j) ∧ ∀ k, k ≠ 59 → k ≠ 76 → ν' k = ν k) from K ν (fun _ h => absurd h (by omega)) (fun _ _ => rfl) (fun _ _ => rfl)
  unfold Mo_takesOther_55
  refine lp_fu (F := fun kb => Mo_takesOther_55b 59 kb (nI W.length)) (z := fun _ _ => none) (4 * W.length) (fun l A => ∀ m : Mu, (∀ j, j < l → m 76 j = ν 76 (64 + j)) → (∀ j, 64 ≤ j → m 76 j = ν 76 j) → (∀ k, k ≠ 76 → m k = ν k) → Ev (A (nI l) m) (fun _ ν' => WeaM ν' W ∧ ν' 59 3 = 0 ∧ (∀ j, j ≠ 3 → j ≠ 34 → ν' 59 j = ν 59 j) ∧ ∀ k, k ≠ 59 → k ≠ 76 → ν' k = ν k)) (by omega) ?_ ?_ 0 (by omega)
  · intro A m a1 a2 a3
    show Ev (Mo_takesOther_55b 59 A _ _ m) _
    unfold Mo_takesOther_55b Mo_takesOther_88
    rw [i4, if_pos (nI_le (Nat.le_refl _) (by omega)), pF_eq, pF_eq]
    refine ev_some ⟨⟨?_, fun l hl => ?_⟩, up2_same _ _ _ _, fun j h3 h34 => ?_, fun k h59 h76 => ?_⟩
    · rw [up2_off (Or.inr (by decide)), up2_same]
    · obtain ⟨x1, x2, x3, x4⟩ := hW l hl
      rw [up2_ne (by decide), up2_ne (by decide), a1 _ (by omega), a1 _ (by omega), a1 _ (by omega), a1 _ (by omega)]
      exact ⟨x1, x2, x3, x4⟩
    · rw [up2_off (Or.inr h3), up2_off (Or.inr h34), a3 59 (by decide)]
    · rw [up2_ne h59, up2_ne h59, a3 k h76]
  · intro l A hl ih m a1 a2 a3
    show Ev (Mo_takesOther_55b 59 A _ _ m) _
    unfold Mo_takesOther_55b
    simp only [Nat.reduceAdd]
    rw [i4, if_neg (nI_ge hl (by omega)), show (64 : Int32) + nI l = nI (64 + l) from nI_add 64 l, ldA_nI (by omega) (by omega), stA_nI (by omega) (by omega), nI_1]
    refine ih _ (fun j hj => ?_) (fun j hj => by rw [up2_off (Or.inr (by omega))]; exact a2 j hj) (fun k hk => by rw [up2_ne hk]; exact a3 k hk)
    by_cases e : j = l
    · rw [e, up2_same]; exact a2 _ (by omega)
    · rw [up2_off (Or.inr e)]; exact a1 j (by omega)
theorem m_takeHe {ν : Mu} {R : List (Nat × Nat)} (hR : heM R ν) : Ev (Mo_takesOther_7 59 (nI R.length) FU 0 ν) (fun _ ν' => (∀ k, k < 16 → ν' 77 k = hupS R k) ∧ ν' 59 36 = nI R.length ∧ (∀ j, j ≠ 36 → ν' 59 j = ν 59 j) ∧ ∀ k, k ≠ 59 → k ≠ 77 → ν' k = ν k) := by
  suffices K : ∀ m : Mu, (∀ j, j < 0 → m 77 j = ν 77 (16 + j)) → (∀ j, 16 ≤ j → m 77 j = ν 77 j) → (∀ k, k ≠ 77 → m k = ν k) → Ev (Mo_takesOther_7 59 (nI R.length) FU (nI 0) m) (fun _ ν' => (∀ k, k < 16 → ν' 77 k = hupS R k) ∧ ν' 59 36 = nI R.length ∧ (∀ j, j ≠ 36 → ν' 59 j = ν 59 j) ∧ ∀ k, k ≠ 59 → k ≠ 77 → ν' k = ν k) from K ν (fun _ h => absurd h (by omega)) (fun _ _ => rfl) (fun _ _ => rfl)
  unfold Mo_takesOther_7
  refine lp_fu (F := fun kb => Mo_takesOther_7b 59 kb (nI R.length)) (z := fun _ _ => none) 16 (fun l A => ∀ m : Mu, (∀ j, j < l → m 77 j = ν 77 (16 + j)) → (∀ j, 16 ≤ j → m 77 j = ν 77 j) → (∀ k, k ≠ 77 → m k = ν k) → Ev (A (nI l) m) (fun _ ν' => (∀ k, k < 16 → ν' 77 k = hupS R k) ∧ ν' 59 36 = nI R.length ∧ (∀ j, j ≠ 36 → ν' 59 j = ν 59 j) ∧ ∀ k, k ≠ 59 → k ≠ 77 → ν' k = ν k)) (by omega) ?_ ?_ 0 (by omega)
  · intro A m a1 a2 a3
    show Ev (Mo_takesOther_7b 59 A _ _ m) _
    unfold Mo_takesOther_7b
    rw [if_pos (show (16 : Int32) ≤ nI 16 from nI_le (a := 16) (Nat.le_refl _) (by omega)), pF_eq]
    exact ev_some ⟨fun k hk => by rw [up2_ne (by decide), a1 k hk]; exact hR k hk, up2_same _ _ _ _, fun j hj => by rw [up2_off (Or.inr hj), a3 59 (by decide)], fun k a b => by rw [up2_ne a, a3 k b]⟩
  · intro l A hl ih m a1 a2 a3
    show Ev (Mo_takesOther_7b 59 A _ _ m) _
    unfold Mo_takesOther_7b
    simp only [Nat.reduceAdd]
    rw [if_neg (show ¬ (16 : Int32) ≤ nI l from nI_ge (b := 16) hl (by omega)), show (16 : Int32) + nI l = nI (16 + l) from nI_add 16 l, ldA_nI (by omega) (by omega), stA_nI (by omega) (by omega), nI_1]
    refine ih _ (fun j hj => ?_) (fun j hj => by rw [up2_off (Or.inr (by omega))]; exact a2 j hj) (fun k hk => by rw [up2_ne hk]; exact a3 k hk)
    by_cases e : j = l
    · rw [e, up2_same]; exact a2 _ (by omega)
    · rw [up2_off (Or.inr e)]; exact a1 j (by omega)
theorem m_zeroHe {ν : Mu} {Q : Int32 → Mu → Prop} (k : ∀ m : Mu, heM [] m → (∀ j, j < 16 → m 77 j = ν 77 j) → (∀ k, k ≠ 77 → m k = ν k) → Ev (Mo_readHeirs_26 59 FU 0 m) Q) : Ev (Mo_readHeirs 59 ν) Q := by
  suffices K : ∀ m : Mu, (∀ j, j < 0 → m 77 (16 + j) = 0) → (∀ j, j < 16 → m 77 j = ν 77 j) → (∀ k, k ≠ 77 → m k = ν k) → Ev (Mo_readHeirs_2 59 FU (nI 0) m) Q from K ν (fun _ h => absurd h (by omega)) (fun _ _ => rfl) (fun _ _ => rfl)
  unfold Mo_readHeirs_2
  refine lp_fu (F := fun kb => Mo_readHeirs_2b 59 kb) (z := fun _ _ => none) 16 (fun l A => ∀ m : Mu, (∀ j, j < l → m 77 (16 + j) = 0) → (∀ j, j < 16 → m 77 j = ν 77 j) → (∀ k, k ≠ 77 → m k = ν k) → Ev (A (nI l) m) Q) (by omega) ?_ ?_ 0 (by omega)
  · intro A m a1 a2 a3
    show Ev (Mo_readHeirs_2b 59 A _ m) _
    unfold Mo_readHeirs_2b
    rw [if_pos (show (16 : Int32) ≤ nI 16 from nI_le (a := 16) (Nat.le_refl _) (by omega))]
    exact k m (fun a ha => a1 a ha) a2 a3
  · intro l A hl ih m a1 a2 a3
    show Ev (Mo_readHeirs_2b 59 A _ m) _
    unfold Mo_readHeirs_2b
    simp only [Nat.reduceAdd]
    rw [if_neg (show ¬ (16 : Int32) ≤ nI l from nI_ge (b := 16) hl (by omega)), show (16 : Int32) + nI l = nI (16 + l) from nI_add 16 l, stA_nI (by omega) (by omega), nI_1]
    refine ih _ (fun j hj => ?_) (fun j hj => by rw [up2_off (Or.inr (by omega))]; exact a2 j hj) (fun k hk => by rw [up2_ne hk]; exact a3 k hk)
    by_cases e : j = l
    · rw [e, up2_same]
    · rw [up2_off (Or.inr (by omega))]; exact a1 j (by omega)
