/-! L3: KEEPING AHEAD -/
theorem lyRep_N {y : Ly} (hy : LyRep y) : 99 ≤ mmN y := lyMo_N hy.2.1
theorem lyRep_kept {y y' : Ly} {i q : Nat} (hy : LyRep y) (hp : y.2 <+: y'.2) (h1 : ∀ k, k < mmN y → k ≠ 58 → y'.1 k = y.1 k) (h58 : ∀ j, j ≠ i → y'.1 58 j = y.1 58 j) (hi : y'.1 58 i = some q) (hq : mmN y ≤ q) (hq3 : q + 3 ≤ mmN y') (hF : LyFg y' q) : LyRep y' := by
  have hN := lyRep_N hy
  obtain ⟨g1, g2, g3, g4, g5, g6⟩ := hy
  have hg := pre_get hp
  have hpN := pre_N hp
  refine ⟨lySf_ext (by omega) hg (fun k j a _ => by rw [h1 k (by omega) (by omega)]) g1, lyMo_ext (by omega) hg (h1 59 (by omega) (by omega)) g2, fun j r hj hr => ?_, fun j l r s hj hl hjl hr hs => ?_, fun r hr => ?_, fun j r s hj hr hs => ?_⟩
  · by_cases e : j = i
    · rw [e, hi] at hr
      injection hr with hr
      subst hr
      exact ⟨by omega, hq3, hF⟩
    · rw [h58 j e] at hr
      obtain ⟨a, b, c⟩ := g3 j r hj hr
      exact ⟨a, by omega, lyFg_ext b hg (h1 r (by omega) (by omega)) c⟩
  · have old : ∀ j r, j < 6 → j ≠ i → y'.1 58 j = some r → r + 3 ≤ q := fun j r hj e hr => by
      rw [h58 j e] at hr
      have := (g3 j r hj hr).2.1
      omega
    by_cases e : j = i
    · rw [e, hi] at hr
      injection hr with hr
      subst hr
      exact Or.inr (old l s hl (fun z => hjl (e.trans z.symm)) hs)
    · by_cases f : l = i
      · rw [f, hi] at hs
        injection hs with hs
        subst hs
        exact Or.inl (old j r hj e hr)
      · rw [h58 j e] at hr
        rw [h58 l f] at hs
        exact g4 j l r s hj hl hjl hr hs
  · rw [h1 0 (by omega) (by omega)] at hr
    obtain ⟨a, b, c⟩ := g5 r hr
    exact ⟨a, by omega, lyPt_ext b hg (fun k u v => h1 k (by omega) (by omega)) c⟩
  · rw [h1 0 (by omega) (by omega)] at hs
    by_cases e : j = i
    · rw [e, hi] at hr
      injection hr with hr
      subst hr
      have := (g5 s hs).2.1
      exact Or.inr (by omega)
    · rw [h58 j e] at hr
      exact g6 j r s hj hr hs
theorem lyRep_pic {y y' : Ly} {q : Nat} (hy : LyRep y) (hp : y.2 <+: y'.2) (h1 : ∀ k, k < mmN y → k ≠ 0 → y'.1 k = y.1 k) (h0 : ∀ j, j ≠ 1 → y'.1 0 j = y.1 0 j) (hi : y'.1 0 1 = some q) (hq : mmN y ≤ q) (hq3 : q + 38 ≤ mmN y') (hF : LyPt y' q) : LyRep y' := by
  have hN := lyRep_N hy
  obtain ⟨g1, g2, g3, g4, g5, g6⟩ := hy
  have hg := pre_get hp
  have hpN := pre_N hp
  have h58 : y'.1 58 = y.1 58 := h1 58 (by omega) (by omega)
  refine ⟨lySf_ext (by omega) hg (fun k j a b => ?_) g1, lyMo_ext (by omega) hg (h1 59 (by omega) (by omega)) g2, fun j r hj hr => ?_, fun j l r s hj hl hjl hr hs => ?_, fun r hr => ?_, fun j r s hj hr hs => ?_⟩
  · by_cases e : k = 0
    · subst e; exact h0 j (by omega)
    · rw [h1 k (by omega) e]
  · rw [h58] at hr
    obtain ⟨a, b, c⟩ := g3 j r hj hr
    exact ⟨a, by omega, lyFg_ext b hg (h1 r (by omega) (by omega)) c⟩
  · rw [h58] at hr hs
    exact g4 j l r s hj hl hjl hr hs
  · rw [hi] at hr
    injection hr with hr
    subst hr
    exact ⟨by omega, hq3, hF⟩
  · rw [h58] at hr
    rw [hi] at hs
    injection hs with hs
    subst hs
    have := (g3 j r hj hr).2.1
    exact Or.inl (by omega)
theorem sf_keptAt {μ : Mu} {y : Ly} {i : Nat} (hi : i < 6) (hy : LyRep y) : EvA (Sf_keptAt 0 (nI i) μ y) (fun q μ' y' => y.2 <+: y'.2 ∧ mmN y' ≤ mmN y + 3 ∧ mmS y' ≤ mmS y + 138 ∧ LyRep y' ∧ y'.1 58 i = some q ∧ (∀ j, j ≠ i → y'.1 58 j = y.1 58 j) ∧ y'.1 0 1 = y.1 0 1 ∧ (∀ k, k < mmN y → μ' k = μ k) ∧ ((y.1 58 i = some q ∧ μ' = μ ∧ y' = y) ∨ (y.1 58 i = none ∧ q = mmN y ∧ μ' q 0 = 0))) := by
  have hN := lyRep_N hy
  have hS := hy.1
  unfold Sf_keptAt Sf_keptAt_44
  simp only [Nat.reduceAdd]
  rw [if_neg (nI_pos (by omega)), ckP_pos hS, ckP_pos hS, if_pos (show nI i < (6 : Int32) from nI_lt (b := 6) hi (by omega)), ckP_pos hS, ckP_pos hS, ldR_nI hi (by omega)]
  cases hq : y.1 58 i with
  | some q =>
    simp only
    rw [ckP_pos hS, ckP_pos hS, ldR_nI hi (by omega), hq]
    exact eva_some ⟨List.prefix_refl _, by omega, by omega, hy, hq, fun _ _ => rfl, rfl, fun _ _ => rfl, Or.inl ⟨rfl, rfl, rfl⟩⟩
  | none =>
    simp only
    rw [ckP_pos hS]
    refine eva_nw rfl (fun μ1 y1 a1 a2 a3 a4 a5 => ?_)
    have n1 : mmN y1 = mmN y + 1 := app_N a1
    refine eva_clm (eva_mono (fg_init n1 (app_at a1 rfl) (Or.inl rfl)) (fun _ μ2 y2 b => ?_))
    obtain ⟨b1, b2, b3, b4, b5, b6, b7, -, -, -⟩ := b
    have hp2 : y.2 <+: y2.2 := (app_pre a1).trans b1
    have hS2 : LySf y2 0 := lySf_ext (by omega) (pre_get hp2) (fun k j c _ => by rw [b5 k (by omega), a2 k (by omega)]) hS
    refine ⟨b1, eva_ckP hS2 (eva_ckP ?_ (eva_stR hi (by omega) (fun y3 c1 c2 c3 c4 => ?_)))⟩
    · exact (pre_get b1 (mmN y) (by omega)).trans (app_at a1 rfl)
    · have hp3 : y.2 <+: y3.2 := by rw [c1]; exact hp2
      have n3 : mmN y3 = mmN y + 3 := (eq_N c1).trans b2
      have e3 : ∀ k, k < mmN y → k ≠ 58 → y3.1 k = y.1 k := fun k hk h58 => by rw [c2 k h58, b5 k hk, a2 k (by omega)]
      have e58 : ∀ j, j ≠ i → y3.1 58 j = y.1 58 j := fun j hj => by rw [c3 j hj, b5 58 (by omega), a2 58 (by omega)]
      have hF : LyFg y3 (mmN y) := lyFg_ext (by omega) (fun k hk => by rw [c1]) (c2 (mmN y) (by omega)) b4
      have hR3 : LyRep y3 := lyRep_kept hy hp3 e3 e58 c4 (Nat.le_refl _) (by omega) hF
      rw [ckP_pos hR3.1, ckP_pos hR3.1, ldR_nI hi (by omega), c4]
      refine eva_some ⟨hp3, by omega, ?_, hR3, c4, e58, by rw [e3 0 (by omega) (by omega)], fun k hk => by rw [b6 k hk, a4 k (by omega)], Or.inr ⟨trivial, rfl, b7⟩⟩
      rw [eq_S c1, b3, app_S a1]; omega
def keepU (U : List (Nat → Int32)) (N : Nat → Int32) : List (Nat → Int32) := (N :: U).take 6
theorem keepU_len (U : List (Nat → Int32)) (N : Nat → Int32) : (keepU U N).length = min 6 (U.length + 1) := by
  unfold keepU
  rw [List.length_take]; rfl
theorem keepU_0 (U : List (Nat → Int32)) (N : Nat → Int32) : (keepU U N).getD 0 N0 = N := rfl
theorem keepU_s {U : List (Nat → Int32)} {N : Nat → Int32} {j : Nat} (h : j + 1 < (keepU U N).length) : (keepU U N).getD (j + 1) N0 = U.getD j N0 := by
  rw [keepU_len] at h
  unfold keepU
  rw [List.getD_eq_getElem?_getD, List.getElem?_take_of_lt (by omega), List.getElem?_cons_succ, ← List.getD_eq_getElem?_getD]
theorem jmin_6 {n : Nat} (h : n ≤ 6) : jmin (nI n + 1) 6 = nI (min 6 (n + 1)) := by
  rw [nI_1, show (6 : Int32) = nI 6 from rfl, jmin_nI (by omega) (by omega)]
  congr 1; omega
theorem jrem_6 {n : Nat} (h : n < 100) : jrem (nI n) 6 = nI (n % 6) := by
  rw [show (6 : Int32) = nI 6 from rfl, jrem_nI (by omega) (by omega) (by omega)]
theorem repC_figY {μ μ' : Mu} {y y' : Ly} {z : Zt} {S : St} {U : List (Nat → Int32)} (hR : RepC μ y z) (h : ∀ k, k ∉ [0, 1, 2, 3, 4, 5, 6, 13, 39, 40, 41, 43, 44, 45, 46, 47, 50, 51, 52, 53, 54, 55, 56, 57, 58] → k < 59 → μ' k = μ k) (hF : FigC (poP (zP z)) 2 0 μ' S.1) (hb : ∀ k, k < 600 → μ' 5 k = S.2 k) (hU : UndoC μ' y' (poP (zP z)) U) (hI : PicC μ' y' (zI z)) : RepC μ' y' (mvS z S U) := by
  obtain ⟨⟨g1, g2, g3, g4, g5, g6, g7, g8, g9⟩, h2, h3, h4, h5, h6, h7, h8⟩ := hR
  have e : ∀ k, 7 ≤ k → k ≤ 38 → k ≠ 13 → μ' k = μ k := fun k a b c => h k (fun z => by
    simp only [List.mem_cons, List.not_mem_nil, or_false] at z; omega) (by omega)
  exact ⟨⟨hF, hb, lawC_off (fun k a b => e k (by omega) (by omega) (by omega)) g3, heirC_of (e 15 (by omega) (by omega) (by omega)) (e 16 (by omega) (by omega) (by omega)) g4, weaC_of (e 14 (by omega) (by omega) (by omega)) (e 17 (by omega) (by omega) (by omega)) g5, by rw [e 17 (by omega) (by omega) (by omega)]; exact g6, by rw [e 17 (by omega) (by omega) (by omega)]; exact g7, by rw [e 17 (by omega) (by omega) (by omega)]; exact g8, toldC_off (fun k a b => e k (by omega) (by omega) (by omega)) g9⟩, by rw [h 42 (by decide) (by omega)]; exact h2, by rw [h 48 (by decide) (by omega)]; exact h3, fun i hi => by rw [h 49 (by decide) (by omega)]; exact h4 i hi, by rw [h 48 (by decide) (by omega)]; exact h5, by rw [h 48 (by decide) (by omega)]; exact h6, hU, hI⟩
theorem sf_keep {μ : Mu} {y : Ly} {z : Zt} (hy : LyRep y) (hA : AbsOk z) (hR : RepC μ y z) : EvA (Sf_keep 0 μ y) (fun _ μ' y' => y.2 <+: y'.2 ∧ mmN y' ≤ mmN y + 3 ∧ mmS y' ≤ mmS y + 138 ∧ LyRep y' ∧ RepC μ' y' (mvS z (poN (zP z)) (keepU (zU z) (poN (zP z)).1)) ∧ InC μ μ') := by
  have hN := lyRep_N hy
  obtain ⟨a, ha, h7, h8, hs, hu⟩ := hR.2.2.2.2.2.2.1
  have hl := hA.2.1
  unfold Sf_keep
  simp only [Nat.reduceAdd]
  refine eva_ckP hy.1 (eva_gF h7 (eva_ckP hy.1 (eva_clm (eva_mono (sf_keptAt ha hy) (fun q μ1 y1 h => ?_)))))
  obtain ⟨p1, n1, s1, r1, k1, k2, k3, m1, w1⟩ := h
  have hq := r1.2.2.1 a q ha k1
  have hN1 := pre_N p1
  have q0 : μ1 q 0 = 0 := by
    rcases w1 with ⟨x, e, _⟩ | ⟨_, _, e⟩
    · rw [e]; exact hs a q ha x
    · exact e
  refine ⟨p1, eva_ckP r1.1 (eva_ckP r1.1 (eva_ckP hq.2.2 (eva_ckP r1.1 ?_)))⟩
  have hF1 : FigC (poP (zP z)) 2 0 μ1 (poN (zP z)).1 := figC_congr (m1 2 (by omega)) (m1 3 (by omega)) (m1 4 (by omega)) hR.1.1
  refine eva_cl (ev_mono (fg_copy hF1 q0 (Or.inl (by omega))) (fun _ μ2 g => ?_))
  have o2 : ∀ k, k ≠ q → k ≠ q + 1 → k ≠ q + 2 → μ2 k = μ1 k := fun k a b c => g.2 k (fun z => by
    simp only [List.mem_cons, List.not_mem_nil, or_false] at z; omega)
  have h72 : μ2 0 7 = nI a := by rw [o2 0 (by omega) (by omega) (by omega), m1 0 (by omega)]; exact h7
  refine eva_ckP r1.1 (eva_gF h72 (eva_ckP r1.1 (eva_pF (eva_ckP r1.1 (eva_gF (v := nI (zU z).length) ?_ (eva_ckP r1.1 (eva_pF (eva_some ⟨p1, n1, s1, r1, ?_, fun k b1 b2 => ?_⟩))))))))
  · rw [up2_off (Or.inr (by decide)), o2 0 (by omega) (by omega) (by omega), m1 0 (by omega)]; exact h8
  · rw [jmin_6 hl, nI_1, jrem_6 (by omega), ← keepU_len]
    generalize hμ3 : up2 (up2 μ2 0 7 (nI ((a + 1) % 6))) 0 8 (nI (keepU (zU z) (poN (zP z)).1).length) = μ3
    have e3 : ∀ k, k ≠ 0 → μ3 k = μ2 k := fun k hk => by rw [← hμ3, up2_ne hk, up2_ne hk]
    have e37 : μ3 0 7 = nI ((a + 1) % 6) := by rw [← hμ3, up2_off (Or.inr (by decide)), up2_same]
    have e38 : μ3 0 8 = nI (keepU (zU z) (poN (zP z)).1).length := by rw [← hμ3, up2_same]
    -- old cells
    have old : ∀ k, k ≠ 0 → k < mmN y → k ≠ q → k ≠ q + 1 → k ≠ q + 2 → μ3 k = μ k := fun k h0 hk b c d => by rw [e3 k h0, o2 k b c d, m1 k hk]
    have lo : ∀ k, k ≠ 0 → k < 99 → μ3 k = μ k := fun k h0 hk => old k h0 (by omega) (by omega) (by omega) (by omega)
    have far : ∀ i r, i < 6 → i ≠ a → y.1 58 i = some r → r + 3 ≤ mmN y ∧ 99 ≤ r ∧ (r + 3 ≤ q ∨ q + 3 ≤ r) := fun i r hi hia hr => by
      have h1 := hy.2.2.1 i r hi hr
      rw [← k2 i hia] at hr
      exact ⟨h1.2.1, h1.1, r1.2.2.2.1 i a r q hi ha hia hr k1⟩
    refine repC_figY hR (fun k hk h59 => lo k (fun z => hk (by rw [z]; decide)) (by omega)) (figC_congr (lo 2 (by decide) (by omega)) (lo 3 (by decide) (by omega)) (lo 4 (by decide) (by omega)) hR.1.1) (fun k hk => by rw [lo 5 (by decide) (by omega)]; exact hR.1.2.1 k hk) ⟨(a + 1) % 6, Nat.mod_lt _ (by decide), e37, e38, fun i r hi hr => ?_, fun j hj => ?_⟩ ?_
    · by_cases e : i = a
      · rw [e, k1] at hr
        injection hr with hr
        rw [← hr, e3 q (by omega)]; exact g.1.2.1
      · rw [k2 i e] at hr
        obtain ⟨f1, f2, f3⟩ := far i r hi e hr
        rw [old r (by omega) (by omega) (by omega) (by omega) (by omega)]; exact hs i r hi hr
    · rcases j with _ | j
      · refine ⟨q, ?_, figC_congr (e3 q (by omega)) (e3 (q + 1) (by omega)) (e3 (q + 2) (by omega)) g.1⟩
        rw [show ((a + 1) % 6 + 5 - 0) % 6 = a by omega]; exact k1
      · have hj2 := hj
        rw [keepU_len] at hj2
        obtain ⟨r, hr, hf⟩ := hu j (by omega)
        have hia : (a + 5 - j) % 6 ≠ a := by omega
        obtain ⟨f1, f2, f3⟩ := far _ r (Nat.mod_lt _ (by decide)) hia hr
        refine ⟨r, ?_, ?_⟩
        · rw [show ((a + 1) % 6 + 5 - (j + 1)) % 6 = (a + 5 - j) % 6 by omega, k2 _ hia]; exact hr
        · rw [keepU_s hj]
          exact figC_congr (old r (by omega) (by omega) (by omega) (by omega) (by omega)) (old (r + 1) (by omega) (by omega) (by omega) (by omega) (by omega)) (old (r + 2) (by omega) (by omega) (by omega) (by omega) (by omega)) hf
    · rcases hR.2.2.2.2.2.2.2 with ⟨c1, c2⟩ | ⟨r, zi, c1, c2, c3⟩
      · exact Or.inl ⟨by rw [k3]; exact c1, c2⟩
      · have d1 := hy.2.2.2.2.1 r c1
        have d2 := r1.2.2.2.2.2 a q r ha k1 (by rw [k3]; exact c1)
        exact Or.inr ⟨r, zi, by rw [k3]; exact c1, c2, portC_of (fun k a b _ => old (k + (r - 1)) (by omega) (by omega) (by omega) (by omega) (by omega)) c3⟩
  · rw [up2_ne (by omega), up2_ne (by omega), o2 k (by omega) (by omega) (by omega), m1 k (by omega)]
