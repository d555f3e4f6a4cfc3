/-! L3: HULL, both -/
theorem dot_toInt {xs ys : List Int32} (hx : RwOk (-99) 99 xs) (hy : RwOk (-99) 99 ys) (hl : ys.length = xs.length) {a b p : Nat} (ha : a < xs.length) (hb : b < xs.length) (hp : p < xs.length) : ((xs.getD p 0 - xs.getD a 0) * (xs.getD p 0 - xs.getD b 0) + (ys.getD p 0 - ys.getD a 0) * (ys.getD p 0 - ys.getD b 0)).toInt = dotI (toI xs) (toI ys) a b p := by
  have xa := to99 hx ha
  have xb := to99 hx hb
  have xp := to99 hx hp
  have ya := to99 hy (j := a) (by omega)
  have yb := to99 hy (j := b) (by omega)
  have yp := to99 hy (j := p) (by omega)
  unfold dotI
  unfold toI at *
  generalize xs.getD a 0 = A at *
  generalize xs.getD b 0 = B at *
  generalize xs.getD p 0 = C at *
  generalize ys.getD a 0 = D at *
  generalize ys.getD b 0 = E at *
  generalize ys.getD p 0 = G at *
  have e1 : (C - A).toInt = C.toInt - A.toInt := fb_subI (by omega) (by omega)
  have e2 : (C - B).toInt = C.toInt - B.toInt := fb_subI (by omega) (by omega)
  have e3 : (G - D).toInt = G.toInt - D.toInt := fb_subI (by omega) (by omega)
  have e4 : (G - E).toInt = G.toInt - E.toInt := fb_subI (by omega) (by omega)
  have m1 := mul_le198 (a := C.toInt - A.toInt) (b := C.toInt - B.toInt) (by omega) (by omega) (by omega) (by omega)
  have m2 := mul_le198 (a := G.toInt - D.toInt) (b := G.toInt - E.toInt) (by omega) (by omega) (by omega) (by omega)
  have f1 : ((C - A) * (C - B)).toInt = (C.toInt - A.toInt) * (C.toInt - B.toInt) := by rw [fb_mulI (by rw [e1, e2]; omega) (by rw [e1, e2]; omega), e1, e2]
  have f2 : ((G - D) * (G - E)).toInt = (G.toInt - D.toInt) * (G.toInt - E.toInt) := by rw [fb_mulI (by rw [e3, e4]; omega) (by rw [e3, e4]; omega), e3, e4]
  rw [fb_addI (by rw [f1, f2]; omega) (by rw [f1, f2]; omega), f1, f2]
theorem between_m {ν : Mu} {xs ys : List Int32} (mx : RwM ν 59 42 81 8 xs) (my : RwM ν 59 42 82 8 ys) (ox : RwOk (-99) 99 xs) (oy : RwOk (-99) 99 ys) (hl : ys.length = xs.length) {a b p : Nat} (ha : a < xs.length) (hb : b < xs.length) (hp : p < xs.length) : Mo_isBetween 59 (nI a) (nI b) (nI p) ν = some (if crI (toI xs) (toI ys) a b p = 0 ∧ dotI (toI xs) (toI ys) a b p < 0 then 1 else 0, ν) := by
  have z0 : (0 : Int32).toInt = 0 := by decide
  have hA := area_m mx my ha hb hp hl
  have hc := (cr_toInt ox oy hl ha hb hp).1
  have hD := dot_toInt ox oy hl ha hb hp
  obtain ⟨-, l8, -, vx⟩ := id mx
  obtain ⟨-, -, -, vy⟩ := id my
  unfold Mo_isBetween
  simp only [Nat.reduceAdd]
  rw [ldA_nI (by omega) (by omega), ldA_nI (by omega) (by omega), ldA_nI (by omega) (by omega), ldA_nI (by omega) (by omega), ldA_nI (by omega) (by omega), ldA_nI (by omega) (by omega), ldA_nI (by omega) (by omega), ldA_nI (by omega) (by omega), vx a ha, vx b hb, vx p hp, vy a (by omega), vy b (by omega), vy p (by omega), hA, cl_eq]
  generalize (xs.getD b 0 - xs.getD a 0) * (ys.getD p 0 - ys.getD a 0) - (ys.getD b 0 - ys.getD a 0) * (xs.getD p 0 - xs.getD a 0) = v at hc
  generalize (xs.getD p 0 - xs.getD a 0) * (xs.getD p 0 - xs.getD b 0) + (ys.getD p 0 - ys.getD a 0) * (ys.getD p 0 - ys.getD b 0) = d at hD
  by_cases c1 : crI (toI xs) (toI ys) a b p = 0
  · rw [if_pos (show v = 0 by rw [fa_eq, hc, z0]; exact c1)]
    by_cases c2 : dotI (toI xs) (toI ys) a b p < 0
    · rw [if_neg (show ¬ 0 ≤ d by rw [fa_le, hD, z0]; omega), if_pos ⟨c1, c2⟩]
    · rw [if_pos (show 0 ≤ d by rw [fa_le, hD, z0]; omega), if_neg (fun q => c2 q.2)]
  · rw [if_neg (show ¬ v = 0 by rw [fa_eq, hc, z0]; exact c1), if_neg (fun q => c1 q.1)]
theorem edge_m {ν : Mu} {xs ys : List Int32} (mx : RwM ν 59 42 81 8 xs) (my : RwM ν 59 42 82 8 ys) (ox : RwOk (-99) 99 xs) (oy : RwOk (-99) 99 ys) (hl : ys.length = xs.length) {a b : Nat} (ha : a < xs.length) (hb : b < xs.length) : Mo_isEdge 59 (nI a) (nI b) ν = some (if edB xs.length (toI xs) (toI ys) a b = true then 1 else 0, ν) := by
  have z0 : (0 : Int32).toInt = 0 := by decide
  obtain ⟨m0, l8, -, -⟩ := id mx
  suffices K : Mo_isEdge_2 59 (nI a) (nI b) FU (nI 0) ν = some (if edB xs.length (toI xs) (toI ys) a b = true then 1 else 0, ν) from K
  unfold Mo_isEdge_2
  refine lp_fu (F := fun kb => Mo_isEdge_2b 59 kb (nI a) (nI b)) (z := fun _ _ => none) xs.length (fun k A => (∀ p, p < k → p ≠ a → p ≠ b → 0 < crI (toI xs) (toI ys) a b p ∨ (crI (toI xs) (toI ys) a b p = 0 ∧ dotI (toI xs) (toI ys) a b p < 0)) → A (nI k) ν = some (if edB xs.length (toI xs) (toI ys) a b = true then 1 else 0, ν)) (by omega) ?_ ?_ 0 (by omega) (fun p hp => absurd hp (by omega))
  · intro A h
    show Mo_isEdge_2b 59 A (nI a) (nI b) (nI xs.length) ν = _
    unfold Mo_isEdge_2b
    rw [gF_eq, m0, if_pos (nI_le (Nat.le_refl _) (by omega)), if_pos (edB_iff.mpr h)]
  · intro k A hk ih h
    show Mo_isEdge_2b 59 A (nI a) (nI b) (nI k) ν = _
    unfold Mo_isEdge_2b Mo_isEdge_42
    rw [gF_eq, m0, if_neg (nI_ge hk (by omega)), show nI k + 1 = nI (k + 1) from nI_add k 1]
    have next : (k ≠ a → k ≠ b → 0 < crI (toI xs) (toI ys) a b k ∨ (crI (toI xs) (toI ys) a b k = 0 ∧ dotI (toI xs) (toI ys) a b k < 0)) → A (nI (k + 1)) ν = some (if edB xs.length (toI xs) (toI ys) a b = true then 1 else 0, ν) := fun hh => ih (fun p hp pa pb => by
      by_cases y : p = k
      · subst y; exact hh pa pb
      · exact h p (by omega) pa pb)
    by_cases c1 : k = a
    · rw [if_pos (by rw [c1])]; exact next (fun q => absurd c1 q)
    · rw [if_neg (fun q : nI k = nI a => c1 ((nI_eq (by omega) (by omega)).mp q))]
      by_cases c2 : k = b
      · rw [if_pos (by rw [c2])]; exact next (fun _ q => absurd c2 q)
      · have hc := (cr_toInt ox oy hl ha hb hk).1
        rw [if_neg (fun q : nI k = nI b => c2 ((nI_eq (by omega) (by omega)).mp q)), area_m mx my ha hb hk hl, cl_eq]
        generalize (xs.getD b 0 - xs.getD a 0) * (ys.getD k 0 - ys.getD a 0) - (ys.getD b 0 - ys.getD a 0) * (xs.getD k 0 - xs.getD a 0) = v at hc
        by_cases c3 : 0 < crI (toI xs) (toI ys) a b k
        · rw [if_pos (show 0 < v by rw [fa_lt, hc, z0]; exact c3)]; exact next (fun _ _ => Or.inl c3)
        · rw [if_neg (show ¬ 0 < v by rw [fa_lt, hc, z0]; exact c3), between_m mx my ox oy hl ha hb hk, cl_eq]
          by_cases c4 : crI (toI xs) (toI ys) a b k = 0 ∧ dotI (toI xs) (toI ys) a b k < 0
          · rw [if_pos c4, if_neg (by decide)]; exact next (fun _ _ => Or.inr c4)
          · rw [if_neg c4, if_pos rfl, if_neg]
            intro q
            rcases edB_iff.mp q k hk c1 c2 with w | w
            · exact c3 w
            · exact c4 w
theorem hull_m {ν : Mu} {xs ys : List Int32} (mx : RwM ν 59 42 81 8 xs) (my : RwM ν 59 42 82 8 ys) (ox : RwOk (-99) 99 xs) (oy : RwOk (-99) 99 ys) (hl : ys.length = xs.length) (h2 : 2 ≤ xs.length) (w : Nat) (hw : w ≤ 1) : Mo_hull_24 59 (nI w) FU 0 0 0 ν = some (if w = 0 then smG (fun a => if edB xs.length (toI xs) (toI ys) a (bstI (toI xs) (toI ys) a xs.length) = true then 1 else 0) xs.length else smG (fun a => if edB xs.length (toI xs) (toI ys) a (bstI (toI xs) (toI ys) a xs.length) = true then gH xs ys (bstI (toI xs) (toI ys) a xs.length) a else 0) xs.length, ν) := by
  obtain ⟨m0, l8, -, vx⟩ := id mx
  obtain ⟨-, -, -, vy⟩ := id my
  suffices K : ∀ fin : Int32 × Int32, fin = (smG (fun a => if edB xs.length (toI xs) (toI ys) a (bstI (toI xs) (toI ys) a xs.length) = true then 1 else 0) xs.length, smG (fun a => if edB xs.length (toI xs) (toI ys) a (bstI (toI xs) (toI ys) a xs.length) = true then gH xs ys (bstI (toI xs) (toI ys) a xs.length) a else 0) xs.length) → Mo_hull_24 59 (nI w) FU (smG (fun a => if edB xs.length (toI xs) (toI ys) a (bstI (toI xs) (toI ys) a xs.length) = true then 1 else 0) 0) (smG (fun a => if edB xs.length (toI xs) (toI ys) a (bstI (toI xs) (toI ys) a xs.length) = true then gH xs ys (bstI (toI xs) (toI ys) a xs.length) a else 0) 0) (nI 0) ν = some (if w = 0 then fin.1 else fin.2, ν) from K _ rfl
  intro fin hfin
  unfold Mo_hull_24
  refine lp_fu (F := fun kb => Mo_hull_24b 59 kb (nI w)) (z := fun _ _ _ _ => none) xs.length (fun k A => A (smG (fun a => if edB xs.length (toI xs) (toI ys) a (bstI (toI xs) (toI ys) a xs.length) = true then 1 else 0) k) (smG (fun a => if edB xs.length (toI xs) (toI ys) a (bstI (toI xs) (toI ys) a xs.length) = true then gH xs ys (bstI (toI xs) (toI ys) a xs.length) a else 0) k) (nI k) ν = some (if w = 0 then fin.1 else fin.2, ν)) (by omega) ?_ ?_ 0 (by omega)
  · intro A
    show Mo_hull_24b 59 A (nI w) (smG _ xs.length) (smG _ xs.length) (nI xs.length) ν = _
    unfold Mo_hull_24b
    rw [gF_eq, gF_eq, m0, if_pos (nI_le (Nat.le_refl _) (by omega)), if_neg (fun q : nI xs.length = 1 => by have := (nI_eq (b := 1) (by omega) (by omega)).mp q; omega), hfin]
    rcases (show w = 0 ∨ w = 1 by omega) with rfl | rfl
    · rw [if_neg (by decide), if_pos rfl]
    · rw [if_pos (by decide), if_neg (by decide)]
  · intro a A ha ih
    have e1 : smG (fun a => if edB xs.length (toI xs) (toI ys) a (bstI (toI xs) (toI ys) a xs.length) = true then 1 else 0) (a + 1) = smG (fun a => if edB xs.length (toI xs) (toI ys) a (bstI (toI xs) (toI ys) a xs.length) = true then 1 else 0) a + (if edB xs.length (toI xs) (toI ys) a (bstI (toI xs) (toI ys) a xs.length) = true then 1 else 0) := rfl
    have e2 : smG (fun a => if edB xs.length (toI xs) (toI ys) a (bstI (toI xs) (toI ys) a xs.length) = true then gH xs ys (bstI (toI xs) (toI ys) a xs.length) a else 0) (a + 1) = smG (fun a => if edB xs.length (toI xs) (toI ys) a (bstI (toI xs) (toI ys) a xs.length) = true then gH xs ys (bstI (toI xs) (toI ys) a xs.length) a else 0) a + (if edB xs.length (toI xs) (toI ys) a (bstI (toI xs) (toI ys) a xs.length) = true then gH xs ys (bstI (toI xs) (toI ys) a xs.length) a else 0) := rfl
    rw [e1, e2] at ih
    show Mo_hull_24b 59 A (nI w) (smG _ a) (smG _ a) (nI a) ν = _
    generalize smG (fun a => if edB xs.length (toI xs) (toI ys) a (bstI (toI xs) (toI ys) a xs.length) = true then 1 else 0) a = u at ih ⊢
    generalize smG (fun a => if edB xs.length (toI xs) (toI ys) a (bstI (toI xs) (toI ys) a xs.length) = true then gH xs ys (bstI (toI xs) (toI ys) a xs.length) a else 0) a = v at ih ⊢
    have uniq : ∀ b, b < xs.length → b ≠ a → edB xs.length (toI xs) (toI ys) a b = true → bstI (toI xs) (toI ys) a xs.length = b := fun b hb hba h => edge_next h2 hb hba (edB_iff.mp h)
    obtain ⟨n1, n2⟩ := bst_ne (X := toI xs) (Y := toI ys) (c := a) h2 xs.length (Nat.le_refl _)
    generalize bstI (toI xs) (toI ys) a xs.length = c at *
    unfold Mo_hull_24b
    rw [gF_eq, m0, if_neg (nI_ge ha (by omega))]
    unfold Mo_hull_36
    suffices K : ∀ (u' v' : Int32), u + (if edB xs.length (toI xs) (toI ys) a c = true then 1 else 0) = u' + (if 0 ≤ c ∧ edB xs.length (toI xs) (toI ys) a c = true then 1 else 0) → v + (if edB xs.length (toI xs) (toI ys) a c = true then gH xs ys c a else 0) = v' + (if 0 ≤ c ∧ edB xs.length (toI xs) (toI ys) a c = true then gH xs ys c a else 0) → lp (fun kb => Mo_hull_36b 59 A kb (nI w) (nI a)) (fun _ _ _ _ => none) FU u' v' (nI 0) ν = some (if w = 0 then fin.1 else fin.2, ν) by
      refine K u v ?_ ?_
      · by_cases y : edB xs.length (toI xs) (toI ys) a c = true
        · rw [if_pos y, if_pos ⟨Nat.zero_le _, y⟩]
        · rw [if_neg y, if_neg (fun q => y q.2)]
      · by_cases y : edB xs.length (toI xs) (toI ys) a c = true
        · rw [if_pos y, if_pos ⟨Nat.zero_le _, y⟩]
        · rw [if_neg y, if_neg (fun q => y q.2)]
    refine lp_fu (F := fun kb => Mo_hull_36b 59 A kb (nI w) (nI a)) (z := fun _ _ _ _ => none) xs.length (fun k B => ∀ (u' v' : Int32), u + (if edB xs.length (toI xs) (toI ys) a c = true then 1 else 0) = u' + (if k ≤ c ∧ edB xs.length (toI xs) (toI ys) a c = true then 1 else 0) → v + (if edB xs.length (toI xs) (toI ys) a c = true then gH xs ys c a else 0) = v' + (if k ≤ c ∧ edB xs.length (toI xs) (toI ys) a c = true then gH xs ys c a else 0) → B u' v' (nI k) ν = some (if w = 0 then fin.1 else fin.2, ν)) (by omega) ?_ ?_ 0 (by omega)
    · intro B u' v' hu hv
      show Mo_hull_36b 59 A B (nI w) (nI a) u' v' (nI xs.length) ν = _
      unfold Mo_hull_36b
      rw [if_neg (fun q : xs.length ≤ c ∧ _ => by omega), Int32.add_zero] at hu hv
      rw [gF_eq, m0, if_pos (nI_le (Nat.le_refl _) (by omega)), show nI a + 1 = nI (a + 1) from nI_add a 1, ← hu, ← hv]
      exact ih
    · intro b B hb ihb u' v' hu hv
      show Mo_hull_36b 59 A B (nI w) (nI a) u' v' (nI b) ν = _
      unfold Mo_hull_36b Mo_hull_104
      simp only [Nat.reduceAdd]
      rw [gF_eq, m0, if_neg (nI_ge hb (by omega)), show nI b + 1 = nI (b + 1) from nI_add b 1]
      have skip : ¬ (b = c ∧ edB xs.length (toI xs) (toI ys) a c = true) → B u' v' (nI (b + 1)) ν = some (if w = 0 then fin.1 else fin.2, ν) := fun hno => by
        refine ihb u' v' ?_ ?_
        · rw [hu]
          by_cases y : b ≤ c ∧ edB xs.length (toI xs) (toI ys) a c = true
          · rw [if_pos y, if_pos ⟨by have : b ≠ c := fun q => hno ⟨q, y.2⟩
                                     omega, y.2⟩]
          · rw [if_neg y, if_neg (fun q => y ⟨by omega, q.2⟩)]
        · rw [hv]
          by_cases y : b ≤ c ∧ edB xs.length (toI xs) (toI ys) a c = true
          · rw [if_pos y, if_pos ⟨by have : b ≠ c := fun q => hno ⟨q, y.2⟩
                                     omega, y.2⟩]
          · rw [if_neg y, if_neg (fun q => y ⟨by omega, q.2⟩)]
      by_cases c1 : a = b
      · rw [if_pos (by rw [c1])]
        exact skip (fun q => n1 (by rw [← q.1, c1]))
      · rw [if_neg (fun q : nI a = nI b => c1 ((nI_eq (by omega) (by omega)).mp q)), edge_m mx my ox oy hl ha hb, cl_eq]
        by_cases c2 : edB xs.length (toI xs) (toI ys) a b = true
        · have e := uniq b hb (fun q => c1 q.symm) c2
          subst e
          rw [if_pos c2] at hu hv
          rw [if_pos (show c ≤ c ∧ edB xs.length (toI xs) (toI ys) a c = true from ⟨Nat.le_refl _, c2⟩)] at hu hv
          rw [if_pos c2, if_neg (by decide), ldA_nI (by omega) (by omega), ldA_nI (by omega) (by omega), ldA_nI (by omega) (by omega), ldA_nI (by omega) (by omega), vx a ha, vx c hb, vy a (by omega), vy c (by omega)]
          refine ihb _ _ ?_ ?_
          · rw [if_pos c2, hu, if_neg (fun q : c + 1 ≤ c ∧ _ => by omega)]; grind
          · rw [if_pos c2, hv, if_neg (fun q : c + 1 ≤ c ∧ _ => by omega)]; unfold gH; grind
        · rw [if_neg c2, if_pos rfl]
          exact skip (fun q => c2 (by rw [q.1]; exact q.2))
theorem th_hull {μ ν : Mu} {xs ys : List Int32} (hx : RwC μ 19 8 (-99) 99 xs) (hy : RwC μ 21 8 (-99) 99 ys) (mx : RwM ν 59 42 81 8 xs) (my : RwM ν 59 42 82 8 ys) (ox : RwOk (-99) 99 xs) (oy : RwOk (-99) 99 ys) (hl : ys.length = xs.length) (hd : DisI xs.length (toI xs) (toI ys)) (w : Int32) : Same (Sf_hull 0 w μ) (Mo_hull 59 w ν) := by
  have l8 : xs.length ≤ 8 := hx.2.2.2.1
  unfold Sf_hull Mo_hull
  rw [pF_eq]
  have mx1 : RwM (up2 ν 59 0 0) 59 42 81 8 xs := rwM_congr (up2_off (Or.inr (by omega))) (up2_ne (by omega)) mx
  have my1 : RwM (up2 ν 59 0 0) 59 42 82 8 ys := rwM_congr (up2_off (Or.inr (by omega))) (up2_ne (by omega)) my
  generalize up2 ν 59 0 0 = ν1 at mx1 my1
  have hc : ∀ o : Option (Int32 × Mu), cl o (fun x2 μ1 => some (x2, μ1)) = o := fun o => by cases o <;> rfl
  rw [hc, hc, isIn_eq, cl_eq]
  have go : ∀ u : Nat, u ≤ 1 → Same (Th_outline 45 18 (nI u) μ) (Mo_hull_24 59 (nI u) FU 0 0 0 ν1) := by
    intro u hu
    by_cases h2 : 2 ≤ xs.length
    · rw [outline_c hx hy ox oy hl hd h2, hull_m mx1 my1 ox oy hl h2 u hu]
      rcases (show u = 0 ∨ u = 1 by omega) with rfl | rfl
      · rw [if_pos (show (0 : Nat) = 0 from rfl), if_pos (show nI 0 = 0 by decide)]; exact same_i rfl rfl
      · rw [if_neg (show ¬ (1 : Nat) = 0 by decide), if_neg (show ¬ nI 1 = 0 by decide)]; exact same_i rfl rfl
    · unfold Th_outline
      simp only [Nat.reduceAdd]
      obtain ⟨m0, -, -, -⟩ := id mx1
      rw [gF_eq, hx.2.2.1, if_neg (show ¬ (2 : Int32) ≤ nI xs.length by rw [li_le (by omega) (by omega)]; exact h2)]
      unfold Mo_hull_24
      have hF : FU = 999999 + 1 := rfl
      rw [hF, lp_succ]
      show Same _ (Mo_hull_24b 59 (lp _ _ 999999) (nI u) 0 0 (nI 0) ν1)
      unfold Mo_hull_24b
      rw [gF_eq, gF_eq, m0]
      rcases (show xs.length = 0 ∨ xs.length = 1 by omega) with z | z
      · rw [z, if_pos (show nI 0 ≤ nI 0 by decide), if_neg (show ¬ nI 0 = 1 by decide)]
        rcases (show u = 0 ∨ u = 1 by omega) with rfl | rfl
        · exact same_i rfl rfl
        · exact same_i rfl rfl
      · rw [z, if_neg (show ¬ nI 1 ≤ nI 0 by decide)]
        unfold Mo_hull_36
        rw [hF, lp_succ]
        show Same _ (Mo_hull_36b 59 (lp _ _ (999999 + 1 - 1)) (lp _ _ 999999) (nI u) (nI 0) 0 0 (nI 0) ν1)
        unfold Mo_hull_36b Mo_hull_104
        rw [gF_eq, m0, z, if_neg (show ¬ nI 1 ≤ nI 0 by decide), if_pos rfl]
        rw [show (999999 : Nat) = 999998 + 1 from rfl, lp_succ]
        show Same _ (Mo_hull_36b 59 (lp _ _ 999999) (lp _ _ 999998) (nI u) (nI 0) 0 0 (nI 1) ν1)
        unfold Mo_hull_36b
        rw [gF_eq, m0, z, if_pos (show nI 1 ≤ nI 1 by decide), show (999999 : Nat) = 999998 + 1 from rfl, lp_succ]
        show Same _ (Mo_hull_24b 59 (lp _ _ 999998) (nI u) 0 0 (nI 1) ν1)
        unfold Mo_hull_24b
        rw [gF_eq, gF_eq, m0, z, if_pos (show nI 1 ≤ nI 1 by decide), if_pos (show nI 1 = 1 by decide)]
        rcases (show u = 0 ∨ u = 1 by omega) with rfl | rfl
        · exact same_i rfl rfl
        · exact same_i rfl rfl
  by_cases c : w < 0 ∨ 1 < w
  · rw [if_pos c, if_pos rfl]
    have n0 : ¬ w = 0 := fun z => by subst z; revert c; decide
    have n1 : ¬ w = 1 := fun z => by subst z; revert c; decide
    rw [if_neg n0, if_neg n1]; exact same_i rfl rfl
  · rw [if_neg c, if_neg (show ¬ (1 : Int32) = 0 by decide)]
    obtain ⟨k, k1, k2, rfl⟩ := nI_rng (lo := 0) (n := 1) (by omega) (by omega) (fun z => c (Or.inl z)) (fun z => c (Or.inr z))
    rcases (show k = 0 ∨ k = 1 by omega) with rfl | rfl
    · rw [if_pos (show nI 0 = 0 by decide)]; exact go 0 (by omega)
    · rw [if_neg (show ¬ nI 1 = 0 by decide), if_pos (show nI 1 = 1 by decide)]; exact go 1 (by omega)
