/-! L3: FIGURES COPIED; STATE, SET, PERSON -/
theorem cp2_ne {μ : Mu} {a0 sp a1 dp n k : Nat} (h : k ≠ a1) : cp2 μ a0 sp a1 dp n k = μ k := funext (fun _ => if_neg h)
theorem cp2_in {μ : Mu} {a0 a1 n j : Nat} (h : j < n) : cp2 μ a0 0 a1 0 n a1 j = μ a0 j := by
  show (if a1 = a1 then va_cpy (μ a0) (μ a1) 0 0 n j else μ a1 j) = _
  rw [if_pos rfl, pk_cpy_in (Nat.zero_le _) (by omega)]
  congr 1; omega
theorem cpA_m {α : Type} {μ : Mu} {a0 n0 a1 n1 : Nat} {v : Int32} {f : Mu → Option α} (m : Nat) (hv : v = nI m) (h0 : m ≤ n0) (h1 : m ≤ n1) (hm : m < 2 ^ 31) : cpA μ a0 n0 0 a1 n1 0 v f = f (cp2 μ a0 0 a1 0 m) := by
  have e0 : (0 : Int32).toNatClampNeg = 0 := by decide
  have em : v.toNatClampNeg = m := by rw [hv, nI_clamp hm]
  unfold cpA cpOk
  rw [if_pos, e0, em]
  rw [e0, em, Bool.and_eq_true, Bool.and_eq_true, decide_eq_true_eq, decide_eq_true_eq]
  refine ⟨⟨?_, by omega⟩, by omega⟩
  rw [decide_eq_false (show ¬ (0 : Int32) < 0 by decide), decide_eq_false (show ¬ v < 0 by rw [hv]; exact nI_pos hm)]
  rfl
theorem fg_scal {ν : Mu} {c d : Nat} (hcd : c ≠ d) : ∃ ν', (gF ν c 3 (fun x3 => pF ν d 3 x3 (fun μ4 => gF μ4 c 4 (fun x5 => pF μ4 d 4 x5 (fun μ6 => gF μ6 c 5 (fun x7 => pF μ6 d 5 x7 (fun μ8 => gF μ8 c 6 (fun x9 => pF μ8 d 6 x9 (fun μ10 => gF μ10 c 7 (fun x11 => pF μ10 d 7 x11 (fun μ12 => gF μ12 c 8 (fun x13 => pF μ12 d 8 x13 (fun μ14 => gF μ14 c 9 (fun x15 => pF μ14 d 9 x15 (fun μ16 => some ((), μ16))))))))))))))) : Option (Unit × Mu)) = some ((), ν') ∧ (∀ k, k ≠ d → ν' k = ν k) ∧ ν' d 0 = ν d 0 ∧ ∀ j, 3 ≤ j → j < 10 → ν' d j = ν c j := by
  simp only [gF_eq, pF_eq, up2_off (Or.inl hcd)]
  refine ⟨_, rfl, fun k hk => ?_, ?_, fun j h3 h9 => ?_⟩
  · rw [up2_ne hk, up2_ne hk, up2_ne hk, up2_ne hk, up2_ne hk, up2_ne hk, up2_ne hk]
  · rw [up2_off (Or.inr (by decide)), up2_off (Or.inr (by decide)), up2_off (Or.inr (by decide)), up2_off (Or.inr (by decide)), up2_off (Or.inr (by decide)), up2_off (Or.inr (by decide)), up2_off (Or.inr (by decide))]
  · rcases (show j = 3 ∨ j = 4 ∨ j = 5 ∨ j = 6 ∨ j = 7 ∨ j = 8 ∨ j = 9 by omega) with rfl | rfl | rfl | rfl | rfl | rfl | rfl <;> simp [up2]
theorem fg_copy {P c d : Nat} {th th' : Int32} {μ : Mu} {N : Nat → Int32} (h : FigC P c th μ N) (hd : μ d 0 = th') (hs : c + 3 ≤ d ∨ d + 3 ≤ c) : Ev (Fg_copyFrom d c μ) (fun _ μ' => FigC P d th' μ' N ∧ Off [d, d + 1, d + 2] μ μ') := by
  obtain ⟨h1, h2, h3, h4, h5, h6, h7, h8, h9⟩ := h
  unfold Fg_copyFrom
  rw [cpA_m (v := 112) 112 rfl (by omega) (by omega) (by omega), cpA_m (v := 16) 16 rfl (by omega) (by omega) (by omega)]
  have a1 : ∀ j, j < 112 → cp2 (cp2 μ (c + 1) 0 (d + 1) 0 112) (c + 2) 0 (d + 2) 0 16 (d + 1) j = μ (c + 1) j := fun j hj => by rw [cp2_ne (by omega), cp2_in hj]
  have a2 : ∀ j, j < 16 → cp2 (cp2 μ (c + 1) 0 (d + 1) 0 112) (c + 2) 0 (d + 2) 0 16 (d + 2) j = μ (c + 2) j := fun j hj => by rw [cp2_in hj, cp2_ne (by omega)]
  have a3 : ∀ k, k ≠ d + 1 → k ≠ d + 2 → cp2 (cp2 μ (c + 1) 0 (d + 1) 0 112) (c + 2) 0 (d + 2) 0 16 k = μ k := fun k hk hk2 => by rw [cp2_ne hk2, cp2_ne hk]
  generalize cp2 (cp2 μ (c + 1) 0 (d + 1) 0 112) (c + 2) 0 (d + 2) 0 16 = μ2 at a1 a2 a3 ⊢
  obtain ⟨ν', e, b1, b2, b3⟩ := fg_scal (ν := μ2) (show c ≠ d by omega)
  refine ⟨(), ν', e, ⟨h1, ?_, ?_, fun j hj hj2 => ?_, fun p f hp hf => ?_, fun p hp => ?_, fun p hp => ?_, fun s hs => ?_, fun p f x y u v => ?_⟩, fun k hk => ?_⟩
  · rw [b2, a3 d (by omega) (by omega)]; exact hd
  · rw [b3 3 (by omega) (by omega), a3 c (by omega) (by omega)]; exact h3
  · rw [b3 j (by omega) hj2, a3 c (by omega) (by omega)]; exact h4 j hj hj2
  · rw [b1 (d + 1) (by omega), a1 _ (by omega)]; exact h5 p f hp hf
  · rw [b1 (d + 1) (by omega), a1 _ (by omega)]; exact h6 p hp
  · rw [b1 (d + 1) (by omega), a1 _ (by omega)]; exact h7 p hp
  · rw [b1 (d + 2) (by omega), a2 _ hs]; exact h8 s hs
  · rw [b1 (d + 1) (by omega), a1 _ (by omega)]; exact h9 p f x y u v
  · simp only [List.mem_cons, List.not_mem_nil, or_false, not_or] at hk
    rw [b1 k hk.1, a3 k hk.2.1 hk.2.2]
/-! the whole state with other figures -/
def mvS (z : Zt) (S : St) (U : List (Nat → Int32)) : Zt := ((poP (zP z), S, poL (zP z), poH (zP z), poW (zP z), poA (zP z), poB (zP z), poT (zP z), poK (zP z)), U, zB z, zF z, zG z, zI z)
theorem repC_fig {μ μ' : Mu} {y : Ly} {z : Zt} {S : St} {U : List (Nat → Int32)} (hy : LyRep y) (hR : RepC μ y z) (h : ∀ k, k ∉ [0, 1, 2, 3, 4, 5, 6, 13, 39, 40, 41, 43, 44, 45, 46, 47, 50, 51, 52, 53, 54, 55, 56, 57, 58] → k < 59 → μ' k = μ k) (hF : FigC (poP (zP z)) 2 0 μ' S.1) (hb : ∀ k, k < 600 → μ' 5 k = S.2 k) (hU : UndoC μ' y (poP (zP z)) U) (hI : PicC μ' y (zI z)) : RepC μ' y (mvS z S U) := by
  obtain ⟨⟨g1, g2, g3, g4, g5, g6, g7, g8, g9⟩, h2, h3, h4, h5, h6, h7, h8⟩ := hR
  have e : ∀ k, 7 ≤ k → k ≤ 38 → k ≠ 13 → μ' k = μ k := fun k a b c => h k (fun z => by
    simp only [List.mem_cons, List.not_mem_nil, or_false] at z; omega) (by omega)
  exact ⟨⟨hF, hb, lawC_off (fun k a b => e k (by omega) (by omega) (by omega)) g3, heirC_of (e 15 (by omega) (by omega) (by omega)) (e 16 (by omega) (by omega) (by omega)) g4, weaC_of (e 14 (by omega) (by omega) (by omega)) (e 17 (by omega) (by omega) (by omega)) g5, by rw [e 17 (by omega) (by omega) (by omega)]; exact g6, by rw [e 17 (by omega) (by omega) (by omega)]; exact g7, by rw [e 17 (by omega) (by omega) (by omega)]; exact g8, toldC_off (fun k a b => e k (by omega) (by omega) (by omega)) g9⟩, by rw [h 42 (by decide) (by omega)]; exact h2, by rw [h 48 (by decide) (by omega)]; exact h3, fun i hi => by rw [h 49 (by decide) (by omega)]; exact h4 i hi, by rw [h 48 (by decide) (by omega)]; exact h5, by rw [h 48 (by decide) (by omega)]; exact h6, hU, hI⟩
theorem repM_fig {ν ν' : Mu} {z : Zt} {S : St} {U : List (Nat → Int32)} (hR : RepM ν z) (hr : ∀ k, k ∈ [64, 65, 66, 67, 68, 69, 70, 71, 72, 76, 77, 81, 82, 83, 85, 86, 88, 91, 93, 94, 95, 98] → ν' k = ν k) (hf : ∀ j, j ∈ [5, 6, 9, 29, 30, 31, 34, 36, 41, 42, 45, 51, 55, 58, 61, 66] → ν' 59 j = ν 59 j) (h60 : ν' 60 = S.1) (h63 : ν' 63 = S.2) (h3 : ν' 59 3 = nI U.length) (hU : ∀ i k, i < U.length → k < 118 → ν' 61 (118 * (U.length - 1 - i) + k) = U.getD i N0 k) : RepM ν' (mvS z S U) := by
  obtain ⟨⟨g1, g2, g3, g4, g5, g6, g7, g8, g9⟩, ⟨h2, h2b⟩, h5, h4, h5', h6, h7, h8, h9, h10, h11⟩ := hR
  refine ⟨⟨fun k _ => by rw [h60]; rfl, fun k _ => by rw [h63]; rfl, (hf 6 (by decide)).trans g3, lawM_off (fun k a b => hr k (by
    simp only [List.mem_cons, List.not_mem_nil, or_false]; omega)) g4, fun k hk => by rw [hr 77 (by decide)]; exact g5 k hk, weaM_of (hf 34 (by decide)) (hr 76 (by decide)) g6, (hf 31 (by decide)).trans g7, (hf 36 (by decide)).trans g8, toldM_off (fun j hj => hf j ?_) (fun k hk => hr k ?_) g9⟩, ⟨h60, h63⟩, (hf 5 (by decide)).trans h5, h3, hU, (hf 9 (by decide)).trans h6, fun i hi => by rw [hr 64 (by decide)]; exact h7 i hi, fun i hi => by rw [hr 65 (by decide)]; exact h8 i hi, (hf 29 (by decide)).trans h9, (hf 30 (by decide)).trans h10, imgM_of (hf 66 (by decide)) (hr 98 (by decide)) h11⟩
  · simp only [List.mem_cons, List.not_mem_nil, or_false] at hj ⊢; omega
  · simp only [List.mem_cons, List.not_mem_nil, or_false] at hk ⊢; omega
theorem absOk_fig {z : Zt} {S : St} {U : List (Nat → Int32)} (hA : AbsOk z) (hN : NOk (poP (zP z)) S.1) (hl : U.length ≤ 6) (hU : ∀ N, N ∈ U → NOk (poP (zP z)) N) : AbsOk (mvS z S U) := ⟨⟨⟨hN, hA.1.1.2⟩, hA.1.2⟩, hl, hU, hA.2.2.2⟩
theorem undoC_no {μ μ' : Mu} {y : Ly} {P P' : Nat} {U : List (Nat → Int32)} (hy : LyRep y) (h7 : μ' 0 7 = μ 0 7) (h8 : μ' 0 8 = 0) (h : ∀ k, 99 ≤ k → μ' k = μ k) (hU : UndoC μ y P U) : UndoC μ' y P' [] := by
  obtain ⟨a, ha, g7, g8, hs, hu⟩ := hU
  refine ⟨a, ha, h7.trans g7, h8, fun i q hi hq => ?_, fun j hj => absurd hj (by show ¬ j < 0; omega)⟩
  rw [h q (hy.2.2.1 i q hi hq).1]; exact hs i q hi hq
theorem ctxC_rep {μ : Mu} {y : Ly} {z : Zt} (h : RepC μ y z) : CtxC (poP (zP z)) 2 0 μ (poN (zP z)) (poL (zP z)) (poH (zP z)) := ⟨h.1.1, h.1.2.1, h.1.2.2.1, h.1.2.2.2.1, Or.inl rfl⟩
theorem ctxM_rep {ν : Mu} {z : Zt} (h : RepM ν z) : CtxM (poP (zP z)) 0 ν (poN (zP z)) (poL (zP z)) (poH (zP z)) := ⟨h.2.1.1, h.2.1.2, h.2.2.1, h.1.2.2.1, h.1.2.2.2.1, h.1.2.2.2.2.1⟩
theorem repM_t {ν : Mu} {z : Zt} (h : RepM ν z) : RepM (up2 ν 59 0 0) z := repM_of (fun k hk => up2_ne (fun y => by rw [y] at hk; exact absurd hk (by decide))) (fun j hj => up2_off (Or.inr (fun y => by rw [y] at hj; exact absurd hj (by decide)))) h
theorem inM_up {ν ν' : Mu} {a i : Nat} {v : Int32} (h : InM ν ν') (ha : 59 ≤ a ∧ a < 99) : InM ν (up2 ν' a i v) := fun k hk => (up2_ne (by omega)).trans (h k hk)
theorem inM_refl (ν : Mu) : InM ν ν := fun _ _ => rfl
theorem inC_refl (ν : Mu) : InC ν ν := fun _ _ _ => rfl
theorem inC_up {ν ν' : Mu} {a i : Nat} {v : Int32} (h : InC ν ν') (ha : a < 59) : InC ν (up2 ν' a i v) := fun k h1 h2 => (up2_ne (by omega)).trans (h k h1 h2)
/-- a new row, nothing to undo: the class -/
theorem set_c {μ μ' : Mu} {y : Ly} {z : Zt} {N : Nat → Int32} (hy : LyRep y) (hR : RepC μ y z) (hF : FigC (poP (zP z)) 2 0 μ' N) (hO : ∀ k, k ≠ 2 → k ≠ 3 → μ' k = μ k) : RepC (up2 μ' 0 8 0) y (mvS z (N, (poN (zP z)).2) []) := by
  refine repC_fig hy hR (fun k hk _ => ?_) (figC_congr (up2_ne (by decide)) (up2_ne (by decide)) (up2_ne (by decide)) hF) (fun k hk => ?_) (undoC_no hy ?_ (up2_same _ _ _ _) (fun k hk => ?_) hR.2.2.2.2.2.2.1) (picC_of hy (fun k hk => ?_) hR.2.2.2.2.2.2.2)
  · rw [up2_ne (fun z => hk (by rw [z]; decide)), hO k (fun z => hk (by rw [z]; decide)) (fun z => hk (by rw [z]; decide))]
  · rw [up2_ne (by decide), hO 5 (by decide) (by decide)]; exact hR.1.2.1 k hk
  · rw [up2_off (Or.inr (by decide)), hO 0 (by decide) (by decide)]
  · rw [up2_ne (by omega), hO k (by omega) (by omega)]
  · rw [up2_ne (by omega), hO k (by omega) (by omega)]
theorem set_m {ν ν' : Mu} {z : Zt} {N : Nat → Int32} (hR : RepM ν z) (h60 : ν' 60 = N) (hO : ∀ k, k ≠ 60 → ν' k = ν k) : RepM (up2 ν' 59 3 0) (mvS z (N, (poN (zP z)).2) []) := by
  refine repM_fig hR (fun k hk => ?_) (fun j hj => ?_) ?_ ?_ (up2_same _ _ _ _) (fun i k hi => absurd hi (by show ¬ i < 0; omega))
  · rw [up2_ne (fun z => by rw [z] at hk; exact absurd hk (by decide)), hO k (fun z => by rw [z] at hk; exact absurd hk (by decide))]
  · rw [up2_off (Or.inr (fun z => by rw [z] at hj; exact absurd hj (by decide))), hO 59 (by decide)]
  · rw [up2_ne (by decide)]; exact h60
  · rw [up2_ne (by decide), hO 63 (by decide)]; exact hR.2.1.2
theorem sn_state (v : Int32) : StepN (Sf_state 0 v) (Mo_state 59 v) := by
  refine stepN_of (fun z hA => ⟨(poN (zP z)).1 1, mvS z (upd (poN (zP z)).1 1 v, (poN (zP z)).2) [], ?_, fun μ y hy hR => ?_, fun ν hR => ?_⟩)
  · exact absOk_fig hA (nok_upd hA.1.1.1 1 v (by omega) (by omega)) (by decide) (fun N hN => absurd hN List.not_mem_nil)
  · unfold Sf_state Sf_forget
    simp only [Nat.reduceAdd]
    rw [gF_eq, pF_eq, pF_eq, cl_eq]
    have h8 := hR.1.1.2.2.2.1 8 (by omega) (by omega)
    refine ev_some ⟨h8, set_c hy hR (figC_sc hR.1.1 8 (by omega) (by omega) v) (fun k a b => up2_ne a), inC_up (inC_up (inC_refl μ) (by omega)) (by omega)⟩
  · unfold Mo_state
    simp only [Nat.reduceAdd]
    have hR1 := repM_t hR
    rw [pF_eq, ldA_li (i := 1) (by decide) (by decide), stA_li (i := 1) (by decide) (by decide), pF_eq]
    refine ev_some ⟨?_, set_m hR1 ?_ (fun k hk => up2_ne hk), inM_up (inM_up (inM_up (inM_refl ν) (by omega)) (by omega)) (by omega)⟩
    · rw [up2_ne (by decide), hR.2.1.1]
    · rw [up2_row, hR1.2.1.1]
theorem sn_set (w who v : Int32) : StepN (Sf_set 0 w who v) (Mo_set 59 w who v) := by
  refine stepN_of (fun z hA => ?_)
  have hP : poP (zP z) ≤ 16 := hA.1.1.1.1
  -- nothing is done
  have no : (∀ μ y, RepC μ y z → Sf_set 0 w who v μ = some (0, μ)) → (∀ ν, RepM ν z → ∃ ν', Mo_set 59 w who v ν = some (0, ν') ∧ ν' = up2 ν 59 0 0) → ∃ r z', AbsOk z' ∧ (∀ μ y, LyRep y → RepC μ y z → Ev (Sf_set 0 w who v μ) (fun x μ1 => x = r ∧ RepC μ1 y z' ∧ InC μ μ1)) ∧ (∀ ν, RepM ν z → Ev (Mo_set 59 w who v ν) (fun x ν1 => x = r ∧ RepM ν1 z' ∧ InM ν ν1)) := by
    intro a b
    refine ⟨0, z, hA, fun μ y hy hR => ?_, fun ν hR => ?_⟩
    · rw [a μ y hR]; exact ev_some ⟨rfl, hR, inC_refl μ⟩
    · obtain ⟨ν', e1, e2⟩ := b ν hR
      rw [e1, e2]; exact ev_some ⟨rfl, repM_t hR, inM_up (inM_refl ν) (by omega)⟩
  have z0 : ∀ ν : Mu, ¬ (1 : Int32) = 0 := fun _ => by decide
  by_cases w2 : w = 2
  · by_cases cv : v < 0 ∨ 9 < v
    · refine no (fun μ y hR => ?_) (fun ν hR => ⟨_, ?_, rfl⟩)
      · unfold Sf_set Sf_set_33 Sf_set_67
        rw [if_pos w2, within_eq, cl_eq, if_pos cv, if_pos rfl, if_neg (by rw [w2]; decide), if_neg (by rw [w2]; decide)]
      · unfold Mo_set Mo_set_73
        rw [pF_eq, if_pos w2, isIn_eq, cl_eq, if_pos cv, if_pos rfl]
    · refine ⟨1, mvS z (upd (poN (zP z)).1 3 v, (poN (zP z)).2) [], absOk_fig hA (nok_upd hA.1.1.1 3 v (by omega) (by omega)) (by decide) (fun N hN => absurd hN List.not_mem_nil), fun μ y hy hR => ?_, fun ν hR => ?_⟩
      · unfold Sf_set Sf_set_105 Sf_forget
        simp only [Nat.reduceAdd]
        rw [if_pos w2, within_eq, cl_eq, if_neg cv, if_neg (show ¬ (1 : Int32) = 0 by decide), pF_eq, pF_eq, cl_eq]
        exact ev_some ⟨rfl, set_c hy hR (figC_sc hR.1.1 4 (by omega) (by omega) v) (fun k a b => up2_ne a), inC_up (inC_up (inC_refl μ) (by omega)) (by omega)⟩
      · have hR1 := repM_t hR
        unfold Mo_set Mo_set_73 Mo_set_116
        simp only [Nat.reduceAdd]
        rw [pF_eq, if_pos w2, isIn_eq, cl_eq, if_neg cv, if_neg (show ¬ (1 : Int32) = 0 by decide), if_pos w2, stA_li (i := 3) (by decide) (by decide), pF_eq]
        refine ev_some ⟨rfl, set_m hR1 ?_ (fun k hk => up2_ne hk), inM_up (inM_up (inM_up (inM_refl ν) (by omega)) (by omega)) (by omega)⟩
        rw [up2_row, hR1.2.1.1]
  have cw : (w = 0 ∨ w = 1) ∨ (w < 0 ∨ 1 < w) := by
    rcases pk_ix w (n := 2) (by omega) with q | q | ⟨j, hj, q⟩
    · exact Or.inr (Or.inl q)
    · refine Or.inr (Or.inr ?_)
      rw [fa_lt]
      rw [fa_le, nI_toInt (by omega)] at q
      rw [show (1 : Int32).toInt = 1 by decide]; omega
    · rcases (show j = 0 ∨ j = 1 by omega) with rfl | rfl
      · exact Or.inl (Or.inl q)
      · exact Or.inl (Or.inr q)
  rcases cw with cw | cw
  · rcases person_or hP who with hw | ⟨p, hp, rfl⟩
    · refine no (fun μ y hR => ?_) (fun ν hR => ⟨_, ?_, rfl⟩)
      · have e := fg_isAlive_no hR.1.1 hw
        unfold Sf_set Sf_set_33 Sf_set_67
        simp only [Nat.reduceAdd]
        rw [if_neg w2]
        rcases cw with rfl | rfl
        · rw [if_pos rfl, e, cl_eq, if_pos rfl, if_neg (by decide)]
        · rw [if_neg (by decide), if_pos rfl, e, cl_eq, if_pos rfl]
      · have hR1 := repM_t hR
        unfold Mo_set Mo_set_72 Mo_set_73
        rw [pF_eq, if_neg w2, isIn_eq, cl_eq, if_neg (show ¬ (w < 0 ∨ 1 < w) by rcases cw with rfl | rfl <;> decide), if_neg (show ¬ (1 : Int32) = 0 by decide), mo_isPerson hR1.1.2.2.1, cl_eq, if_pos hw, if_pos rfl, if_pos rfl]
    · have hpw : ¬ (nI p < 0 ∨ nI (poP (zP z)) ≤ nI p) := by
        rintro (q | q)
        · exact nI_pos (by omega) q
        · exact nI_ge hp (by omega) q
      by_cases al : (poN (zP z)).1 (86 + p) = 0
      · have hc0 : ∀ μ y, RepC μ y z → Fg_isAlive 2 (nI p) μ = some (1, μ) := fun μ y hR => by rw [fg_isAlive hR.1.1 hp, if_pos al]
        have hm0 : ∀ ν, RepM ν z → Mo_isAlive 59 (nI p) ν = some (1, ν) := fun ν hR => by rw [mo_isAlive hP hp, hR.2.1.1, if_pos al]
        rcases cw with rfl | rfl
        · by_cases cv : v < 0 ∨ 9 < v
          · refine no (fun μ y hR => ?_) (fun ν hR => ⟨_, ?_, rfl⟩)
            · unfold Sf_set Sf_set_33 Sf_set_67
              simp only [Nat.reduceAdd]
              rw [if_neg w2, if_pos trivial, hc0 μ y hR, cl_eq, if_neg (show ¬ (1 : Int32) = 0 by decide), within_eq, cl_eq, if_pos cv, if_pos rfl, if_neg (by decide)]
            · have hR1 := repM_t hR
              unfold Mo_set Mo_set_62 Mo_set_72 Mo_set_73
              rw [pF_eq, if_neg w2, isIn_eq, cl_eq, if_neg (show ¬ ((0 : Int32) < 0 ∨ (1 : Int32) < 0) by decide), if_neg (show ¬ (1 : Int32) = 0 by decide), mo_isPerson hR1.1.2.2.1, cl_eq, if_neg hpw, if_neg (show ¬ (1 : Int32) = 0 by decide), hm0 _ hR1, cl_eq, if_neg (show ¬ (1 : Int32) = 0 by decide), if_pos rfl, isIn_eq, cl_eq, if_pos cv, if_pos rfl, if_pos rfl]
          · refine ⟨1, mvS z (upd (poN (zP z)).1 (6 + 16 * 0 + p) v, (poN (zP z)).2) [], absOk_fig hA (nok_upd hA.1.1.1 _ v (by omega) (by omega)) (by decide) (fun N hN => absurd hN List.not_mem_nil), fun μ y hy hR => ?_, fun ν hR => ?_⟩
            · unfold Sf_set Sf_set_33 Sf_set_105 Sf_forget
              simp only [Nat.reduceAdd]
              rw [if_neg w2, if_pos trivial, hc0 μ y hR, cl_eq, if_neg (show ¬ (1 : Int32) = 0 by decide), within_eq, cl_eq, if_neg cv, if_neg (show ¬ (1 : Int32) = 0 by decide), show (0 : Int32) = nI 0 from nI_0.symm, fg_put hR.1.1 p 0 hp (by omega), cl_eq, pF_eq, cl_eq]
              exact ev_some ⟨rfl, set_c hy hR (figC_put hR.1.1 p 0 hp (by omega) v) (fun k a b => up2_ne b), inC_up (inC_up (inC_refl μ) (by omega)) (by omega)⟩
            · have hR1 := repM_t hR
              have hadd : (6 : Int32) + nI p = nI (6 + p) := nI_add 6 p
              unfold Mo_set Mo_set_62 Mo_set_73 Mo_set_112 Mo_set_116
              simp only [Nat.reduceAdd]
              rw [pF_eq, if_neg w2, isIn_eq, cl_eq, if_neg (show ¬ ((0 : Int32) < 0 ∨ (1 : Int32) < 0) by decide), if_neg (show ¬ (1 : Int32) = 0 by decide), mo_isPerson hR1.1.2.2.1, cl_eq, if_neg hpw, if_neg (show ¬ (1 : Int32) = 0 by decide), hm0 _ hR1, cl_eq, if_neg (show ¬ (1 : Int32) = 0 by decide), if_pos trivial, isIn_eq, cl_eq, if_neg cv, if_neg (show ¬ (1 : Int32) = 0 by decide), if_neg (show ¬ (1 : Int32) = 0 by decide), if_neg (by decide), if_pos trivial, hadd, stA_nI (by omega) (by omega), pF_eq]
              refine ev_some ⟨rfl, set_m hR1 ?_ (fun k hk => up2_ne hk), inM_up (inM_up (inM_up (inM_refl ν) (by omega)) (by omega)) (by omega)⟩
              rw [up2_row, hR1.2.1.1]
        · by_cases cv : v < 0 ∨ 9999 < v
          · refine no (fun μ y hR => ?_) (fun ν hR => ⟨_, ?_, rfl⟩)
            · unfold Sf_set Sf_set_33 Sf_set_67
              simp only [Nat.reduceAdd]
              rw [if_neg w2, if_neg (by decide), if_pos trivial, hc0 μ y hR, cl_eq, if_neg (show ¬ (1 : Int32) = 0 by decide), within_eq, cl_eq, if_pos cv, if_pos rfl]
            · have hR1 := repM_t hR
              unfold Mo_set Mo_set_62 Mo_set_72 Mo_set_73
              rw [pF_eq, if_neg w2, isIn_eq, cl_eq, if_neg (show ¬ ((1 : Int32) < 0 ∨ (1 : Int32) < 1) by decide), if_neg (show ¬ (1 : Int32) = 0 by decide), mo_isPerson hR1.1.2.2.1, cl_eq, if_neg hpw, if_neg (show ¬ (1 : Int32) = 0 by decide), hm0 _ hR1, cl_eq, if_neg (show ¬ (1 : Int32) = 0 by decide), if_neg (show ¬ (1 : Int32) = 0 by decide), isIn_eq, cl_eq, if_pos cv, if_pos rfl, if_pos rfl]
          · obtain ⟨s, _, hs, rfl⟩ := nI_rng (lo := 0) (n := 9999) (by omega) (by omega) (fun q => cv (Or.inl q)) (fun q => cv (Or.inr q))
            refine ⟨1, mvS z (upd (poN (zP z)).1 (6 + 16 * 1 + p) (nI s), (poN (zP z)).2) [], absOk_fig hA (nok_salt hA.1.1.1 hp hs (Or.inl al)) (by decide) (fun N hN => absurd hN List.not_mem_nil), fun μ y hy hR => ?_, fun ν hR => ?_⟩
            · unfold Sf_set Sf_set_33 Sf_set_67 Sf_set_105 Sf_forget
              simp only [Nat.reduceAdd]
              rw [if_neg w2, if_neg (by decide), if_pos trivial, hc0 μ y hR, cl_eq, if_neg (show ¬ (1 : Int32) = 0 by decide), within_eq, cl_eq, if_neg cv, if_neg (show ¬ (1 : Int32) = 0 by decide), show (1 : Int32) = nI 1 from rfl, fg_put hR.1.1 p 1 hp (by omega), cl_eq, pF_eq, cl_eq]
              exact ev_some ⟨rfl, set_c hy hR (figC_put hR.1.1 p 1 hp (by omega) _) (fun k a b => up2_ne b), inC_up (inC_up (inC_refl μ) (by omega)) (by omega)⟩
            · have hR1 := repM_t hR
              have hadd : (22 : Int32) + nI p = nI (22 + p) := nI_add 22 p
              unfold Mo_set Mo_set_62 Mo_set_73 Mo_set_112 Mo_set_116
              simp only [Nat.reduceAdd]
              rw [pF_eq, if_neg w2, isIn_eq, cl_eq, if_neg (show ¬ ((1 : Int32) < 0 ∨ (1 : Int32) < 1) by decide), if_neg (show ¬ (1 : Int32) = 0 by decide), mo_isPerson hR1.1.2.2.1, cl_eq, if_neg hpw, if_neg (show ¬ (1 : Int32) = 0 by decide), hm0 _ hR1, cl_eq, if_neg (show ¬ (1 : Int32) = 0 by decide), if_neg (show ¬ (1 : Int32) = 0 by decide), isIn_eq, cl_eq, if_neg cv, if_neg (show ¬ (1 : Int32) = 0 by decide), if_neg (show ¬ (1 : Int32) = 0 by decide), if_neg (by decide), if_neg (by decide), hadd, stA_nI (by omega) (by omega), pF_eq]
              refine ev_some ⟨rfl, set_m hR1 ?_ (fun k hk => up2_ne hk), inM_up (inM_up (inM_up (inM_refl ν) (by omega)) (by omega)) (by omega)⟩
              rw [up2_row, hR1.2.1.1]
      · refine no (fun μ y hR => ?_) (fun ν hR => ⟨_, ?_, rfl⟩)
        · have e : Fg_isAlive 2 (nI p) μ = some (0, μ) := by rw [fg_isAlive hR.1.1 hp, if_neg al]
          unfold Sf_set Sf_set_33 Sf_set_67
          simp only [Nat.reduceAdd]
          rw [if_neg w2]
          rcases cw with rfl | rfl
          · rw [if_pos rfl, e, cl_eq, if_pos rfl, if_neg (by decide)]
          · rw [if_neg (by decide), if_pos rfl, e, cl_eq, if_pos rfl]
        · have hR1 := repM_t hR
          unfold Mo_set Mo_set_72 Mo_set_73
          rw [pF_eq, if_neg w2, isIn_eq, cl_eq, if_neg (show ¬ (w < 0 ∨ 1 < w) by rcases cw with rfl | rfl <;> decide), if_neg (show ¬ (1 : Int32) = 0 by decide), mo_isPerson hR1.1.2.2.1, cl_eq, if_neg hpw, if_neg (show ¬ (1 : Int32) = 0 by decide), mo_isAlive hP hp, cl_eq, hR1.2.1.1, if_neg al, if_pos rfl, if_pos rfl]
  · refine no (fun μ y hR => ?_) (fun ν hR => ⟨_, ?_, rfl⟩)
    · have n0 : ¬ w = 0 := fun q => by rw [q] at cw; exact absurd cw (by decide)
      have n1 : ¬ w = 1 := fun q => by rw [q] at cw; exact absurd cw (by decide)
      unfold Sf_set Sf_set_33 Sf_set_67
      rw [if_neg w2, if_neg n0, if_neg n1]
    · unfold Mo_set Mo_set_72 Mo_set_73
      rw [pF_eq, if_neg w2, isIn_eq, cl_eq, if_pos cw, if_pos rfl, if_pos rfl]
