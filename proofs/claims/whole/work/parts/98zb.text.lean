/-! L3: TEXT, both -/
theorem isIn03 (k : Nat) (hk : k < 4) : ¬ (nI k < 0 ∨ (3 : Int32) < nI k) := by
  rintro (a | a)
  · exact nI_pos (by omega) a
  · exact nI_nlt (a := 3) (by omega) (by omega) a
theorem mt_bad {α : Type} {ν ν3 : Mu} {z : Zt} {e : Nat × Nat} {k : Int32} {x : ER (List α)} {p : List α → PoS} {U : List (Nat → Int32)} (hx : x = .error e) (hA : AbsOk z) (hR : RepM ν z) (h : FrZ ν ν3) (h27 : ν3 59 27 = nI e.1) (h28 : ν3 59 28 = nI e.2) : Ev (gF ν3 59 27 (fun x11 => pF ν3 59 29 x11 (fun μ12 => gF μ12 59 28 (fun x13 => pF μ12 59 30 x13 (fun μ14 => Mo_text_69 59 k (-1) μ14))))) (fun r ν' => r = ansX x ∧ RepM ν' (outX z x p U) ∧ InM ν ν') := by
  subst hx
  unfold Mo_text_69
  rw [gF_eq, h27, pF_eq, gF_eq, up2_off (Or.inr (by decide)), h28, pF_eq, pF_eq, if_pos rfl]
  have hF : FrZ ν (up2 (up2 (up2 ν3 59 29 (nI e.1)) 59 30 (nI e.2)) 59 9 0) := frz_up (frz_up (frz_up h (by decide)) (by decide)) (by decide)
  have b := repM_bad (F := nI e.1) (G := nI e.2) hA hR hF (up2_same _ _ _ _) (by rw [up2_off (Or.inr (by decide)), up2_off (Or.inr (by decide)), up2_same]) (by rw [up2_off (Or.inr (by decide)), up2_same])
  exact ev_some ⟨rfl, b.1, b.2⟩
theorem mt_law {ν : Mu} {z : Zt} (hA : AbsOk z) (hR : RepM ν z) : Ev (Mo_text 59 0 ν) (fun x ν' => x = ansX (lwS (tT z) (zB z).length 401 0 0) ∧ RepM ν' (outX z (lwS (tT z) (zB z).length 401 0 0) (pLaw (zP z)) (zU z)) ∧ InM ν ν') := by
  have hn := hA.2.2.2.1
  unfold Mo_text Mo_readsText
  rw [pF_eq, pF_eq, pF_eq, pF_eq, pF_eq, pF_eq, isIn_eq, cl_eq, if_neg (show ¬ ((0 : Int32) < 0 ∨ (3 : Int32) < 0) by decide), if_neg (show ¬ (1 : Int32) = 0 by decide), pF_eq]
  refine ev_cl (ev_cl (ev_mono (mt_open hA hR) (fun _ ν2 o => ?_)))
  obtain ⟨o1, o2, o3, o4, o5, o6, o7⟩ := o
  rw [if_neg (by decide), if_neg (by decide), if_neg (by decide)]
  have hread : Ev (Mo_readLaw 59 ν2) (fun r ν3 => LwM ν2 [] (lwS (tT z) (zB z).length 401 0 0) r ν3) := gm_law 401 0 FU [] [] ν2 (by omega) (by unfold FU; omega) ⟨frLM_refl _, o2, o3, McI_empty _ _ _, Nat.le_refl _, Nat.zero_le _⟩
  refine ev_cl (ev_mono hread (fun r ν3 g => ev_some ?_))
  cases hx : lwS (tT z) (zB z).length 401 0 0 with
  | error e =>
    rw [hx] at g
    obtain ⟨rfl, f1, f2, f3⟩ := g
    rw [if_pos rfl]
    exact mt_bad rfl hA hR (frz_LM o1 f1) f2 f3
  | ok L =>
    rw [hx] at g
    obtain ⟨rfl, f1, f2, sz, f3, f4, f5⟩ := g
    rw [List.nil_append] at f2 f5
    rw [List.nil_append]
    have hF := frz_LM o1 f1
    have ne : ¬ nI L.length = -1 := nI_n1 (by omega)
    unfold Mo_text_69
    rw [if_neg ne, pF_eq, if_neg ne, if_pos (by trivial)]
    have u : ∀ k, k ≠ 59 → (up2 ν3 59 9 0) k = ν3 k := fun k hk => up2_ne hk
    have hI : McI 32 800 (up2 ν3 59 9 0) L sz := mcI_move (fun r j hr _ => by rw [u r (fun z => by rw [z] at hr; exact absurd hr (by decide))]) (fun r j hr _ => by rw [u r (fun z => by rw [z] at hr; exact absurd hr (by decide))]) (Nat.le_refl _) f5
    have h22 : (up2 ν3 59 9 0) 59 22 = 0 := by rw [up2_off (Or.inr (by decide)), f1.2.2.2 22 (by decide)]; exact o4
    have h23 : (up2 ν3 59 9 0) 59 23 = nI sz := by rw [up2_off (Or.inr (by decide))]; exact f4
    refine ev_cl (ev_mono (m_takeLaw h22 h23 f3 f2 hI) (fun _ ν' w => ev_some ⟨rfl, ?_, fun k hk => ?_⟩))
    · have e59 : ν' 59 = (up2 ν3 59 9 0) 59 := w.2 59 (by decide)
      have f : ∀ j, j ≠ 9 → ν' 59 j = ν3 59 j := fun j hj => by rw [e59, up2_off (Or.inr hj)]
      have ro : ∀ k, k ∉ [59, 66, 67, 68, 69, 70, 71, 72] → ν' k = ν3 k := fun k hk => by
        rw [w.2 k (fun z => hk (by
          simp only [List.mem_cons, List.not_mem_nil, or_false] at z ⊢; omega)), u k (fun z => hk (by rw [z]; decide))]
      obtain ⟨p1, p2, p3, p4, p5, p6, p7, p8, p9⟩ := portM_pl hR.1 hA.1 (fun p hp => frz_pl hF hp)
      refine repM_txt hR hF (fun k hk => ro k (fun z => ?_)) (fun j hj => f j (fun z => by rw [z] at hj; exact absurd hj (by decide))) ⟨fun k hk => by rw [ro 60 (by decide)]; exact p1 k hk, fun k hk => by rw [ro 63 (by decide)]; exact p2 k hk, (f 6 (by decide)).trans p3, w.1, fun k hk => by rw [ro 77 (by decide)]; exact p5 k hk, weaM_of (f 34 (by decide)) (ro 76 (by decide)) p6, (f 31 (by decide)).trans p7, (f 36 (by decide)).trans p8, toldM_off (fun j hj => f j (fun z => by rw [z] at hj; exact absurd hj (by decide))) (fun k hk => ro k (fun z => ?_)) p9⟩ ?_ ?_ ?_ ?_ ?_ ?_ (fun i k a b => ?_)
      · simp only [List.mem_cons, List.not_mem_nil, or_false] at z hk; omega
      · simp only [List.mem_cons, List.not_mem_nil, or_false] at z hk; omega
      · rw [ro 60 (by decide), hF.1 60 (by decide)]; exact hR.2.1.1
      · rw [ro 63 (by decide), hF.1 63 (by decide)]; exact hR.2.1.2
      · rw [e59, up2_same]
      · rw [f 29 (by decide), f1.2.2.2 29 (by decide)]; exact o5
      · rw [f 30 (by decide), f1.2.2.2 30 (by decide)]; exact o6
      · rw [f 3 (by decide), hF.2.2.2.2.2 3 (by decide)]; exact hR.2.2.2.1
      · rw [ro 61 (by decide), hF.1 61 (by decide)]; exact hR.2.2.2.2.1 i k a b
    · rw [w.2 k (fun z => by
        simp only [List.mem_cons, List.not_mem_nil, or_false] at z; omega), up2_ne (by omega), frz_in hF k hk]
theorem mt_rows {α : Type} {RM : List α → Mu → Prop} {w : Nat} {ν2 : Mu} {z : Zt} {line : Nat → ER (α × Nat)} {body : (Int32 → Mu → Option (Int32 × Mu)) → Int32 → Mu → Option (Int32 × Mu)} {Lp : Nat → Int32 → Mu → Option (Int32 × Mu)} (hA : AbsOk z) (hL : ∀ f v ν, Lp (f + 1) v ν = cl (Mo_isWord 59 (nI (rwn w)) ν) (fun x2 μ1 => (if x2 = 0 then gF μ1 59 12 (fun x3 => (if x3 = 0 then some (v, μ1) else cl (Mo_errs 59 1 μ1) (fun x5 μ4 => some (x5, μ4)))) else (if v = 16 then cl (Mo_errs 59 3 μ1) (fun x9 μ8 => some (x9, μ8)) else body (Lp f) v μ1)))) (hw : 1 ≤ w ∧ w ≤ 24) (hb : LineM RM (tT z) (zB z).length (poP (zP z)) w line body) (hline : ∀ p q, p ≤ (zB z).length → line p = .ok q → p < q.2) (o2 : CoM (tT z) (zB z).length 0 [] ν2) (o7 : ν2 59 6 = nI (poP (zP z))) (hM : RM [] ν2) : Ev (Lp FU 0 ν2) (fun r ν3 => LxM RM ν2 [] (lnG (tT z) (zB z).length w line 401 0 0) r ν3) := by
  have hn := hA.2.2.2.1
  exact lm_loop hL hw hb hline 401 0 FU ([] : List α) ν2 ν2 (by omega) (by unfold FU; omega) (frX_refl _) o2 o7 (Nat.zero_le _) hM
theorem mt_wea {ν : Mu} {z : Zt} (hA : AbsOk z) (hR : RepM ν z) : Ev (Mo_text 59 2 ν) (fun x ν' => x = ansX (lnG (tT z) (zB z).length 19 (weL (tT z) (zB z).length (poP (zP z))) 401 0 0) ∧ RepM ν' (outX z (lnG (tT z) (zB z).length 19 (weL (tT z) (zB z).length (poP (zP z))) 401 0 0) (pWea (zP z)) []) ∧ InM ν ν') := by
  have hP := hA.1.1.1.1
  unfold Mo_text Mo_readsText
  rw [pF_eq, pF_eq, pF_eq, pF_eq, pF_eq, pF_eq, isIn_eq, cl_eq, if_neg (show ¬ ((2 : Int32) < 0 ∨ (3 : Int32) < 2) by decide), if_neg (show ¬ (1 : Int32) = 0 by decide), pF_eq]
  refine ev_cl (ev_cl (ev_mono (mt_open hA hR) (fun _ ν2 o => ?_)))
  obtain ⟨o1, o2, o3, o4, o5, o6, o7⟩ := o
  rw [if_neg (by decide), if_pos (by trivial)]
  have hread : Ev (Mo_readWeather 59 ν2) (fun r ν3 => LxM weM ν2 [] (lnG (tT z) (zB z).length 19 (weL (tT z) (zB z).length (poP (zP z))) 401 0 0) r ν3) := mt_rows (Lp := Mo_readWeather_2 59) hA (fun f v ν => rfl) (by decide) (lineM_weather hP) (fun p q hp h => (weL_ok hp h).1) o2 o7 (fun l hl => absurd hl (by show ¬ l < 0; omega))
  refine ev_cl (ev_mono hread (fun r ν3 g => ev_some ?_))
  cases hx : lnG (tT z) (zB z).length 19 (weL (tT z) (zB z).length (poP (zP z))) 401 0 0 with
  | error e =>
    rw [hx] at g
    obtain ⟨rfl, f1, f2, f3⟩ := g
    rw [if_pos rfl]
    exact mt_bad rfl hA hR (frz_X o1 f1) f2 f3
  | ok W =>
    rw [hx] at g
    obtain ⟨rfl, f1, f2, f3⟩ := g
    rw [List.nil_append] at f2 f3
    rw [List.nil_append]
    have hF := frz_X o1 f1
    have ne : ¬ nI W.length = -1 := nI_n1 (by omega)
    unfold Mo_text_69 Mo_takesOther
    rw [if_neg ne, pF_eq, if_neg ne, if_neg (by decide), if_neg (by decide), if_neg (by decide)]
    have hM : weM W (up2 ν3 59 9 0) := fun l hl => by rw [up2_ne (by decide)]; exact f3 l hl
    refine ev_cl (ev_mono (m_takeWea f2 hM) (fun _ ν' w => ev_some ⟨rfl, ?_, fun k hk => ?_⟩))
    · obtain ⟨w1, w2, w3, w4⟩ := w
      have f : ∀ j, j ≠ 3 → j ≠ 34 → j ≠ 9 → ν' 59 j = ν3 59 j := fun j a b c => by rw [w3 j a b, up2_off (Or.inr c)]
      have ro : ∀ k, k ≠ 59 → k ≠ 76 → ν' k = ν3 k := fun k a b => by rw [w4 k a b, up2_ne a]
      obtain ⟨p1, p2, p3, p4, p5, p6, p7, p8, p9⟩ := portM_pl hR.1 hA.1 (fun p hp => frz_pl hF hp)
      refine repM_txt hR hF (fun k hk => ro k (fun z => ?_) (fun z => ?_)) (fun j hj => f j (fun z => ?_) (fun z => ?_) (fun z => ?_)) ⟨fun k hk => by rw [ro 60 (by decide) (by decide)]; exact p1 k hk, fun k hk => by rw [ro 63 (by decide) (by decide)]; exact p2 k hk, (f 6 (by decide) (by decide) (by decide)).trans p3, lawM_off (fun k a b => ro k (by omega) (by omega)) p4, fun k hk => by rw [ro 77 (by decide) (by decide)]; exact p5 k hk, w1, (f 31 (by decide) (by decide) (by decide)).trans p7, (f 36 (by decide) (by decide) (by decide)).trans p8, toldM_off (fun j hj => f j (fun z => ?_) (fun z => ?_) (fun z => ?_)) (fun k hk => ro k (fun z => ?_) (fun z => ?_)) p9⟩ ?_ ?_ ?_ ?_ ?_ w2 (fun i k a => absurd a (by show ¬ i < 0; omega))
      all_goals first
        | (rw [z] at hk; exact absurd hk (by decide))
        | (rw [z] at hj; exact absurd hj (by decide))
        | skip
      · rw [ro 60 (by decide) (by decide), hF.1 60 (by decide)]; exact hR.2.1.1
      · rw [ro 63 (by decide) (by decide), hF.1 63 (by decide)]; exact hR.2.1.2
      · rw [w3 9 (by decide) (by decide), up2_same]
      · rw [f 29 (by decide) (by decide) (by decide), f1.2.2.2.2 29 (by decide)]; exact o5
      · rw [f 30 (by decide) (by decide) (by decide), f1.2.2.2.2 30 (by decide)]; exact o6
    · rw [w.2.2.2 k (by omega) (by omega), up2_ne (by omega), frz_in hF k hk]
theorem mt_heirs {ν : Mu} {z : Zt} (hA : AbsOk z) (hR : RepM ν z) : Ev (Mo_text 59 3 ν) (fun x ν' => x = ansX (lnG (tT z) (zB z).length 18 (heL (tT z) (zB z).length (poP (zP z))) 401 0 0) ∧ RepM ν' (outX z (lnG (tT z) (zB z).length 18 (heL (tT z) (zB z).length (poP (zP z))) 401 0 0) (pHei (zP z)) (zU z)) ∧ InM ν ν') := by
  have hP := hA.1.1.1.1
  unfold Mo_text Mo_readsText
  rw [pF_eq, pF_eq, pF_eq, pF_eq, pF_eq, pF_eq, isIn_eq, cl_eq, if_neg (show ¬ ((3 : Int32) < 0 ∨ (3 : Int32) < 3) by decide), if_neg (show ¬ (1 : Int32) = 0 by decide), pF_eq]
  refine ev_cl (ev_cl (ev_mono (mt_open hA hR) (fun _ ν1 o => ?_)))
  obtain ⟨o1', o2', o3', o4', o5', o6', o7'⟩ := o
  rw [if_neg (by decide), if_neg (by decide), if_pos (by trivial)]
  refine ev_cl (m_zeroHe (fun ν2 he hlo hoff => ?_))
  have o1 : FrZ ν ν2 := ⟨fun k hk => (hoff k (fun z => hk (by rw [z]; decide))).trans (o1'.1 k hk), fun k i hk hi => by rw [hoff k (fun z => by rw [z] at hk; exact absurd hk (by decide))]; exact o1'.2.1 k i hk hi, fun i hi => by rw [hoff 71 (by decide), hoff 72 (by decide)]; exact o1'.2.2.1 i hi, fun i hi => by rw [hoff 76 (by decide)]; exact o1'.2.2.2.1 i hi, fun i hi => (hlo i hi).trans (o1'.2.2.2.2.1 i hi), fun j hj => by rw [hoff 59 (by decide)]; exact o1'.2.2.2.2.2 j hj⟩
  have o2 : CoM (tT z) (zB z).length 0 [] ν2 := coM_of (fun j _ => by rw [hoff 59 (by decide)]) (fun j hj => hoff j (fun z => by rw [z] at hj; exact absurd hj (by decide))) o2'
  have o5 : ν2 59 29 = 0 := by rw [hoff 59 (by decide)]; exact o5'
  have o6 : ν2 59 30 = -1 := by rw [hoff 59 (by decide)]; exact o6'
  have o7 : ν2 59 6 = nI (poP (zP z)) := by rw [hoff 59 (by decide)]; exact o7'
  have hread : Ev (Mo_readHeirs_26 59 FU 0 ν2) (fun r ν3 => LxM heM ν2 [] (lnG (tT z) (zB z).length 18 (heL (tT z) (zB z).length (poP (zP z))) 401 0 0) r ν3) := mt_rows (Lp := Mo_readHeirs_26 59) hA (fun f v ν => rfl) (by decide) (lineM_heirs hP) (fun p q hp h => (heL_ok hp h).1) o2 o7 he
  refine ev_mono hread (fun r ν3 g => ev_some ?_)
  cases hx : lnG (tT z) (zB z).length 18 (heL (tT z) (zB z).length (poP (zP z))) 401 0 0 with
  | error e =>
    rw [hx] at g
    obtain ⟨rfl, f1, f2, f3⟩ := g
    rw [if_pos rfl]
    exact mt_bad rfl hA hR (frz_X o1 f1) f2 f3
  | ok R =>
    rw [hx] at g
    obtain ⟨rfl, f1, f2, f3⟩ := g
    rw [List.nil_append] at f2 f3
    rw [List.nil_append]
    have hF := frz_X o1 f1
    have ne : ¬ nI R.length = -1 := nI_n1 (by omega)
    unfold Mo_text_69 Mo_takesOther
    rw [if_neg ne, pF_eq, if_neg ne, if_neg (by decide), if_pos (by trivial)]
    have hM : heM R (up2 ν3 59 9 0) := fun l hl => by rw [up2_ne (by decide)]; exact f3 l hl
    refine ev_cl (ev_mono (m_takeHe hM) (fun _ ν' w => ev_some ⟨rfl, ?_, fun k hk => ?_⟩))
    · obtain ⟨w1, w2, w3, w4⟩ := w
      have f : ∀ j, j ≠ 36 → j ≠ 9 → ν' 59 j = ν3 59 j := fun j a c => by rw [w3 j a, up2_off (Or.inr c)]
      have ro : ∀ k, k ≠ 59 → k ≠ 77 → ν' k = ν3 k := fun k a b => by rw [w4 k a b, up2_ne a]
      obtain ⟨p1, p2, p3, p4, p5, p6, p7, p8, p9⟩ := portM_pl hR.1 hA.1 (fun p hp => frz_pl hF hp)
      refine repM_txt hR hF (fun k hk => ro k (fun z => ?_) (fun z => ?_)) (fun j hj => f j (fun z => ?_) (fun z => ?_)) ⟨fun k hk => by rw [ro 60 (by decide) (by decide)]; exact p1 k hk, fun k hk => by rw [ro 63 (by decide) (by decide)]; exact p2 k hk, (f 6 (by decide) (by decide)).trans p3, lawM_off (fun k a b => ro k (by omega) (by omega)) p4, w1, weaM_of (f 34 (by decide) (by decide)) (ro 76 (by decide) (by decide)) p6, (f 31 (by decide) (by decide)).trans p7, w2, toldM_off (fun j hj => f j (fun z => ?_) (fun z => ?_)) (fun k hk => ro k (fun z => ?_) (fun z => ?_)) p9⟩ ?_ ?_ ?_ ?_ ?_ ?_ (fun i k a b => ?_)
      all_goals first
        | (rw [z] at hk; exact absurd hk (by decide))
        | (rw [z] at hj; exact absurd hj (by decide))
        | skip
      · rw [ro 60 (by decide) (by decide), hF.1 60 (by decide)]; exact hR.2.1.1
      · rw [ro 63 (by decide) (by decide), hF.1 63 (by decide)]; exact hR.2.1.2
      · rw [w3 9 (by decide), up2_same]
      · rw [f 29 (by decide) (by decide), f1.2.2.2.2 29 (by decide)]; exact o5
      · rw [f 30 (by decide) (by decide), f1.2.2.2.2 30 (by decide)]; exact o6
      · rw [f 3 (by decide) (by decide), hF.2.2.2.2.2 3 (by decide)]; exact hR.2.2.2.1
      · rw [ro 61 (by decide) (by decide), hF.1 61 (by decide)]; exact hR.2.2.2.2.1 i k a b
    · rw [w.2.2.2 k (by omega) (by omega), up2_ne (by omega), frz_in hF k hk]
theorem mt_table {ν : Mu} {z : Zt} (hA : AbsOk z) (hR : RepM ν z) : Ev (Mo_text 59 1 ν) (fun x ν' => x = ansX (lnG (tT z) (zB z).length 13 (tbL (tT z) (zB z).length (poP (zP z))) 401 0 0) ∧ RepM ν' (outX z (lnG (tT z) (zB z).length 13 (tbL (tT z) (zB z).length (poP (zP z))) 401 0 0) (pTab (zP z)) []) ∧ InM ν ν') := by
  have hP := hA.1.1.1.1
  unfold Mo_text Mo_readsText
  rw [pF_eq, pF_eq, pF_eq, pF_eq, pF_eq, pF_eq, isIn_eq, cl_eq, if_neg (show ¬ ((1 : Int32) < 0 ∨ (3 : Int32) < 1) by decide), if_neg (show ¬ (1 : Int32) = 0 by decide), pF_eq]
  refine ev_cl (ev_cl (ev_mono (mt_open hA hR) (fun _ ν2 o => ?_)))
  obtain ⟨o1, o2, o3, o4, o5, o6, o7⟩ := o
  rw [if_pos (by trivial)]
  have hread : Ev (Mo_readTable 59 ν2) (fun r ν3 => LxM tbM ν2 [] (lnG (tT z) (zB z).length 13 (tbL (tT z) (zB z).length (poP (zP z))) 401 0 0) r ν3) := mt_rows (Lp := Mo_readTable_2 59) hA (fun f v ν => rfl) (by decide) (lineM_table hP) (fun p q hp h => tbL_gt hp h) o2 o7 (fun l hl => absurd hl (by show ¬ l < 0; omega))
  refine ev_cl (ev_mono hread (fun r ν3 g => ev_some ?_))
  cases hx : lnG (tT z) (zB z).length 13 (tbL (tT z) (zB z).length (poP (zP z))) 401 0 0 with
  | error e =>
    rw [hx] at g
    obtain ⟨rfl, f1, f2, f3⟩ := g
    rw [if_pos rfl]
    exact mt_bad rfl hA hR (frz_X o1 f1) f2 f3
  | ok R =>
    rw [hx] at g
    obtain ⟨rfl, f1, f2, f3⟩ := g
    rw [List.nil_append] at f2 f3
    rw [List.nil_append]
    have hRo := tb_S hx
    have hF := frz_X o1 f1
    have ne : ¬ nI R.length = -1 := nI_n1 (by omega)
    unfold Mo_text_69 Mo_takesOther Mo_takesOther_88
    rw [if_neg ne, pF_eq, if_neg ne, if_neg (by decide), if_neg (by decide), if_pos (by trivial)]
    have hM : tbM R (up2 ν3 59 9 0) := fun l hl => by rw [up2_ne (by decide), up2_ne (by decide)]; exact f3 l hl
    have h6 : (up2 ν3 59 9 0) 59 6 = nI (poP (zP z)) := by rw [up2_off (Or.inr (by decide)), f1.2.2.2.2 6 (by decide)]; exact o7
    have h60 : (up2 ν3 59 9 0) 60 = (poN (zP z)).1 := by rw [up2_ne (by decide), hF.1 60 (by decide)]; exact hR.2.1.1
    refine ev_cl (ev_cl (ev_mono (mo_seats h6 hP h60 hA.1.1.1 f2 hRo.2 hM) (fun _ ν4 w => ?_)))
    rw [pF_eq]
    refine ev_some (ev_some ⟨rfl, ?_, fun k hk => ?_⟩)
    · obtain ⟨w1, w2, w3, w4⟩ := w
      have f : ∀ j, j ≠ 3 → j ≠ 31 → j ≠ 9 → (up2 ν4 59 3 0) 59 j = ν3 59 j := fun j a b c => by rw [up2_off (Or.inr a), w3 j b, up2_off (Or.inr c)]
      have ro : ∀ k, k ≠ 59 → k ≠ 60 → (up2 ν4 59 3 0) k = ν3 k := fun k a b => by rw [up2_ne a, w4 k a b, up2_ne a]
      have e60 : (up2 ν4 59 3 0) 60 = seatsN (poP (zP z)) (risN (poN (zP z)).1 (poP (zP z))) R := by rw [up2_ne (by decide)]; exact w1
      have e31 : (up2 ν4 59 3 0) 59 31 = nI R.length := by rw [up2_off (Or.inr (by decide))]; exact w2
      have e3 : (up2 ν4 59 3 0) 59 3 = 0 := up2_same _ _ _ _
      have e9 : (up2 ν4 59 3 0) 59 9 = 0 := by rw [up2_off (Or.inr (by decide)), w3 9 (by decide), up2_same]
      generalize up2 ν4 59 3 0 = m at f ro e60 e31 e3 e9
      obtain ⟨p1, p2, p3, p4, p5, p6, p7, p8, p9⟩ := portM_pl hR.1 hA.1 (fun p hp => frz_pl hF hp)
      refine repM_txt hR hF (fun k hk => ro k (fun z => ?_) (fun z => ?_)) (fun j hj => f j (fun z => ?_) (fun z => ?_) (fun z => ?_)) ⟨fun k hk => by rw [e60]; rfl, fun k hk => by rw [ro 63 (by decide) (by decide)]; exact p2 k hk, (f 6 (by decide) (by decide) (by decide)).trans p3, lawM_off (fun k a b => ro k (by omega) (by omega)) p4, fun k hk => by rw [ro 77 (by decide) (by decide)]; exact p5 k hk, weaM_of (f 34 (by decide) (by decide) (by decide)) (ro 76 (by decide) (by decide)) p6, e31, (f 36 (by decide) (by decide) (by decide)).trans p8, toldM_off (fun j hj => f j (fun z => ?_) (fun z => ?_) (fun z => ?_)) (fun k hk => ro k (fun z => ?_) (fun z => ?_)) p9⟩ e60 ?_ e9 ?_ ?_ e3 (fun i k a => absurd a (by show ¬ i < 0; omega))
      all_goals first
        | (rw [z] at hk; exact absurd hk (by decide))
        | (rw [z] at hj; exact absurd hj (by decide))
        | skip
      · rw [ro 63 (by decide) (by decide), hF.1 63 (by decide)]; exact hR.2.1.2
      · rw [f 29 (by decide) (by decide) (by decide), f1.2.2.2.2 29 (by decide)]; exact o5
      · rw [f 30 (by decide) (by decide) (by decide), f1.2.2.2.2 30 (by decide)]; exact o6
    · rw [up2_ne (by omega), w.2.2.2 k (by omega) (by omega), up2_ne (by omega), frz_in hF k hk]
theorem mt_none {ν : Mu} {z : Zt} {k : Int32} (hA : AbsOk z) (hR : RepM ν z) (hk : k < 0 ∨ 3 < k) : Ev (Mo_text 59 k ν) (fun x ν' => x = -1 ∧ RepM ν' (zX z (zP z) (zU z) 0 (-1)) ∧ InM ν ν') := by
  unfold Mo_text Mo_text_69
  rw [pF_eq, pF_eq, pF_eq, pF_eq, pF_eq, pF_eq, isIn_eq, cl_eq, if_pos hk, if_pos rfl, pF_eq, if_pos rfl]
  have hF : FrZ ν (up2 (up2 (up2 (up2 (up2 (up2 (up2 ν 59 0 0) 59 29 0) 59 30 (-1)) 59 10 0) 59 23 0) 59 24 0) 59 9 0) := frz_up (frz_up (frz_up (frz_up (frz_up (frz_up (frz_up (frz_refl ν) (by decide)) (by decide)) (by decide)) (by decide)) (by decide)) (by decide)) (by decide)
  have b := repM_bad (F := 0) (G := -1) hA hR hF (up2_same _ _ _ _) (by rw [up2_off (Or.inr (by decide)), up2_off (Or.inr (by decide)), up2_off (Or.inr (by decide)), up2_off (Or.inr (by decide)), up2_off (Or.inr (by decide)), up2_same]) (by rw [up2_off (Or.inr (by decide)), up2_off (Or.inr (by decide)), up2_off (Or.inr (by decide)), up2_off (Or.inr (by decide)), up2_same])
  exact ev_some ⟨rfl, b.1, b.2⟩
theorem absOk_X {z : Zt} {p : PoS} {U : List (Nat → Int32)} {F G : Int32} (hA : AbsOk z) (hp : PortOk p) (hl : U.length ≤ 6) (hU : ∀ N, N ∈ U → NOk (poP p) N) : AbsOk (zX z p U F G) := ⟨hp, hl, hU, Nat.zero_le _, fun b hb => absurd hb List.not_mem_nil, hA.2.2.2.2.2⟩
theorem sn_text (k : Int32) : StepN (Sf_text 0 k) (Mo_text 59 k) := by
  refine stepN_of (fun z hA => ?_)
  have hP := hA.1.1.1.1
  by_cases hk : k < 0 ∨ 3 < k
  · have hne : ∀ j, j < 4 → ¬ k = nI j := fun j hj e => by
      rw [e] at hk
      exact isIn03 j hj hk
    exact ⟨-1, zX z (zP z) (zU z) 0 (-1), absOk_X hA hA.1 hA.2.1 hA.2.2.1, fun μ y hy hR => ct_none hy hA hR (hne 0 (by omega)) (hne 1 (by omega)) (hne 2 (by omega)) (hne 3 (by omega)), fun ν hR => mt_none hA hR hk⟩
  obtain ⟨j, _, hj, rfl⟩ := nI_rng (lo := 0) (n := 3) (by omega) (by omega) (fun q => hk (Or.inl q)) (fun q => hk (Or.inr q))
  rcases (show j = 0 ∨ j = 1 ∨ j = 2 ∨ j = 3 by omega) with rfl | rfl | rfl | rfl
  · refine ⟨_, _, ?_, fun μ y hy hR => ct_law hy hA hR, fun ν hR => mt_law hA hR⟩
    cases hx : lwS (tT z) (zB z).length 401 0 0 with
    | error e => exact absOk_X hA hA.1 hA.2.1 hA.2.2.1
    | ok L => exact absOk_X hA ⟨⟨hA.1.1.1, lwOk_S hx, hA.1.1.2.2⟩, hA.1.2⟩ hA.2.1 hA.2.2.1
  · refine ⟨_, _, ?_, fun μ y hy hR => ct_table hy hA hR, fun ν hR => mt_table hA hR⟩
    cases hx : lnG (tT z) (zB z).length 13 (tbL (tT z) (zB z).length (poP (zP z))) 401 0 0 with
    | error e => exact absOk_X hA hA.1 hA.2.1 hA.2.2.1
    | ok R => exact absOk_X hA ⟨⟨nok_seats (nok_ris hA.1.1.1 _) (tb_S hx).2, hA.1.1.2⟩, hA.1.2⟩ (Nat.zero_le _) (fun N hN => absurd hN List.not_mem_nil)
  · refine ⟨_, _, ?_, fun μ y hy hR => ct_wea hy hA hR, fun ν hR => mt_wea hA hR⟩
    cases hx : lnG (tT z) (zB z).length 19 (weL (tT z) (zB z).length (poP (zP z))) 401 0 0 with
    | error e => exact absOk_X hA hA.1 hA.2.1 hA.2.2.1
    | ok W => exact absOk_X hA ⟨hA.1.1, wok_S hP hx, hA.1.2.2⟩ (Nat.zero_le _) (fun N hN => absurd hN List.not_mem_nil)
  · refine ⟨_, _, ?_, fun μ y hy hR => ct_heirs hy hA hR, fun ν hR => mt_heirs hA hR⟩
    cases hx : lnG (tT z) (zB z).length 18 (heL (tT z) (zB z).length (poP (zP z))) 401 0 0 with
    | error e => exact absOk_X hA hA.1 hA.2.1 hA.2.2.1
    | ok R => exact absOk_X hA ⟨⟨hA.1.1.1, hA.1.1.2.1, hok_S (he_S hx).2⟩, hA.1.2⟩ hA.2.1 hA.2.2.1
