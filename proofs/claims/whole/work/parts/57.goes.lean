/-! L3: A DAY'S PROGRAMS, both sides -/
theorem c_happens {P c : Nat} {th : Int32} {μ : Mu} {S : St} (h : FigC P c th μ S.1) (v : Int32) : Ev (Dy_happens c v μ) (fun r μ' => r = (if (hapS th S v).2 then 1 else 0) ∧ FigC P c th μ' (hapS th S v).1.1 ∧ (hapS th S v).1.2 = S.2 ∧ Off [c] μ μ') := by
  unfold Dy_happens hapS
  rw [gF_eq, h.2.1]
  by_cases c0 : th = 0
  · rw [if_pos c0, if_pos c0]
    by_cases c1 : v ≤ 0
    · rw [if_pos c1, if_pos c1]
      exact ev_some ⟨rfl, h, rfl, off_refl _ _⟩
    · rw [if_neg c1, if_neg c1]
      unfold Fg_draw
      rw [gF_eq, pF_eq, if_neg (by decide), gF_eq, nz_eq (by decide), up2_same, cl_eq, show μ c 8 = S.1 1 from h.2.2.2.1 8 (by omega) (by omega)]
      have f1 : FigC P c th (up2 μ c 8 (drawV (S.1 1))) (upd S.1 1 (drawV (S.1 1))) := figC_sc h 8 (by omega) (by omega) _
      have o1 : Off [c] μ (up2 μ c 8 (drawV (S.1 1))) := off_up List.mem_cons_self
      by_cases c2 : v ≤ jrem (jushr (drawV (S.1 1)) 8) 1000
      · rw [if_pos (show v ≤ jrem (jushr (1664525 * S.1 1 + 1013904223) 8) 1000 from c2)]
        refine ev_some ⟨?_, f1, rfl, o1⟩
        show (0 : Int32) = if decide (¬ v ≤ jrem (jushr (drawV (S.1 1)) 8) 1000) = true then 1 else 0
        rw [decide_eq_false (not_not_intro c2), if_neg (by decide)]
      · rw [if_neg (show ¬ v ≤ jrem (jushr (1664525 * S.1 1 + 1013904223) 8) 1000 from c2)]
        refine ev_some ⟨?_, f1, rfl, o1⟩
        show (1 : Int32) = if decide (¬ v ≤ jrem (jushr (drawV (S.1 1)) 8) 1000) = true then 1 else 0
        rw [decide_eq_true c2, if_pos rfl]
  · rw [if_neg c0, if_neg c0]
    by_cases c1 : v < 500
    · rw [if_pos c1]
      refine ev_some ⟨?_, h, rfl, off_refl _ _⟩
      show (0 : Int32) = if decide (¬ v < 500) = true then 1 else 0
      rw [decide_eq_false (not_not_intro c1), if_neg (by decide)]
    · rw [if_neg c1]
      refine ev_some ⟨?_, h, rfl, off_refl _ _⟩
      show (1 : Int32) = if decide (¬ v < 500) = true then 1 else 0
      rw [decide_eq_true c1, if_pos rfl]
theorem m_happens {th : Int32} {μ : Mu} {S : St} (h60 : μ 60 = S.1) (h5 : μ 59 5 = th) {k : Nat} (hk : k ≤ 1000) : Ev (Mo_happens 59 (nI k) μ) (fun r μ' => r = (if (hapS th S (nI k)).2 then 1 else 0) ∧ μ' 60 = (hapS th S (nI k)).1.1 ∧ (hapS th S (nI k)).1.2 = S.2 ∧ Off [60] μ μ') := by
  unfold Mo_happens hapS
  rw [gF_eq, h5]
  by_cases c0 : th = 0
  · rw [if_pos c0, if_pos c0]
    by_cases c1 : nI k ≤ 0
    · rw [if_pos c1, if_pos c1]
      exact ev_some ⟨rfl, h60, rfl, off_refl _ _⟩
    · rw [if_neg c1, if_neg c1]
      have hdr : Mo_draw 59 1000 μ = some (jrem (jushr (drawV (S.1 1)) 8) 1000, up2 μ 60 1 (drawV (S.1 1))) := by
        rw [← h60]
        unfold Mo_draw drawV
        rw [ldA_li (by omega) (by omega), stA_li (by omega) (by omega), ldA_li (by omega) (by omega), up2_same]
        rfl
      rw [hdr, cl_eq]
      have f1 : (up2 μ 60 1 (drawV (S.1 1))) 60 = upd S.1 1 (drawV (S.1 1)) := by rw [up2_row, h60]
      have o1 : Off [60] μ (up2 μ 60 1 (drawV (S.1 1))) := off_up List.mem_cons_self
      by_cases c2 : nI k ≤ jrem (jushr (drawV (S.1 1)) 8) 1000
      · rw [if_pos c2]
        refine ev_some ⟨?_, f1, rfl, o1⟩
        show (0 : Int32) = if decide (¬ nI k ≤ jrem (jushr (drawV (S.1 1)) 8) 1000) = true then 1 else 0
        rw [decide_eq_false (not_not_intro c2), if_neg (by decide)]
      · rw [if_neg c2]
        refine ev_some ⟨?_, f1, rfl, o1⟩
        show (1 : Int32) = if decide (¬ nI k ≤ jrem (jushr (drawV (S.1 1)) 8) 1000) = true then 1 else 0
        rw [decide_eq_true c2, if_pos rfl]
  · rw [if_neg c0, if_neg c0]
    have e2 : (2 : Int32) * nI k = nI (2 * k) := pk_mul 2 k
    rw [e2]
    by_cases c1 : k < 500
    · rw [if_pos (show nI (2 * k) < 1000 from nI_lt (b := 1000) (by omega) (by omega))]
      refine ev_some ⟨?_, h60, rfl, off_refl _ _⟩
      show (0 : Int32) = if decide (¬ nI k < 500) = true then 1 else 0
      rw [decide_eq_false (not_not_intro (show nI k < 500 from nI_lt (b := 500) c1 (by omega))), if_neg (by decide)]
    · rw [if_neg (show ¬ nI (2 * k) < 1000 from nI_nlt (b := 1000) (by omega) (by omega))]
      refine ev_some ⟨?_, h60, rfl, off_refl _ _⟩
      show (1 : Int32) = if decide (¬ nI k < 500) = true then 1 else 0
      rw [decide_eq_true (show ¬ nI k < 500 from nI_nlt (b := 500) (by omega) (by omega)), if_pos rfl]
theorem c_wAt {μ : Mu} {k j : Nat} (hk : k < 16) (hj : j < 4) : Tx_weatherAt 6 (nI k) (nI j) μ = some (μ 14 (4 * k + j), μ) := by
  unfold Tx_weatherAt
  have e : nI k * 4 + nI j = nI (4 * k + j) := by rw [show (4 : Int32) = nI 4 from rfl, pk_mul, nI_add]; congr 1; omega
  simp only [Nat.reduceAdd]
  rw [e, if_neg (nI_pos (by omega)), if_neg (by rw [show (64 : Int32) = nI 64 from rfl]; exact nI_ge (by omega) (by omega)), ldA_nI (by omega) (by omega)]
theorem weaC_off {c : Nat} {μ μ' : Mu} {W : List WLn} (hc : c = 2 ∨ c = 42) (hO : Off (CR c) μ μ') (h : WeaC μ W) : WeaC μ' W := by
  unfold WeaC at *
  rw [hO 17 (by simp [CR]; omega), hO 14 (by simp [CR]; omega)]; exact h
theorem weaM_off {μ μ' : Mu} {W : List WLn} (hO : Off RD μ μ') (h : WeaM μ W) : WeaM μ' W := by
  unfold WeaM at *
  rw [hO 59 (by simp [RD]), hO 76 (by simp [RD])]; exact h
theorem c_die2 {P c : Nat} {th : Int32} {μ : Mu} {S : St} {L : LawL} {H : Nat → Int32} (h : CtxC P c th μ S L H) (hs : SpOk P S.1 L H) {p : Nat} (hp : p < P) : Ev (Dy_die 39 1 c (nI p) μ) (fun _ μ' => CtxC P c th μ' (if S.1 (86 + p) = 0 then dieS th H S p else S) L H ∧ Off (CR c) μ μ') := by
  by_cases z : S.1 (86 + p) = 0
  · rw [if_pos z]
    exact ev_mono (c_die h hs hp z) (fun _ _ q => ⟨q.1, q.2.2⟩)
  · rw [if_neg z]
    unfold Dy_die
    rw [fg_isAlive h.1 hp, if_neg z, cl_eq, if_pos rfl]
    exact ev_some ⟨h, off_refl _ _⟩
set_option maxHeartbeats 1000000 in
theorem c_weather {P c : Nat} {th : Int32} {μ : Mu} {S : St} {L : LawL} {H : Nat → Int32} {W : List WLn} (h : CtxC P c th μ S L H) (hs : SpOk P S.1 L H) (hW : WOk P W) (hWC : WeaC μ W) : Ev (Dy_weather 39 1 c μ) (fun r μ' => r = nI (weaF P th L H W S W.length).2 ∧ CtxC P c th μ' (weaF P th L H W S W.length).1 L H ∧ Off (CR c) μ μ') := by
  have hP := hs.1.1
  have hc := h.2.2.2.2
  have hl := hW.1
  suffices K : ∀ μ1, CtxC P c th μ1 (weaF P th L H W S 0).1 L H → Off (CR c) μ μ1 → Ev (Dy_weather_4 39 1 c FU (nI (weaF P th L H W S 0).2) (nI 0) μ1) (fun r μ' => r = nI (weaF P th L H W S W.length).2 ∧ CtxC P c th μ' (weaF P th L H W S W.length).1 L H ∧ Off (CR c) μ μ') from K μ h (off_refl _ _)
  unfold Dy_weather_4
  refine lp_fu (F := fun kb => Dy_weather_4b 39 1 c kb) (z := fun _ _ _ => none) W.length (fun k A => ∀ μ1, CtxC P c th μ1 (weaF P th L H W S k).1 L H → Off (CR c) μ μ1 → Ev (A (nI (weaF P th L H W S k).2) (nI k) μ1) (fun r μ' => r = nI (weaF P th L H W S W.length).2 ∧ CtxC P c th μ' (weaF P th L H W S W.length).1 L H ∧ Off (CR c) μ μ')) (by omega) ?_ ?_ 0 (by omega)
  · intro A μ1 h1 hO
    show Ev (Dy_weather_4b 39 1 c A _ (nI W.length) μ1) _
    unfold Dy_weather_4b Tx_linesOf
    simp only [Nat.reduceAdd]
    rw [if_neg (by decide), if_neg (by decide), ldA_li (by omega) (by omega), cl_eq, (weaC_off hc hO hWC).1, if_pos (nI_le (Nat.le_refl _) (by omega))]
    exact ev_some ⟨rfl, h1, hO⟩
  · intro k A hk ih μ1 h1 hO
    show Ev (Dy_weather_4b 39 1 c A _ (nI k) μ1) _
    have e : weaF P th L H W S (k + 1) = if (weaF P th L H W S k).1.1 0 = nI (W.getD k w0).1 then ((comesS P th L H (W.getD k w0) (weaF P th L H W S k).1).1, (weaF P th L H W S k).2 + (comesS P th L H (W.getD k w0) (weaF P th L H W S k).1).2) else weaF P th L H W S k := rfl
    obtain ⟨g1, g2, g3, g4⟩ := (weaC_off hc hO hWC).2 k hk
    obtain ⟨a1, a2, a3, a4, a5, a6⟩ := hW.2 k hk
    have hsp := sp_wea (th := th) hs hW k (by omega)
    generalize W.getD k w0 = w at e g1 g2 g3 g4 a1 a2 a3 a4 a5 a6
    rw [e] at ih
    unfold Dy_weather_4b Tx_linesOf Dy_weather_197
    simp only [Nat.reduceAdd]
    rw [if_neg (by decide), if_neg (by decide), ldA_li (by omega) (by omega), cl_eq, (weaC_off hc hO hWC).1, if_neg (nI_ge hk (by omega)), show Tx_weatherAt 6 (nI k) 0 μ1 = _ from c_wAt (j := 0) (by omega) (by omega), cl_eq, gF_eq, show μ1 c 7 = (weaF P th L H W S k).1.1 0 from h1.1.2.2.2.1 7 (by omega) (by omega), show μ1 14 (4 * k + 0) = nI w.1 from g1, nI_1]
    by_cases z : (weaF P th L H W S k).1.1 0 = nI w.1
    · rw [if_pos z.symm]
      rw [if_pos z] at ih
      rw [show Tx_weatherAt 6 (nI k) 2 μ1 = _ from c_wAt (j := 2) (by omega) (by omega), cl_eq, show Tx_weatherAt 6 (nI k) 3 μ1 = _ from c_wAt (j := 3) (by omega) (by omega), cl_eq, show Tx_weatherAt 6 (nI k) 1 μ1 = _ from c_wAt (j := 1) (by omega) (by omega), cl_eq, g2, g3, g4]
      unfold comesS at ih
      rcases (show w.2.1 = 0 ∨ w.2.1 = 1 ∨ w.2.1 = 2 ∨ w.2.1 = 3 ∨ w.2.1 = 4 by omega) with y | y | y | y | y
      · rw [y] at ih ⊢
        rw [if_pos rfl] at ih
        rw [if_pos (by decide), if_pos (by omega), pF_eq]
        have o2 : Off (CR c) μ1 (up2 μ1 c 4 (nI w.2.2.1)) := off_up (by simp [CR])
        exact ih _ (ctxC_of h1 (figC_sc h1.1 4 (by omega) (by omega) _) (fun j hj => by rw [up2_ne (by omega)]; exact h1.2.1 j hj) o2) (off_trans hO o2)
      · rw [y] at ih ⊢
        rw [if_neg (by omega), if_pos rfl] at ih
        rw [show nI (kT 1) = 20 from rfl, if_neg (by decide), if_neg (by decide), if_neg (by decide), if_neg (by decide), if_neg (by decide), if_neg (by decide), if_pos rfl, if_pos (by omega)]
        refine ev_cl (ev_mono (c_cattle h1 hsp (by omega)) ?_)
        rintro _ μ2 ⟨q1, q2, q3⟩
        exact ih μ2 q1 (off_trans hO q3)
      · rw [y] at ih ⊢
        rw [if_neg (by omega), if_neg (by omega), if_pos rfl] at ih
        rw [show nI (kT 2) = 21 from rfl, if_neg (by decide), if_neg (by decide), if_neg (by decide), if_neg (by decide), if_neg (by decide), if_neg (by decide), if_neg (by decide), if_pos rfl]
        refine c_feast h1 hsp A (nI k) (weaF P th L H W S k).2 _ ?_
        intro μ2 q1 q2 q3
        rw [nI_1]
        exact ih μ2 q1 (off_trans hO q3)
      · rw [y] at ih ⊢
        rw [if_neg (by omega), if_neg (by omega), if_neg (by omega), if_pos rfl] at ih
        rw [show nI (kT 3) = 22 from rfl, if_neg (by decide), if_neg (by decide), if_neg (by decide), if_neg (by decide), if_neg (by decide), if_neg (by decide), if_neg (by decide), if_neg (by decide), if_pos rfl, if_pos (by omega), if_neg (by omega), if_pos rfl]
        have hp := a5 y
        rw [show Fg_put c (nI w.2.2.1) 0 (nI w.2.2.2) μ1 = _ from fg_put h1.1 w.2.2.1 0 hp (by omega) _, cl_eq]
        have o2 : Off (CR c) μ1 (up2 μ1 (c + 1) (7 * w.2.2.1 + 0) (nI w.2.2.2)) := off_up (by simp [CR])
        have f2 := figC_put h1.1 w.2.2.1 0 hp (by omega) (nI w.2.2.2)
        rw [show 6 + 16 * 0 + w.2.2.1 = 6 + w.2.2.1 by omega] at f2
        exact ih _ (ctxC_of h1 f2 (fun j hj => by rw [up2_ne (by omega)]; exact h1.2.1 j hj) o2) (off_trans hO o2)
      · rw [y] at ih ⊢
        rw [if_neg (by omega), if_neg (by omega), if_neg (by omega), if_neg (by omega)] at ih
        rw [show nI (kT 4) = 23 from rfl, if_neg (by decide), if_neg (by decide), if_neg (by decide), if_neg (by decide), if_neg (by decide), if_neg (by decide), if_neg (by decide), if_neg (by decide), if_neg (by decide), if_pos (by omega)]
        have hp := a6 y
        refine ev_cl (ev_mono (c_die2 h1 hsp hp) ?_)
        rintro _ μ2 ⟨q1, q3⟩
        by_cases x : (weaF P th L H W S k).1.1 (86 + w.2.2.1) = 0
        · rw [if_pos x] at ih q1
          exact ih μ2 q1 (off_trans hO q3)
        · rw [if_neg x] at ih q1
          exact ih μ2 q1 (off_trans hO q3)
    · rw [if_neg (fun q => z q.symm)]
      rw [if_neg z] at ih
      exact ih μ1 h1 hO
theorem m_comes {P : Nat} {th : Int32} {μ : Mu} {S : St} {L : LawL} {H : Nat → Int32} {w : WLn} {k : Nat} (h : CtxM P th μ S L H) (hs : SpOk P S.1 L H) (hk : k < 16) (g2 : μ 76 (4 * k + 1) = nI w.2.1) (g3 : μ 76 (4 * k + 2) = nI w.2.2.1) (g4 : μ 76 (4 * k + 3) = nI w.2.2.2) (a2 : w.2.1 ≤ 4) (a3 : w.2.2.1 ≤ 999) (a5 : w.2.1 = 3 → w.2.2.1 < P) (a6 : w.2.1 = 4 → w.2.2.1 < P) : Ev (Mo_comes 59 (nI (4 * k)) μ) (fun r μ' => r = nI (comesS P th L H w S).2 ∧ CtxM P th μ' (comesS P th L H w S).1 L H ∧ Off RD μ μ') := by
  have hP := hs.1.1
  unfold Mo_comes
  simp (disch := omega) only [Nat.reduceAdd, add_li, ldA_nI]
  rw [g2, g3]
  unfold comesS
  have kne : ∀ a b : Nat, a < 2 ^ 31 → b < 2 ^ 31 → a ≠ b → ¬ nI a = nI b := fun a b ha hb hab z => hab ((nI_eq ha hb).mp z)
  rcases (show w.2.1 = 0 ∨ w.2.1 = 1 ∨ w.2.1 = 2 ∨ w.2.1 = 3 ∨ w.2.1 = 4 by omega) with y | y | y | y | y
  · rw [y, if_pos (by decide), if_pos rfl]
    rw [stA_li (by omega) (by omega)]
    unfold Mo_comes_29 Mo_comes_51 Mo_comes_69 Mo_comes_79
    rw [if_neg (by decide), if_neg (by decide), if_neg (by decide), if_neg (by decide)]
    exact ev_some ⟨rfl, ctxM_of h (by show up2 μ 60 3 _ 60 = _; rw [up2_row, h.1]) (by rw [up2_ne (by omega)]; exact h.2.1) (off_up (by simp [RD])), off_up (by simp [RD])⟩
  · rw [y, if_neg (by decide), if_neg (by omega), if_pos rfl]
    unfold Mo_comes_29 Mo_comes_51 Mo_comes_69
    rw [if_neg (by decide), if_neg (by decide), if_pos (by decide)]
    refine ev_cl (ev_mono (m_cattle h hs (n := w.2.2.1) (by omega)) ?_)
    rintro _ μ2 ⟨q1, q3⟩
    unfold Mo_comes_79
    rw [if_neg (by decide)]
    exact ev_some ⟨rfl, q1, q3⟩
  · rw [y, if_neg (by decide), if_neg (by omega), if_neg (by omega), if_pos rfl]
    unfold Mo_comes_29 Mo_comes_51 Mo_comes_69 Mo_comes_79
    rw [if_neg (by decide), if_neg (by decide), if_neg (by decide), if_pos (by decide)]
    refine ev_cl (ev_mono (m_feast h hs (sp_feast hs)) ?_)
    rintro r μ2 hq
    exact ev_some hq
  · have hp := a5 y
    rw [y, if_neg (by decide), if_neg (by omega), if_neg (by omega), if_neg (by omega), if_pos rfl]
    unfold Mo_comes_29
    rw [if_pos (by decide)]
    simp (disch := omega) only [Nat.reduceAdd, add_li, li_add, ldA_nI, stA_nI]
    rw [g4]
    unfold Mo_comes_51 Mo_comes_69 Mo_comes_79
    rw [if_neg (by decide), if_neg (by decide), if_neg (by decide)]
    exact ev_some ⟨rfl, ctxM_of h (by rw [up2_row, h.1]) (by rw [up2_ne (by omega)]; exact h.2.1) (off_up (by simp [RD])), off_up (by simp [RD])⟩
  · have hp := a6 y
    rw [y, if_neg (by decide), if_neg (by omega), if_neg (by omega), if_neg (by omega), if_neg (by omega)]
    unfold Mo_comes_29 Mo_comes_51
    rw [if_neg (by decide), if_pos (by decide), mo_isAlive hP hp, cl_eq, h.1]
    by_cases x : S.1 (86 + w.2.2.1) = 0
    · rw [if_pos x, if_pos x, if_neg (by decide)]
      refine ev_cl (ev_mono (m_die h hs hp) ?_)
      rintro _ μ2 ⟨q1, q3⟩
      unfold Mo_comes_69 Mo_comes_79
      rw [if_neg (by decide), if_neg (by decide)]
      exact ev_some ⟨rfl, q1, q3⟩
    · rw [if_neg x, if_neg x, if_pos rfl]
      unfold Mo_comes_69 Mo_comes_79
      rw [if_neg (by decide), if_neg (by decide)]
      exact ev_some ⟨rfl, h, off_refl _ _⟩
