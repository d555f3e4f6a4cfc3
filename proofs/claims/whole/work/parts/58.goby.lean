/-! L3: RUNNING OFF; A DAY GOES BY, both sides -/
theorem sub_neg (a b : Int32) : a + -b = a - b := by grind
theorem upd_swap2 (N : Nat → Int32) {i : Nat} (h : i ≠ 2) (v w : Int32) : upd (upd N 2 v) i w = upd (upd N i w) 2 v := fa_upd_swap N (Ne.symm h) v w
theorem getsS_upd2 (N : Nat → Int32) (q : Nat) (n v : Int32) : getsS (upd N 2 v) q n = upd (getsS N q n) 2 v := by
  unfold getsS moreS
  rw [fu_off (N := N) (i := 2) (k := 22 + q) (by omega), fu_off (N := N) (i := 2) (k := 5) (by omega), upd_swap2 N (by omega), upd_swap2 _ (by omega)]
theorem c_runOff {P c : Nat} {th : Int32} {μ : Mu} {S : St} {L : LawL} {H : Nat → Int32} (h : CtxC P c th μ S L H) (hs : SpOk P S.1 L H) {s : Nat} (h16 : s < 16) : Ev (Dy_runOff 39 1 c (nI s) μ) (fun _ μ' => CtxC P c th μ' (runOffS P th L H S s) L H ∧ Off (CR c) μ μ') := by
  obtain ⟨h1, h2, h3, h4, h5⟩ := id h
  have hP := hs.1.1
  unfold Dy_runOff runOffS
  rw [fg_holder h1 h16, cl_eq]
  rcases whoN_cases hP S.1 s with e | ⟨p, hp, e, he⟩
  · rw [e, if_pos rfl, if_pos rfl]; exact ev_some ⟨h, off_refl _ _⟩
  rw [e, if_neg (by rw [n1_ne (by omega)]; exact id), if_neg (by rw [n1_ne (by omega)]; exact id), nI_clamp (by omega), fg_g1 h1 hp, cl_eq]
  obtain ⟨sl, hsl, hse⟩ := hs.1.2.1 p hp
  by_cases c1 : S.1 (22 + p) ≤ 0
  · rw [if_pos c1, if_neg (fun z => absurd c1 (fa_of_lt z).2.1)]; exact ev_some ⟨h, off_refl _ _⟩
  rw [if_neg c1, if_pos (fa_of_nle c1)]
  refine ev_cl (ev_mono (c_asks h hs (word := 2) hp (by omega)) ?_)
  rintro n μ1 ⟨rfl, o1⟩
  have hrn := runN_ok hs h16 hp (seat_alive hs.1 hp (by rw [he]; exact nI_ne0 (by omega) (by omega)))
  obtain ⟨k, sl', e1, e2, -, h2k, -, -, h3k⟩ := askN_rng (L := L) (H := H) hs.1 (p := p) (word := 2) hp (by omega)
  have f1 : FigC P c th μ1 S.1 := figC_off o1 (by simp; omega) (by simp; omega) (by simp; omega) h1
  by_cases c2 : askN P S.1 L H p 2 = 0
  · rw [if_pos c2, if_neg (by rw [c2]; decide)]
    exact ev_some ⟨ctxC_of h f1 (fun j hj => by rw [o1 5 (by simp)]; exact h2 j hj) (off_of o1 (by simp [CR])), off_of o1 (by simp [CR])⟩
  have hk0 : 0 < k := by
    rcases Nat.eq_zero_or_pos k with z | z
    · exact absurd (by rw [e1, z]; rfl) c2
    · exact z
  rw [if_neg c2, if_pos (by rw [e1]; exact nI_lt (a := 0) hk0 (by omega))]
  have hbes : Fg_holder c (nI s + 1) μ1 = some (whoN P S.1 (s + 1), μ1) := by
    rw [nI_1]
    by_cases z : s + 1 < 16
    · exact fg_holder f1 z
    · rw [fg_holder_no (Or.inr (show (16 : Int32) ≤ nI (s + 1) from nI_le (a := 16) (by omega) (by omega))), show s + 1 = 16 by omega, whoN_16 hs.1]
  rw [hbes, cl_eq]
  generalize hn : askN P S.1 L H p 2 = n at hrn
  refine ev_cl (ev_mono (fg_a f1 p 1 (22 + p) 1 rfl (by omega) hp (by omega) (-n)) ?_)
  rintro _ μ2 ⟨f2, o2⟩
  rw [sub_neg] at f2
  rw [gF_eq, pF_eq, show μ2 c 5 = S.1 4 from by rw [f2.2.2.2.1 5 (by omega) (by omega)]; exact fu_off (by omega), ring_t1]
  have f3 : FigC P c th (up2 μ2 c 5 (S.1 4 + n - n / 2)) (upd (upd S.1 (22 + p) (S.1 (22 + p) - n)) 4 (S.1 4 + n - n / 2)) := figC_sc f2 5 (by omega) (by omega) _
  have hb3 : ∀ j, j < 600 → (up2 μ2 c 5 (S.1 4 + n - n / 2)) 5 j = S.2 j := fun j hj => by
    rw [up2_ne (by omega), o2 5 (by simp; omega), o1 5 (by simp)]; exact h2 j hj
  have o3 : Off (CR c) μ (up2 μ2 c 5 (S.1 4 + n - n / 2)) := off_trans (off_of o1 (by simp [CR])) (off_trans (off_of o2 (by simp [CR])) (off_up (by simp [CR])))
  generalize up2 μ2 c 5 (S.1 4 + n - n / 2) = μ3 at f3 hb3 o3
  have fin : ∀ μ4, FigC P c th μ4 (runN P S.1 p s n) → (∀ j, j < 600 → μ4 5 j = S.2 j) → Off (CR c) μ μ4 → Ev (Dy_runOff_103 39 1 c (nI p) n μ4) (fun _ μ' => CtxC P c th μ' (noteB th (runN P S.1 p s n, S.2) 1 (nI p) n) L H ∧ Off (CR c) μ μ') := by
    intro μ4 g1 g2 g3
    unfold Dy_runOff_103
    refine ev_cl (ev_mono (c_note (S := (runN P S.1 p s n, S.2)) g1 g2 hrn h5 1 (nI p) n) ?_)
    rintro _ μ5 ⟨f5, b5, o5⟩
    have oo := off_trans g3 (off_of o5 (by simp [CR]))
    exact ev_some ⟨ctxC_of h f5 b5 oo, oo⟩
  by_cases c3 : whoN P S.1 (s + 1) = -1
  · rw [if_pos c3, gF_eq, pF_eq, show μ3 c 5 = (upd (upd S.1 (22 + p) (S.1 (22 + p) - n)) 4 (S.1 4 + n - n / 2)) 4 from f3.2.2.2.1 5 (by omega) (by omega)]
    have er : runN P S.1 p s n = upd (upd (upd S.1 (22 + p) (S.1 (22 + p) - n)) 4 (S.1 4 + n - n / 2)) 4 ((upd (upd S.1 (22 + p) (S.1 (22 + p) - n)) 4 (S.1 4 + n - n / 2)) 4 + n / 2) := by
      unfold runN; simp only; rw [if_pos c3]
    refine fin _ ?_ (fun j hj => by rw [up2_ne (by omega)]; exact hb3 j hj) (off_trans o3 (off_up (by simp [CR])))
    rw [er]
    exact figC_sc f3 5 (by omega) (by omega) _
  · rw [if_neg c3]
    rcases whoN_cases hP S.1 (s + 1) with y | ⟨q, hq, y, _⟩
    · exact absurd y c3
    · rw [y]
      have er : runN P S.1 p s n = getsS (upd (upd S.1 (22 + p) (S.1 (22 + p) - n)) 4 (S.1 4 + n - n / 2)) q (n / 2) := by
        unfold runN; simp only; rw [if_neg c3, y, nI_clamp (by omega)]
      refine ev_cl (ev_mono (fg_pour f3 hq (n / 2)) ?_)
      rintro r μ4 ⟨rfl, f4, o4⟩
      exact fin μ4 (by rw [er]; exact f4) (fun j hj => by rw [o4 5 (by simp; omega)]; exact hb3 j hj) (off_trans o3 (off_of o4 (by simp [CR])))
theorem m_runOff {P : Nat} {th : Int32} {μ : Mu} {S : St} {L : LawL} {H : Nat → Int32} (h : CtxM P th μ S L H) (hs : SpOk P S.1 L H) {p s : Nat} (h16 : s < 16) (hp : p < P) (he : S.1 (102 + p) = nI (s + 1)) : Ev (Mo_runsOff 59 (nI p) μ) (fun _ μ' => CtxM P th μ' (if askN P S.1 L H p 2 = 0 then S else noteB th (runN P S.1 p s (askN P S.1 L H p 2), S.2) 1 (nI p) (askN P S.1 L H p 2)) L H ∧ Off RD μ μ') := by
  obtain ⟨h1, h2, h3, h4, h5, h6⟩ := id h
  have hP := hs.1.1
  unfold Mo_runsOff
  refine ev_cl (ev_mono (m_runs h hs hp) ?_)
  rintro n μ1 ⟨rfl, o1⟩
  have e60 : μ1 60 = S.1 := by rw [o1 60 (by simp)]; exact h1
  have e63 : μ1 63 = S.2 := by rw [o1 63 (by simp)]; exact h2
  have e59 : μ1 59 = μ 59 := o1 59 (by simp)
  by_cases c2 : askN P S.1 L H p 2 = 0
  · rw [if_pos c2, if_pos c2]
    exact ev_some ⟨ctxM_of h e60 e63 (off_of o1 (by simp [RD])), off_of o1 (by simp [RD])⟩
  rw [if_neg c2, if_neg c2]
  have hal := seat_alive hs.1 hp (by rw [he]; exact nI_ne0 (by omega) (by omega))
  obtain ⟨k, sl', e1, e2, e9, h2k, -, -, h3k⟩ := askN_rng (L := L) (H := H) hs.1 (p := p) (word := 2) hp (by omega)
  have h3k' := h3k rfl
  have n1 : NOk P (upd S.1 (22 + p) (S.1 (22 + p) - askN P S.1 L H p 2)) := by
    rw [e1, e2, pk_sub h3k']
    exact nok_salt hs.1 hp (by omega) (Or.inl hal)
  generalize hn : askN P S.1 L H p 2 = n at *
  simp (disch := omega) only [Nat.reduceAdd, li_add, ldA_nI, stA_nI]
  have f1 : (up2 μ1 60 (22 + p) (μ1 60 (22 + p) - n)) 60 = upd S.1 (22 + p) (S.1 (22 + p) - n) := by rw [up2_row, e60]
  refine ev_cl (ev_mono (m_note (P := P) (th := th) (by rw [up2_ne (by omega), e59]; exact h3) (by rw [f1]; exact n1) 1 (nI p) n) ?_)
  rintro _ μ2 ⟨f2, b2, o2⟩
  rw [f1, up2_ne (by omega), e63, noteB_eq] at f2 b2
  simp only at f2 b2
  have oo2 : Off RD μ μ2 := off_trans (off_of o1 (by simp [RD])) (off_trans (off_up (by simp [RD])) (off_of o2 (by simp [RD])))
  have e159 : μ2 59 = μ 59 := oo2 59 (by simp [RD])
  generalize hx : note1 th (upd S.1 (22 + p) (S.1 (22 + p) - n) 0) (upd S.1 (22 + p) (S.1 (22 + p) - n) 2, S.2) 1 (nI p) n = x at f2 b2
  have hseat : μ2 60 (102 + p) = nI (s + 1) := by rw [f2, fu_off (by omega), fu_off (by omega)]; exact he
  rw [mo_besideOf (by rw [e159]; exact h4) hP hp (t := s + 1) (by omega) hseat, cl_eq, if_neg (by omega)]
  have hw : whoN P (μ2 60) (s + 1) = whoN P S.1 (s + 1) := by rw [f2]; exact whoN_congr (fun q hq => by rw [fu_off (by omega), fu_off (by omega)]) _
  rw [hw, ldA_li (by omega) (by omega), stA_li (by omega) (by omega)]
  have f3 : (up2 μ2 60 4 (μ2 60 4 + n - n / 2)) 60 = upd (upd (upd S.1 (22 + p) (S.1 (22 + p) - n)) 4 (S.1 4 + n - n / 2)) 2 x.1 := by
    rw [up2_row, f2, fu_off (k := 4) (i := 2) (by omega), fu_off (k := 4) (i := 22 + p) (by omega), upd_swap2 _ (by omega)]
  have g3 : (up2 μ2 60 4 (μ2 60 4 + n - n / 2)) 63 = x.2 := by rw [up2_ne (by omega), b2]
  have oo3 : Off RD μ (up2 μ2 60 4 (μ2 60 4 + n - n / 2)) := off_trans oo2 (off_up (by simp [RD]))
  show Ev (if whoN P S.1 (s + 1) = -1 then ldA (up2 μ2 60 4 (μ2 60 4 + n - n / 2)) 60 118 4 _ else _) _
  generalize up2 μ2 60 4 (μ2 60 4 + n - n / 2) = μ3 at f3 g3 oo3
  -- what is noted, in the end
  have hnote : ∀ N3 : Nat → Int32, N3 0 = S.1 0 → N3 2 = S.1 2 → noteB th (N3, S.2) 1 (nI p) n = (upd N3 2 x.1, x.2) := by
    intro N3 z0 z2
    rw [noteB_eq]
    simp only [z0, z2]
    rw [← hx, fu_off (i := 22 + p) (k := 0) (by omega), fu_off (i := 22 + p) (k := 2) (by omega)]
  by_cases c3 : whoN P S.1 (s + 1) = -1
  · rw [if_pos c3, ldA_li (by omega) (by omega), stA_li (by omega) (by omega)]
    have er : runN P S.1 p s n = upd (upd (upd S.1 (22 + p) (S.1 (22 + p) - n)) 4 (S.1 4 + n - n / 2)) 4 ((upd (upd S.1 (22 + p) (S.1 (22 + p) - n)) 4 (S.1 4 + n - n / 2)) 4 + n / 2) := by
      unfold runN; simp only; rw [if_pos c3]
    have oo4 : Off RD μ (up2 μ3 60 4 (μ3 60 4 + n / 2)) := off_trans oo3 (off_up (by simp [RD]))
    refine ev_some ⟨ctxM_of h ?_ ?_ oo4, oo4⟩
    · rw [up2_row, f3, hnote _ (by rw [er, fu_off (by omega), fu_off (by omega), fu_off (by omega)]) (by rw [er, fu_off (by omega), fu_off (by omega), fu_off (by omega)])]
      rw [er, upd_swap2 _ (by omega), fu_off (k := 4) (i := 2) (by omega)]
    · rw [up2_ne (by omega), g3, hnote _ (by rw [er, fu_off (by omega), fu_off (by omega), fu_off (by omega)]) (by rw [er, fu_off (by omega), fu_off (by omega), fu_off (by omega)])]
  · rw [if_neg c3]
    rcases whoN_cases hP S.1 (s + 1) with y | ⟨q, hq, y, _⟩
    · exact absurd y c3
    · rw [y]
      have er : runN P S.1 p s n = getsS (upd (upd S.1 (22 + p) (S.1 (22 + p) - n)) 4 (S.1 4 + n - n / 2)) q (n / 2) := by
        unfold runN; simp only; rw [if_neg c3, y, nI_clamp (by omega)]
      refine ev_cl (ev_mono (m_gets (by omega) (n / 2)) ?_)
      rintro r μ4 ⟨rfl, f4, o4⟩
      have oo4 : Off RD μ μ4 := off_trans oo3 (off_of o4 (by simp [RD]))
      have zz : ∀ i, i = 0 ∨ i = 2 → runN P S.1 p s n i = S.1 i := by
        intro i hi
        rw [er]; unfold getsS
        rw [fu_off (by omega), fu_off (by omega), fu_off (by omega), fu_off (by omega)]
      refine ev_some ⟨ctxM_of h ?_ ?_ oo4, oo4⟩
      · rw [f4, f3, getsS_upd2, hnote _ (zz 0 (Or.inl rfl)) (zz 2 (Or.inr rfl)), er]
      · rw [o4 63 (by simp), g3, hnote _ (zz 0 (Or.inl rfl)) (zz 2 (Or.inr rfl))]
set_option maxHeartbeats 1000000 in
theorem c_goBy {P c : Nat} {th : Int32} {μ : Mu} {S : St} {L : LawL} {H : Nat → Int32} {W : List WLn} (h : CtxC P c th μ S L H) (hs : SpOk P S.1 L H) (hW : WOk P W) (hWC : WeaC μ W) : Ev (Dy_goBy 39 1 c μ) (fun r μ' => r = nI (goesS P th L H W S).2 ∧ CtxC P c th μ' (goesS P th L H W S).1 L H ∧ Off (CR c) μ μ') := by
  have hP := hs.1.1
  have hc := h.2.2.2.2
  unfold Dy_goBy
  refine ev_cl (ev_mono (c_weather h hs hW hWC) ?_)
  rintro r μ0 ⟨rfl, h0, o0⟩
  have s0 := sp_wea (th := th) hs hW W.length (Nat.le_refl _)
  have hg : goesS P th L H W S = ((upd (seatF P th L H (persF P th L H (weaF P th L H W S W.length) P).1 16).1 0 ((seatF P th L H (persF P th L H (weaF P th L H W S W.length) P).1 16).1 0 + 1), (seatF P th L H (persF P th L H (weaF P th L H W S W.length) P).1 16).2), (persF P th L H (weaF P th L H W S W.length) P).2) := rfl
  rw [hg]
  generalize weaF P th L H W S W.length = x at h0 s0
  have s1 := sp_pers (th := th) s0 P (Nat.le_refl _)
  -- seats
  have seats : ∀ μ1, CtxC P c th μ1 (persF P th L H x P).1 L H → Off (CR c) μ μ1 → Ev (Dy_goBy_55 39 1 c (nI (persF P th L H x P).2) FU 0 μ1) (fun r μ' => r = nI (persF P th L H x P).2 ∧ CtxC P c th μ' (upd (seatF P th L H (persF P th L H x P).1 16).1 0 ((seatF P th L H (persF P th L H x P).1 16).1 0 + 1), (seatF P th L H (persF P th L H x P).1 16).2) L H ∧ Off (CR c) μ μ') := by
    generalize (persF P th L H x P).2 = n
    generalize (persF P th L H x P).1 = D at s1
    intro μ1 h1 hO
    suffices K : ∀ μ2, CtxC P c th μ2 (seatF P th L H D 0) L H → Off (CR c) μ μ2 → Ev (Dy_goBy_55 39 1 c (nI n) FU (nI 0) μ2) (fun r μ' => r = nI n ∧ CtxC P c th μ' (upd (seatF P th L H D 16).1 0 ((seatF P th L H D 16).1 0 + 1), (seatF P th L H D 16).2) L H ∧ Off (CR c) μ μ') from K μ1 h1 hO
    unfold Dy_goBy_55
    refine lp_fu (F := fun kb => Dy_goBy_55b 39 1 c kb (nI n)) (z := fun _ _ => none) 16 (fun k A => ∀ μ2, CtxC P c th μ2 (seatF P th L H D k) L H → Off (CR c) μ μ2 → Ev (A (nI k) μ2) (fun r μ' => r = nI n ∧ CtxC P c th μ' (upd (seatF P th L H D 16).1 0 ((seatF P th L H D 16).1 0 + 1), (seatF P th L H D 16).2) L H ∧ Off (CR c) μ μ')) (by omega) ?_ ?_ 0 (by omega)
    · intro A μ2 g1 g2
      show Ev (Dy_goBy_55b 39 1 c A (nI n) (nI 16) μ2) _
      unfold Dy_goBy_55b
      rw [if_pos (by decide), gF_eq, pF_eq, show μ2 c 7 = (seatF P th L H D 16).1 0 from g1.1.2.2.2.1 7 (by omega) (by omega)]
      have o2 : Off (CR c) μ2 (up2 μ2 c 7 ((seatF P th L H D 16).1 0 + 1)) := off_up (by simp [CR])
      exact ev_some ⟨rfl, ctxC_of g1 (figC_sc g1.1 7 (by omega) (by omega) _) (fun j hj => by rw [up2_ne (by omega)]; exact g1.2.1 j hj) o2, off_trans g2 o2⟩
    · intro k A hk ih μ2 g1 g2
      show Ev (Dy_goBy_55b 39 1 c A (nI n) (nI k) μ2) _
      unfold Dy_goBy_55b
      rw [if_neg (by rw [show (16 : Int32) = nI 16 from rfl]; exact nI_ge (by omega) (by omega))]
      refine ev_cl (ev_mono (c_runOff g1 (sp_seat s1 k (by omega)) hk) ?_)
      rintro _ μ3 ⟨q1, q2⟩
      rw [nI_1]
      exact ih μ3 q1 (off_trans g2 q2)
  suffices K : ∀ μ2, CtxC P c th μ2 (persF P th L H x 0).1 L H → Off (CR c) μ μ2 → Ev (Dy_goBy_8 39 1 c FU (nI (persF P th L H x 0).2) (nI 0) μ2) (fun r μ' => r = nI (persF P th L H x P).2 ∧ CtxC P c th μ' (upd (seatF P th L H (persF P th L H x P).1 16).1 0 ((seatF P th L H (persF P th L H x P).1 16).1 0 + 1), (seatF P th L H (persF P th L H x P).1 16).2) L H ∧ Off (CR c) μ μ') from K μ0 h0 o0
  unfold Dy_goBy_8
  refine lp_fu (F := fun kb => Dy_goBy_8b 39 1 c kb) (z := fun _ _ _ => none) P (fun k A => ∀ μ2, CtxC P c th μ2 (persF P th L H x k).1 L H → Off (CR c) μ μ2 → Ev (A (nI (persF P th L H x k).2) (nI k) μ2) (fun r μ' => r = nI (persF P th L H x P).2 ∧ CtxC P c th μ' (upd (seatF P th L H (persF P th L H x P).1 16).1 0 ((seatF P th L H (persF P th L H x P).1 16).1 0 + 1), (seatF P th L H (persF P th L H x P).1 16).2) L H ∧ Off (CR c) μ μ')) (by omega) ?_ ?_ 0 (by omega)
  · intro A μ2 g1 g2
    show Ev (Dy_goBy_8b 39 1 c A _ (nI P) μ2) _
    unfold Dy_goBy_8b
    rw [gF_eq, g1.1.2.2.1, if_pos (nI_le (Nat.le_refl _) (by omega))]
    exact seats μ2 g1 g2
  · intro k A hk ih μ2 g1 g2
    show Ev (Dy_goBy_8b 39 1 c A _ (nI k) μ2) _
    have e : persF P th L H x (k + 1) = if (persF P th L H x k).1.1 (86 + k) = 0 then (if (hapS th (persF P th L H x k).1 (askN P (persF P th L H x k).1.1 L H k 0)).2 then (spillS P th L H (hapS th (persF P th L H x k).1 (askN P (persF P th L H x k).1.1 L H k 0)).1 k, (persF P th L H x k).2 + 1) else ((hapS th (persF P th L H x k).1 (askN P (persF P th L H x k).1.1 L H k 0)).1, (persF P th L H x k).2)) else persF P th L H x k := rfl
    have sk := sp_pers (th := th) s0 k (by omega)
    rw [e] at ih
    generalize persF P th L H x k = y at ih g1 sk
    unfold Dy_goBy_8b Dy_goBy_47
    rw [gF_eq, g1.1.2.2.1, if_neg (nI_ge hk (by omega)), fg_isAlive g1.1 hk, cl_eq, nI_1]
    by_cases z : y.1.1 (86 + k) = 0
    · rw [if_pos z] at ih ⊢
      rw [if_neg (by decide)]
      refine ev_cl (ev_mono (c_asks g1 sk (word := 0) hk (by omega)) ?_)
      rintro v μ3 ⟨rfl, o3⟩
      have g3 : CtxC P c th μ3 y.1 L H := ctxC_of g1 (figC_off o3 (by simp; omega) (by simp; omega) (by simp; omega) g1.1) (fun j hj => by rw [o3 5 (by simp)]; exact g1.2.1 j hj) (off_of o3 (by simp [CR]))
      refine ev_cl (ev_mono (c_happens g3.1 (askN P y.1.1 L H k 0)) ?_)
      rintro b μ4 ⟨rfl, f4, b4, o4⟩
      have sk2 := sp_hap (th := th) sk (askN P y.1.1 L H k 0)
      have al : (hapS th y.1 (askN P y.1.1 L H k 0)).1.1 (86 + k) = 0 := by rw [hapS_alive (by omega)]; exact z
      have g4 : CtxC P c th μ4 (hapS th y.1 (askN P y.1.1 L H k 0)).1 L H := ctxC_of g3 f4 (fun j hj => by rw [b4, o4 5 (by simp; omega)]; exact g3.2.1 j hj) (off_of o4 (by simp [CR]))
      have oo4 : Off (CR c) μ μ4 := off_trans g2 (off_trans (off_of o3 (by simp [CR])) (off_of o4 (by simp [CR])))
      by_cases w : (hapS th y.1 (askN P y.1.1 L H k 0)).2 = true
      · rw [if_pos w] at ih ⊢
        rw [if_neg (by decide)]
        refine ev_cl (ev_mono (c_spill g4 sk2 hk al) ?_)
        rintro _ μ5 ⟨q1, q2, q3⟩
        rw [nI_1]
        exact ih μ5 q1 (off_trans oo4 q3)
      · rw [if_neg w] at ih ⊢
        rw [if_pos rfl]
        exact ih μ4 g4 oo4
    · rw [if_neg z] at ih ⊢
      rw [if_pos rfl]
      exact ih μ2 g1 g2
set_option maxHeartbeats 1000000 in
theorem m_goBy {P : Nat} {th : Int32} {μ : Mu} {S : St} {L : LawL} {H : Nat → Int32} {W : List WLn} (h : CtxM P th μ S L H) (hs : SpOk P S.1 L H) (hW : WOk P W) (hWM : WeaM μ W) : Ev (Mo_goesBy 59 μ) (fun r μ' => r = nI (goesS P th L H W S).2 ∧ CtxM P th μ' (goesS P th L H W S).1 L H ∧ Off RD μ μ') := by
  have hP := hs.1.1
  have hl := hW.1
  have hg : goesS P th L H W S = ((upd (seatF P th L H (persF P th L H (weaF P th L H W S W.length) P).1 16).1 0 ((seatF P th L H (persF P th L H (weaF P th L H W S W.length) P).1 16).1 0 + 1), (seatF P th L H (persF P th L H (weaF P th L H W S W.length) P).1 16).2), (persF P th L H (weaF P th L H W S W.length) P).2) := rfl
  rw [hg]
  have sw := fun k hk => sp_wea (th := th) hs hW k hk
  have s0 := sw W.length (Nat.le_refl _)
  have s1 := sp_pers (th := th) s0 P (Nat.le_refl _)
  -- persons, then seats
  have rest : ∀ μ1, CtxM P th μ1 (weaF P th L H W S W.length).1 L H → Off RD μ μ1 → Ev (Mo_goesBy_46 59 FU (nI (weaF P th L H W S W.length).2) 0 μ1) (fun r μ' => r = nI (persF P th L H (weaF P th L H W S W.length) P).2 ∧ CtxM P th μ' (upd (seatF P th L H (persF P th L H (weaF P th L H W S W.length) P).1 16).1 0 ((seatF P th L H (persF P th L H (weaF P th L H W S W.length) P).1 16).1 0 + 1), (seatF P th L H (persF P th L H (weaF P th L H W S W.length) P).1 16).2) L H ∧ Off RD μ μ') := by
    generalize weaF P th L H W S W.length = x at s0 s1
    intro μ1 h1 hO
    have seats : ∀ μ1, CtxM P th μ1 (persF P th L H x P).1 L H → Off RD μ μ1 → Ev (Mo_goesBy_94 59 (nI (persF P th L H x P).2) FU 0 μ1) (fun r μ' => r = nI (persF P th L H x P).2 ∧ CtxM P th μ' (upd (seatF P th L H (persF P th L H x P).1 16).1 0 ((seatF P th L H (persF P th L H x P).1 16).1 0 + 1), (seatF P th L H (persF P th L H x P).1 16).2) L H ∧ Off RD μ μ') := by
      generalize (persF P th L H x P).2 = n
      generalize (persF P th L H x P).1 = D at s1
      intro μ1 h1 hO
      suffices K : ∀ μ2, CtxM P th μ2 (seatF P th L H D 0) L H → Off RD μ μ2 → Ev (Mo_goesBy_94 59 (nI n) FU (nI 0) μ2) (fun r μ' => r = nI n ∧ CtxM P th μ' (upd (seatF P th L H D 16).1 0 ((seatF P th L H D 16).1 0 + 1), (seatF P th L H D 16).2) L H ∧ Off RD μ μ') from K μ1 h1 hO
      unfold Mo_goesBy_94
      refine lp_fu (F := fun kb => Mo_goesBy_94b 59 kb (nI n)) (z := fun _ _ => none) 16 (fun k A => ∀ μ2, CtxM P th μ2 (seatF P th L H D k) L H → Off RD μ μ2 → Ev (A (nI k) μ2) (fun r μ' => r = nI n ∧ CtxM P th μ' (upd (seatF P th L H D 16).1 0 ((seatF P th L H D 16).1 0 + 1), (seatF P th L H D 16).2) L H ∧ Off RD μ μ')) (by omega) ?_ ?_ 0 (by omega)
      · intro A μ2 g1 g2
        show Ev (Mo_goesBy_94b 59 A (nI n) (nI 16) μ2) _
        unfold Mo_goesBy_94b
        simp only [Nat.reduceAdd]
        rw [if_pos (by decide), ldA_li (by omega) (by omega), stA_li (by omega) (by omega)]
        have o2 : Off RD μ2 (up2 μ2 60 0 (μ2 60 0 + 1)) := off_up (by simp [RD])
        exact ev_some ⟨rfl, ctxM_of g1 (by rw [up2_row, g1.1]) (by rw [up2_ne (by omega)]; exact g1.2.1) o2, off_trans g2 o2⟩
      · intro k A hk ih μ2 g1 g2
        show Ev (Mo_goesBy_94b 59 A (nI n) (nI k) μ2) _
        have e : seatF P th L H D (k + 1) = runOffS P th L H (seatF P th L H D k) k := rfl
        have sk := sp_seat (th := th) s1 k (by omega)
        rw [e] at ih
        generalize seatF P th L H D k = y at ih g1 sk
        unfold Mo_goesBy_94b Mo_goesBy_128
        simp only [Nat.reduceAdd]
        rw [if_neg (by rw [show (16 : Int32) = nI 16 from rfl]; exact nI_ge (by omega) (by omega)), mo_whoHas g1.2.2.2.1 hP k (by omega), cl_eq, nI_1, g1.1]
        unfold runOffS at ih
        rcases whoN_cases hP y.1 k with e | ⟨p, hp, e, he⟩
        · rw [e, if_pos rfl]
          rw [e, if_pos rfl] at ih
          exact ih μ2 g1 g2
        · rw [e, if_neg (by rw [n1_ne (by omega)]; exact id), show (22 : Int32) + nI p = nI (22 + p) from nI_add 22 p, ldA_nI (by omega) (by omega), g1.1]
          rw [e, if_neg (by rw [n1_ne (by omega)]; exact id), nI_clamp (by omega)] at ih
          by_cases c1 : y.1 (22 + p) ≤ 0
          · rw [if_pos c1]
            rw [if_pos c1] at ih
            exact ih μ2 g1 g2
          · rw [if_neg c1]
            rw [if_neg c1] at ih
            refine ev_cl (ev_mono (m_runOff g1 sk hk hp he) ?_)
            rintro _ μ3 ⟨q1, q2⟩
            exact ih μ3 q1 (off_trans g2 q2)
    suffices K : ∀ μ2, CtxM P th μ2 (persF P th L H x 0).1 L H → Off RD μ μ2 → Ev (Mo_goesBy_46 59 FU (nI (persF P th L H x 0).2) (nI 0) μ2) (fun r μ' => r = nI (persF P th L H x P).2 ∧ CtxM P th μ' (upd (seatF P th L H (persF P th L H x P).1 16).1 0 ((seatF P th L H (persF P th L H x P).1 16).1 0 + 1), (seatF P th L H (persF P th L H x P).1 16).2) L H ∧ Off RD μ μ') from K μ1 h1 hO
    unfold Mo_goesBy_46
    refine lp_fu (F := fun kb => Mo_goesBy_46b 59 kb) (z := fun _ _ _ => none) P (fun k A => ∀ μ2, CtxM P th μ2 (persF P th L H x k).1 L H → Off RD μ μ2 → Ev (A (nI (persF P th L H x k).2) (nI k) μ2) (fun r μ' => r = nI (persF P th L H x P).2 ∧ CtxM P th μ' (upd (seatF P th L H (persF P th L H x P).1 16).1 0 ((seatF P th L H (persF P th L H x P).1 16).1 0 + 1), (seatF P th L H (persF P th L H x P).1 16).2) L H ∧ Off RD μ μ')) (by omega) ?_ ?_ 0 (by omega)
    · intro A μ2 g1 g2
      show Ev (Mo_goesBy_46b 59 A _ (nI P) μ2) _
      unfold Mo_goesBy_46b
      rw [gF_eq, g1.2.2.2.1, if_pos (nI_le (Nat.le_refl _) (by omega))]
      exact seats μ2 g1 g2
    · intro k A hk ih μ2 g1 g2
      show Ev (Mo_goesBy_46b 59 A _ (nI k) μ2) _
      have e : persF P th L H x (k + 1) = if (persF P th L H x k).1.1 (86 + k) = 0 then (if (hapS th (persF P th L H x k).1 (askN P (persF P th L H x k).1.1 L H k 0)).2 then (spillS P th L H (hapS th (persF P th L H x k).1 (askN P (persF P th L H x k).1.1 L H k 0)).1 k, (persF P th L H x k).2 + 1) else ((hapS th (persF P th L H x k).1 (askN P (persF P th L H x k).1.1 L H k 0)).1, (persF P th L H x k).2)) else persF P th L H x k := rfl
      have sk := sp_pers (th := th) s0 k (by omega)
      rw [e] at ih
      generalize persF P th L H x k = y at ih g1 sk
      unfold Mo_goesBy_46b Mo_goesBy_86
      rw [gF_eq, g1.2.2.2.1, if_neg (nI_ge hk (by omega)), mo_isAlive hP hk, cl_eq, nI_1, g1.1]
      by_cases z : y.1.1 (86 + k) = 0
      · rw [if_pos z] at ih ⊢
        rw [if_neg (by decide)]
        refine ev_cl (ev_mono (m_spills g1 sk hk) ?_)
        rintro v μ3 ⟨rfl, o3⟩
        obtain ⟨n, sl, en, -, -, -, hn, -, -⟩ := askN_rng (L := L) (H := H) sk.1 (p := k) (word := 0) hk (by omega)
        have g3 : CtxM P th μ3 y.1 L H := ctxM_of g1 (by rw [o3 60 (by simp)]; exact g1.1) (by rw [o3 63 (by simp)]; exact g1.2.1) (off_of o3 (by simp [RD]))
        have sk2 := sp_hap (th := th) sk (askN P y.1.1 L H k 0)
        have al : (hapS th y.1 (askN P y.1.1 L H k 0)).1.1 (86 + k) = 0 := by rw [hapS_alive (by omega)]; exact z
        rw [en] at ih sk2 al ⊢
        refine ev_cl (ev_mono (m_happens g3.1 g3.2.2.1 (hn rfl)) ?_)
        rintro b μ4 ⟨rfl, f4, b4, o4⟩
        have g4 : CtxM P th μ4 (hapS th y.1 (nI n)).1 L H := ctxM_of g3 f4 (by rw [b4, o4 63 (by simp)]; exact g3.2.1) (off_of o4 (by simp [RD]))
        have oo4 : Off RD μ μ4 := off_trans g2 (off_trans (off_of o3 (by simp [RD])) (off_of o4 (by simp [RD])))
        by_cases w : (hapS th y.1 (nI n)).2 = true
        · rw [if_pos w] at ih ⊢
          rw [if_neg (by decide)]
          refine ev_cl (ev_mono (m_spill g4 sk2 hk al) ?_)
          rintro _ μ5 ⟨q1, q3⟩
          rw [nI_1]
          exact ih μ5 q1 (off_trans oo4 q3)
        · rw [if_neg w] at ih ⊢
          rw [if_pos rfl]
          exact ih μ4 g4 oo4
      · rw [if_neg z] at ih ⊢
        rw [if_pos rfl]
        exact ih μ2 g1 g2
  unfold Mo_goesBy
  suffices K : ∀ μ1, CtxM P th μ1 (weaF P th L H W S 0).1 L H → Off RD μ μ1 → Ev (Mo_goesBy_4 59 FU (nI (weaF P th L H W S 0).2) (nI (4 * 0)) μ1) (fun r μ' => r = nI (persF P th L H (weaF P th L H W S W.length) P).2 ∧ CtxM P th μ' (upd (seatF P th L H (persF P th L H (weaF P th L H W S W.length) P).1 16).1 0 ((seatF P th L H (persF P th L H (weaF P th L H W S W.length) P).1 16).1 0 + 1), (seatF P th L H (persF P th L H (weaF P th L H W S W.length) P).1 16).2) L H ∧ Off RD μ μ') from K μ h (off_refl _ _)
  unfold Mo_goesBy_4
  refine lp_fu (F := fun kb => Mo_goesBy_4b 59 kb) (z := fun _ _ _ => none) W.length (fun k A => ∀ μ1, CtxM P th μ1 (weaF P th L H W S k).1 L H → Off RD μ μ1 → Ev (A (nI (weaF P th L H W S k).2) (nI (4 * k)) μ1) (fun r μ' => r = nI (persF P th L H (weaF P th L H W S W.length) P).2 ∧ CtxM P th μ' (upd (seatF P th L H (persF P th L H (weaF P th L H W S W.length) P).1 16).1 0 ((seatF P th L H (persF P th L H (weaF P th L H W S W.length) P).1 16).1 0 + 1), (seatF P th L H (persF P th L H (weaF P th L H W S W.length) P).1 16).2) L H ∧ Off RD μ μ')) (by omega) ?_ ?_ 0 (by omega)
  · intro A μ1 h1 hO
    show Ev (Mo_goesBy_4b 59 A _ (nI (4 * W.length)) μ1) _
    unfold Mo_goesBy_4b
    rw [gF_eq, (weaM_off hO hWM).1, show (4 : Int32) * nI W.length = nI (4 * W.length) from pk_mul 4 _, if_pos (nI_le (Nat.le_refl _) (by omega))]
    exact rest μ1 h1 hO
  · intro k A hk ih μ1 h1 hO
    show Ev (Mo_goesBy_4b 59 A _ (nI (4 * k)) μ1) _
    have e : weaF P th L H W S (k + 1) = if (weaF P th L H W S k).1.1 0 = nI (W.getD k w0).1 then ((comesS P th L H (W.getD k w0) (weaF P th L H W S k).1).1, (weaF P th L H W S k).2 + (comesS P th L H (W.getD k w0) (weaF P th L H W S k).1).2) else weaF P th L H W S k := rfl
    obtain ⟨g1, g2, g3, g4⟩ := (weaM_off hO hWM).2 k hk
    obtain ⟨a1, a2, a3, a4, a5, a6⟩ := hW.2 k hk
    have hsp := sw k (by omega)
    rw [e] at ih
    generalize W.getD k w0 = w at ih g1 g2 g3 g4 a1 a2 a3 a4 a5 a6
    generalize weaF P th L H W S k = y at ih h1 hsp
    unfold Mo_goesBy_4b Mo_goesBy_37
    simp only [Nat.reduceAdd]
    rw [gF_eq, (weaM_off hO hWM).1, show (4 : Int32) * nI W.length = nI (4 * W.length) from pk_mul 4 _, if_neg (nI_ge (by omega) (by omega)), ldA_nI (by omega) (by omega), ldA_li (by omega) (by omega), g1, h1.1]
    have e4 : nI (4 * k) + 4 = nI (4 * (k + 1)) := by rw [show (4 : Int32) = nI 4 from rfl, nI_add]; congr 1
    rw [e4]
    by_cases z : y.1.1 0 = nI w.1
    · rw [if_pos z.symm]
      rw [if_pos z] at ih
      refine ev_cl (ev_mono (m_comes h1 hsp (by omega) g2 g3 g4 a2 a3 a5 a6) ?_)
      rintro r μ2 ⟨rfl, q1, q2⟩
      rw [nI_add]
      exact ih μ2 q1 (off_trans hO q2)
    · rw [if_neg (fun q => z q.symm)]
      rw [if_neg z] at ih
      exact ih μ1 h1 hO
