/-! L3: SWEEPING, RISING, SITTING, DYING -/
theorem whoN_same {P : Nat} {N N' : Nat → Int32} {s : Nat} (h : ∀ q, q < P → (N' (102 + q) = nI (s + 1) ↔ N (102 + q) = nI (s + 1))) : whoN P N' s = whoN P N s := by
  rcases whoN_is (P := P) (N := N) (s := s) with ⟨p, hp, e, h1, h2⟩ | ⟨e, h1⟩
  · rw [e]; exact whoN_at hp ((h p hp).mpr h1) (fun j hj z => h2 j hj ((h j (by omega)).mp z))
  · rw [e]; exact whoN_no (fun p hp z => h1 p hp ((h p hp).mp z))
theorem whoN_one {P : Nat} {N : Nat → Int32} {s p : Nat} (hp : p < P) (h : N (102 + p) = nI (s + 1)) (h2 : ∀ q, q < P → q ≠ p → N (102 + q) ≠ nI (s + 1)) : whoN P N s = nI p := whoN_at hp h (fun j hj => h2 j (by omega) (by omega))
theorem figC_rise {P c : Nat} {th : Int32} {μ : Mu} {N : Nat → Int32} (h : FigC P c th μ N) (hN : NOk P N) {p s : Nat} (hp : p < P) (hs : s < 16) (he : N (102 + p) = nI (s + 1)) : FigC P c th (up2 (up2 μ (c + 2) s (-1)) (c + 1) (7 * p + 6) (-1)) (upd N (102 + p) 0) := by
  obtain ⟨h1, h2, h3, h4, h5, h6, h7, h8, h9⟩ := h
  have hu : ∀ q, q < P → q ≠ p → N (102 + q) ≠ nI (s + 1) := fun q hq e z => by
    rcases hN.2.2.2.2.1 q p hq hp (z.trans he.symm) with y | y
    · exact e y
    · rw [y] at z
      exact nI_ne0 (n := s + 1) (by omega) (by omega) z.symm
  have n0 : ∀ k, k < 100 → (0 : Int32) ≠ nI (k + 1) := fun k hk z => nI_ne0 (n := k + 1) (by omega) (by omega) z.symm
  refine ⟨h1, ?_, ?_, fun i a b => ?_, fun q g a b => ?_, fun q a => ?_, fun q a => ?_, fun s' a => ?_, fun q g a b x y => by rw [up2_off (Or.inr (by omega)), up2_off (Or.inl (by omega))]; exact h9 q g a b x y⟩
  · rw [up2_off (Or.inl (by omega)), up2_off (Or.inl (by omega)), h2]
  · rw [up2_off (Or.inl (by omega)), up2_off (Or.inl (by omega)), h3]
  · rw [up2_off (Or.inl (by omega)), up2_off (Or.inl (by omega)), fu_off (by omega), h4 i a b]
  · rw [up2_off (Or.inr (by omega)), up2_off (Or.inl (by omega)), fu_off (by omega), h5 q g a b]
  · rw [up2_off (Or.inr (by omega)), up2_off (Or.inl (by omega)), fu_off (by omega), h6 q a]
  · by_cases e : q = p
    · subst e; rw [up2_same, fu_same]; decide
    · rw [up2_off (Or.inr (by omega)), up2_off (Or.inl (by omega)), fu_off (by omega), h7 q a]
  · rw [up2_off (Or.inl (by omega))]
    by_cases e : s' = s
    · subst e
      rw [up2_same, whoN_no (fun q hq => ?_)]
      by_cases z : q = p
      · subst z; rw [fu_same]; exact n0 _ (by omega)
      · rw [fu_off (by omega)]; exact hu q hq z
    · rw [up2_off (Or.inr e), h8 s' a, whoN_same (fun q hq => ?_)]
      by_cases z : q = p
      · subst z; rw [fu_same, he]
        exact ⟨fun y => (by have := (nI_eq (by omega) (by omega)).mp y; omega), fun y => absurd y (n0 _ (by omega))⟩
      · rw [fu_off (by omega)]
theorem figC_sit {P c : Nat} {th : Int32} {μ : Mu} {N : Nat → Int32} (h : FigC P c th μ N) (hP : P ≤ 16) {p s : Nat} (hp : p < P) (hs : s < 16) (he : N (102 + p) = 0) (hw : ∀ q, q < P → N (102 + q) ≠ nI (s + 1)) : FigC P c th (up2 (up2 μ (c + 2) s (nI p)) (c + 1) (7 * p + 6) (nI s)) (upd N (102 + p) (nI (s + 1))) := by
  obtain ⟨h1, h2, h3, h4, h5, h6, h7, h8, h9⟩ := h
  have n0 : ∀ k, k < 100 → (0 : Int32) ≠ nI (k + 1) := fun k hk z => nI_ne0 (n := k + 1) (by omega) (by omega) z.symm
  refine ⟨h1, ?_, ?_, fun i a b => ?_, fun q g a b => ?_, fun q a => ?_, fun q a => ?_, fun s' a => ?_, fun q g a b x y => by rw [up2_off (Or.inr (by omega)), up2_off (Or.inl (by omega))]; exact h9 q g a b x y⟩
  · rw [up2_off (Or.inl (by omega)), up2_off (Or.inl (by omega)), h2]
  · rw [up2_off (Or.inl (by omega)), up2_off (Or.inl (by omega)), h3]
  · rw [up2_off (Or.inl (by omega)), up2_off (Or.inl (by omega)), fu_off (by omega), h4 i a b]
  · rw [up2_off (Or.inr (by omega)), up2_off (Or.inl (by omega)), fu_off (by omega), h5 q g a b]
  · rw [up2_off (Or.inr (by omega)), up2_off (Or.inl (by omega)), fu_off (by omega), h6 q a]
  · by_cases e : q = p
    · subst e; rw [up2_same, fu_same, nI_pred]
    · rw [up2_off (Or.inr (by omega)), up2_off (Or.inl (by omega)), fu_off (by omega), h7 q a]
  · rw [up2_off (Or.inl (by omega))]
    by_cases e : s' = s
    · subst e
      rw [up2_same, whoN_one hp (fu_same _ _ _) (fun q hq z => by rw [fu_off (by omega)]; exact hw q hq)]
    · rw [up2_off (Or.inr e), h8 s' a, whoN_same (fun q hq => ?_)]
      by_cases z : q = p
      · subst z; rw [fu_same, he]
        exact ⟨fun y => absurd y (n0 _ (by omega)), fun y => by have := (nI_eq (by omega) (by omega)).mp y; omega⟩
      · rw [fu_off (by omega)]
theorem fg_rise {P c : Nat} {th : Int32} {μ : Mu} {N : Nat → Int32} (h : FigC P c th μ N) (hN : NOk P N) {p : Nat} (hp : p < P) : Ev (Fg_rise c (nI p) μ) (fun _ μ' => FigC P c th μ' (upd N (102 + p) 0) ∧ Off [c + 1, c + 2] μ μ') := by
  obtain ⟨t, ht, hte⟩ := hN.2.2.2.1 p hp
  unfold Fg_rise
  rw [fg_g6 h hp, cl_eq, hte]
  by_cases e : t = 0
  · subst e
    rw [if_pos (by decide)]
    refine ev_some ⟨?_, off_refl _ _⟩
    have : upd N (102 + p) 0 = N := fa_upd_same hte
    rw [this]; exact h
  · obtain ⟨s, rfl⟩ : ∃ s, t = s + 1 := ⟨t - 1, by omega⟩
    rw [nI_pred, if_neg (nI_pos (by omega)), if_neg (by rw [show (16 : Int32) = nI 16 from rfl]; exact nI_ge (by omega) (by omega)), stA_nI (by omega) (by omega)]
    have hpu : Fg_put c (nI p) 6 (-1) (up2 μ (c + 2) s (-1)) = some ((), up2 (up2 μ (c + 2) s (-1)) (c + 1) (7 * p + 6) (-1)) := by
      obtain ⟨h1, h2, h3, h4, h5, h6, h7, h8, h9⟩ := h
      have e3 : (up2 μ (c + 2) s (-1)) c 3 = nI P := by rw [up2_off (Or.inl (by omega)), h3]
      unfold Fg_put
      rw [if_neg (nI_pos (by omega)), gF_eq, e3, if_neg (nI_ge hp (by omega)), if_neg (by decide), if_neg (by decide), show nI p * 7 + 6 = nI (7 * p + 6) from ix7 p 6, stA_nI (by omega) (by omega)]
    rw [hpu, cl_eq]
    refine ev_some ⟨figC_rise h hN hp (by omega) hte, off_trans (off_up (by simp)) (off_up (by simp))⟩
theorem fg_rise_no {P c : Nat} {th : Int32} {μ : Mu} {N : Nat → Int32} (h : FigC P c th μ N) {v : Int32} (hv : v < 0 ∨ nI P ≤ v) : Fg_rise c v μ = some ((), μ) := by
  unfold Fg_rise
  rw [fg_get_no h v 6 hv, cl_eq, if_pos (by decide)]
theorem fg_sit {P c : Nat} {th : Int32} {μ : Mu} {N : Nat → Int32} (h : FigC P c th μ N) (hP : P ≤ 16) {p s : Nat} (hp : p < P) (hs : s < 16) (he : N (102 + p) = 0) (hw : ∀ q, q < P → N (102 + q) ≠ nI (s + 1)) : Ev (Fg_sit c (nI p) (nI s) μ) (fun _ μ' => FigC P c th μ' (upd N (102 + p) (nI (s + 1))) ∧ Off [c + 1, c + 2] μ μ') := by
  unfold Fg_sit
  rw [if_neg (nI_pos (by omega)), if_neg (by rw [show (16 : Int32) = nI 16 from rfl]; exact nI_ge (by omega) (by omega)), stA_nI (by omega) (by omega)]
  have hpu : Fg_put c (nI p) 6 (nI s) (up2 μ (c + 2) s (nI p)) = some ((), up2 (up2 μ (c + 2) s (nI p)) (c + 1) (7 * p + 6) (nI s)) := by
    obtain ⟨h1, h2, h3, h4, h5, h6, h7, h8, h9⟩ := h
    have e3 : (up2 μ (c + 2) s (nI p)) c 3 = nI P := by rw [up2_off (Or.inl (by omega)), h3]
    unfold Fg_put
    rw [if_neg (nI_pos (by omega)), gF_eq, e3, if_neg (nI_ge hp (by omega)), if_neg (by decide), if_neg (by decide), show nI p * 7 + 6 = nI (7 * p + 6) from ix7 p 6, stA_nI (by omega) (by omega)]
  rw [hpu, cl_eq]
  exact ev_some ⟨figC_sit h hP hp hs he hw, off_trans (off_up (by simp)) (off_up (by simp))⟩
theorem c_sweep {P c : Nat} {th : Int32} {μ : Mu} {S : (Nat → Int32) × (Nat → Int32)} {L : List (Nat × List (Nat × Nat) × List (Nat × Nat))} {H : Nat → Int32} (h : CtxC P c th μ S L H) (hs : SpOk P S.1 L H) {p : Nat} (hp : p < P) : Ev (Dy_sweep 39 1 c (nI p) μ) (fun _ μ' => CtxC P c th μ' (sweepS th S p) L H ∧ SpOk P (sweepS th S p).1 L H ∧ Off (CR c) μ μ') := by
  obtain ⟨h1, h2, h3, h4, h5⟩ := id h
  have hP := hs.1.1
  unfold Dy_sweep
  rw [fg_g1 h1 hp, cl_eq, gF_eq, pF_eq, show μ c 6 = S.1 5 from h1.2.2.2.1 6 (by omega) (by omega)]
  have f1 : FigC P c th (up2 μ c 6 (S.1 5 + S.1 (22 + p))) (upd S.1 5 (S.1 5 + S.1 (22 + p))) := figC_sc h1 6 (by omega) (by omega) _
  rw [show Fg_put c (nI p) 1 0 (up2 μ c 6 (S.1 5 + S.1 (22 + p))) = _ from fg_put f1 p 1 hp (by omega) 0, cl_eq]
  have f2 : FigC P c th (up2 (up2 μ c 6 (S.1 5 + S.1 (22 + p))) (c + 1) (7 * p + 1) 0) (upd (upd S.1 5 (S.1 5 + S.1 (22 + p))) (22 + p) 0) := by
    have := figC_put f1 p 1 hp (by omega) 0
    rw [show 6 + 16 * 1 + p = 22 + p by omega] at this; exact this
  have n2 : NOk P (upd (upd S.1 5 (S.1 5 + S.1 (22 + p))) (22 + p) 0) := nok_salt (s := 0) (nok_upd hs.1 5 _ (by omega) (by omega)) hp (by omega) (Or.inr rfl)
  refine ev_cl (ev_mono (c_note (S := (upd (upd S.1 5 (S.1 5 + S.1 (22 + p))) (22 + p) 0, S.2)) f2 (fun k hk => by rw [up2_ne (by omega), up2_ne (by omega)]; exact h2 k hk) n2 h5 4 (nI p) (S.1 (22 + p))) ?_)
  rintro _ μ5 ⟨f5, b5, o5⟩
  have oo : Off (CR c) μ μ5 := off_trans (off_up (by simp [CR])) (off_trans (off_up (by simp [CR])) (off_of o5 (by simp [CR])))
  exact ev_some ⟨ctxC_of h f5 b5 oo, ⟨nok_note n2 _ _ _, hs.2⟩, oo⟩
theorem m_sweep {P : Nat} {th : Int32} {μ : Mu} {S : (Nat → Int32) × (Nat → Int32)} {L : List (Nat × List (Nat × Nat) × List (Nat × Nat))} {H : Nat → Int32} (h : CtxM P th μ S L H) (hs : SpOk P S.1 L H) {p : Nat} (hp : p < P) : Ev (Mo_isSwept 59 (nI p) μ) (fun _ μ' => CtxM P th μ' (sweepS th S p) L H ∧ Off RD μ μ') := by
  obtain ⟨h1, h2, h3, h4, h5, h6⟩ := id h
  have hP := hs.1.1
  unfold Mo_isSwept
  simp (disch := omega) only [Nat.reduceAdd, li_add, ldA_nI]
  refine ev_cl (ev_mono (m_note (P := P) h3 (by rw [h1]; exact hs.1) 4 (nI p) (μ 60 (22 + p))) ?_)
  rintro _ μ1 ⟨f1, b1, o1⟩
  rw [h1, h2] at f1 b1
  simp (disch := omega) only [ldA_nI, ldA_li, stA_li, stA_nI]
  have oo : Off RD μ (up2 (up2 μ1 60 5 (μ1 60 5 + μ1 60 (22 + p))) 60 (22 + p) 0) := off_trans (off_of o1 (by simp [RD])) (off_trans (off_up (by simp [RD])) (off_up (by simp [RD])))
  refine ev_some ⟨ctxM_of h ?_ ?_ oo, oo⟩
  · rw [up2_row, up2_row, f1]
    funext k
    unfold sweepS noteB
    by_cases c0 : th = 0
    · rw [if_pos c0, if_pos c0]
      have z2 : (upd (upd S.1 5 (S.1 5 + S.1 (22 + p))) (22 + p) 0) 2 = S.1 2 := by rw [fu_off (by omega), fu_off (by omega)]
      simp only [z2]
      by_cases c1 : S.1 2 = 150
      · rw [if_pos c1, if_pos c1]
      · rw [if_neg c1, if_neg c1]
        simp only
        rw [fu_off (N := S.1) (i := 2) (k := 5) (by omega), fu_off (N := S.1) (i := 2) (k := 22 + p) (by omega)]
        unfold upd
        by_cases q1 : k = 22 + p
        · rw [if_pos q1, if_neg (by omega), if_pos q1]
        · rw [if_neg q1, if_neg q1]
          by_cases q2 : k = 5
          · rw [if_pos q2, if_neg (by omega), if_pos q2]
          · rw [if_neg q2, if_neg q2]
    · rw [if_neg c0, if_neg c0]
  · rw [up2_ne (by omega), up2_ne (by omega), b1]
    unfold sweepS noteB
    have z2 : (upd (upd S.1 5 (S.1 5 + S.1 (22 + p))) (22 + p) 0) 2 = S.1 2 := by rw [fu_off (by omega), fu_off (by omega)]
    have z0 : (upd (upd S.1 5 (S.1 5 + S.1 (22 + p))) (22 + p) 0) 0 = S.1 0 := by rw [fu_off (by omega), fu_off (by omega)]
    simp only [z2, z0, h1]
    by_cases c0 : th = 0
    · rw [if_pos c0, if_pos c0]
      by_cases c1 : S.1 2 = 150
      · rw [if_pos c1, if_pos c1]
      · rw [if_neg c1, if_neg c1]
    · rw [if_neg c0, if_neg c0]
/-- who inherits -/
theorem heir_cases {P : Nat} {H : Nat → Int32} (h : HOk P H) {p : Nat} (hp : p < 16) : H p = 0 ∨ ∃ q, q < P ∧ H p = nI (q + 1) := by
  rcases h p hp with z | ⟨_, q, hq, e⟩
  · exact Or.inl z
  · exact Or.inr ⟨q, hq, e⟩
theorem nok_die0 {P : Nat} {N : Nat → Int32} (h : NOk P N) {p : Nat} (hp : p < P) : NOk P (upd (upd (upd N (86 + p) 1) (102 + p) 0) (22 + p) 0) := by
  obtain ⟨h1, h2, h3, h4, h5, h6⟩ := h
  refine ⟨h1, fun q hq => ?_, fun q hq => ?_, fun q hq => ?_, fun q r hq hr => ?_, ?_⟩
  · by_cases e : q = p
    · subst e; exact ⟨0, by omega, fu_same _ _ _⟩
    · rw [fu_off (by omega), fu_off (by omega), fu_off (by omega)]; exact h2 q hq
  · by_cases e : q = p
    · subst e
      refine Or.inr ⟨?_, ?_, fu_same _ _ _⟩
      · rw [fu_off (by omega), fu_off (by omega), fu_same]
      · rw [fu_off (by omega), fu_same]
    · rw [fu_off (i := 22 + p) (by omega), fu_off (i := 102 + p) (by omega), fu_off (i := 86 + p) (by omega), fu_off (i := 22 + p) (by omega), fu_off (i := 102 + p) (by omega), fu_off (i := 86 + p) (by omega), fu_off (i := 22 + p) (by omega), fu_off (i := 102 + p) (by omega), fu_off (i := 86 + p) (by omega)]
      exact h3 q hq
  · by_cases e : q = p
    · subst e; exact ⟨0, by omega, by rw [fu_off (by omega), fu_same]; rfl⟩
    · rw [fu_off (by omega), fu_off (by omega), fu_off (by omega)]; exact h4 q hq
  · rw [fu_off (i := 22 + p) (k := 102 + q) (by omega), fu_off (i := 22 + p) (k := 102 + r) (by omega)]
    by_cases e : q = p
    · subst e; exact fun _ => Or.inr (fu_same _ _ _)
    · rw [fu_off (i := 102 + p) (k := 102 + q) (by omega), fu_off (i := 86 + p) (k := 102 + q) (by omega)]
      by_cases e2 : r = p
      · subst e2; rw [fu_same]; exact fun z => Or.inr z
      · rw [fu_off (by omega), fu_off (by omega)]; exact h5 q r hq hr
  · rw [fu_off (by omega), fu_off (by omega), fu_off (by omega)]; exact h6
theorem c_die {P c : Nat} {th : Int32} {μ : Mu} {S : (Nat → Int32) × (Nat → Int32)} {L : List (Nat × List (Nat × Nat) × List (Nat × Nat))} {H : Nat → Int32} (h : CtxC P c th μ S L H) (hs : SpOk P S.1 L H) {p : Nat} (hp : p < P) (hz : S.1 (86 + p) = 0) : Ev (Dy_die 39 1 c (nI p) μ) (fun _ μ' => CtxC P c th μ' (dieS th H S p) L H ∧ SpOk P (dieS th H S p).1 L H ∧ Off (CR c) μ μ') := by
  obtain ⟨h1, h2, h3, h4, h5⟩ := id h
  have hP := hs.1.1
  obtain ⟨sl, hsl, hse⟩ := hs.1.2.1 p hp
  unfold Dy_die
  rw [fg_isAlive h1 hp, if_pos hz, cl_eq, if_neg (by decide), fg_g1 h1 hp, cl_eq]
  unfold Tx_heirOf
  simp only [Nat.reduceAdd]
  rw [if_neg (nI_pos (by omega)), if_neg (by rw [show (16 : Int32) = nI 16 from rfl]; exact nI_ge (by omega) (by omega)), ldA_nI (by omega) (by omega), (h4 p (by omega)).1, cl_eq]
  refine ev_cl (ev_mono (fg_rise h1 hs.1 hp) ?_)
  rintro _ μ1 ⟨f1, o1⟩
  rw [show Fg_put c (nI p) 5 0 μ1 = _ from fg_put f1 p 5 hp (by omega) 0, cl_eq]
  have f2 := figC_dead f1 p hp 1
  rw [show (1 : Int32) - 1 = 0 by decide] at f2
  rw [show Fg_put c (nI p) 1 0 (up2 μ1 (c + 1) (7 * p + 5) 0) = _ from fg_put f2 p 1 hp (by omega) 0, cl_eq]
  have f3 := figC_put f2 p 1 hp (by omega) 0
  rw [show 6 + 16 * 1 + p = 22 + p by omega] at f3
  have e3 : upd (upd (upd S.1 (102 + p) 0) (86 + p) 1) (22 + p) 0 = upd (upd (upd S.1 (86 + p) 1) (102 + p) 0) (22 + p) 0 := by
    rw [fa_upd_swap S.1 (i := 102 + p) (j := 86 + p) (by omega)]
  rw [e3] at f3
  have n3 := nok_die0 hs.1 hp
  refine ev_cl (ev_mono (c_note (S := (upd (upd (upd S.1 (86 + p) 1) (102 + p) 0) (22 + p) 0, S.2)) f3 (fun k hk => by rw [up2_ne (by omega), up2_ne (by omega), o1 5 (by simp; omega)]; exact h2 k hk) n3 h5 5 (nI p) (S.1 (22 + p))) ?_)
  rintro _ μ4 ⟨f4, b4, o4⟩
  have oo4 : Off (CR c) μ μ4 := off_trans (off_of o1 (by simp [CR])) (off_trans (off_up (by simp [CR])) (off_trans (off_up (by simp [CR])) (off_of o4 (by simp [CR]))))
  have n4 := nok_note (th := th) (S := (upd (upd (upd S.1 (86 + p) 1) (102 + p) 0) (22 + p) 0, S.2)) n3 5 (nI p) (S.1 (22 + p))
  generalize hS1 : noteB th (upd (upd (upd S.1 (86 + p) 1) (102 + p) 0) (22 + p) 0, S.2) 5 (nI p) (S.1 (22 + p)) = S1 at f4 b4 n4
  have hdie : dieS th H S p = (if H p = 0 then (upd S1.1 5 (S1.1 5 + S.1 (22 + p)), S1.2) else if S1.1 (86 + ((H p).toNatClampNeg - 1)) = 0 then noteB th (getsS S1.1 ((H p).toNatClampNeg - 1) (S.1 (22 + p)), S1.2) 3 (nI ((H p).toNatClampNeg - 1)) (moreS S1.1 ((H p).toNatClampNeg - 1) (S.1 (22 + p))) else (upd S1.1 5 (S1.1 5 + S.1 (22 + p)), S1.2)) := by
    rw [← hS1]; rfl
  have lost : ∀ D, D = (upd S1.1 5 (S1.1 5 + S.1 (22 + p)), S1.2) → Ev (gF μ4 c 6 (fun x13 => pF μ4 c 6 (x13 + S.1 (22 + p)) (fun μ14 => some ((), μ14)))) (fun _ μ' => CtxC P c th μ' D L H ∧ SpOk P D.1 L H ∧ Off (CR c) μ μ') := by
    rintro D rfl
    rw [gF_eq, pF_eq, show μ4 c 6 = S1.1 5 from f4.2.2.2.1 6 (by omega) (by omega)]
    have oo := off_trans oo4 (off_up (R := CR c) (a := c) (i := 6) (v := S1.1 5 + S.1 (22 + p)) (by simp [CR]))
    refine ev_some ⟨ctxC_of h (figC_sc f4 6 (by omega) (by omega) _) (fun k hk => ?_) oo, ⟨nok_upd n4 5 _ (by omega) (by omega), hs.2⟩, oo⟩
    rw [up2_ne (by omega)]; exact b4 k hk
  rcases heir_cases hs.2.2 (p := p) (by omega) with hh | ⟨q, hq, hh⟩
  · rw [hh, fg_isAlive_no f4 (v := (0 : Int32) - 1) (Or.inl (by decide)), cl_eq, if_pos rfl]
    exact lost _ (by rw [hdie, if_pos hh])
  · have eq1 : (H p).toNatClampNeg - 1 = q := by rw [hh, nI_clamp (by omega)]; omega
    rw [hh, nI_pred, fg_isAlive f4 hq, cl_eq]
    by_cases ha : S1.1 (86 + q) = 0
    · rw [if_pos ha, if_neg (by decide)]
      refine ev_cl (ev_mono (fg_pour f4 hq (S.1 (22 + p))) ?_)
      rintro r μ5 ⟨rfl, f5, o5⟩
      have n5 : NOk P (getsS S1.1 q (S.1 (22 + p))) := by rw [hse]; exact nok_gets n4 hq ha (by omega)
      refine ev_cl (ev_mono (c_note (S := (getsS S1.1 q (S.1 (22 + p)), S1.2)) f5 (fun k hk => by rw [o5 5 (by simp; omega)]; exact b4 k hk) n5 h5 3 (nI q) (moreS S1.1 q (S.1 (22 + p)))) ?_)
      rintro _ μ6 ⟨f6, b6, o6⟩
      have oo := off_trans oo4 (off_trans (off_of o5 (by simp [CR])) (off_of o6 (by simp [CR])))
      have hD : dieS th H S p = noteB th (getsS S1.1 q (S.1 (22 + p)), S1.2) 3 (nI q) (moreS S1.1 q (S.1 (22 + p))) := by
        rw [hdie, if_neg (by rw [hh]; exact nI_ne0 (by omega) (by omega)), eq1, if_pos ha]
      rw [hD]
      exact ev_some ⟨ctxC_of h f6 b6 oo, ⟨nok_note n5 _ _ _, hs.2⟩, oo⟩
    · rw [if_neg ha, if_pos rfl]
      exact lost _ (by rw [hdie, if_neg (by rw [hh]; exact nI_ne0 (by omega) (by omega)), eq1, if_neg ha])
theorem m_die {P : Nat} {th : Int32} {μ : Mu} {S : (Nat → Int32) × (Nat → Int32)} {L : List (Nat × List (Nat × Nat) × List (Nat × Nat))} {H : Nat → Int32} (h : CtxM P th μ S L H) (hs : SpOk P S.1 L H) {p : Nat} (hp : p < P) : Ev (Mo_dies 59 (nI p) μ) (fun _ μ' => CtxM P th μ' (dieS th H S p) L H ∧ Off RD μ μ') := by
  obtain ⟨h1, h2, h3, h4, h5, h6⟩ := id h
  have hP := hs.1.1
  unfold Mo_dies
  simp (disch := omega) only [Nat.reduceAdd, li_add, ldA_nI, stA_nI]
  rw [h6 p (by omega), show μ 60 (22 + p) = S.1 (22 + p) by rw [h1]]
  have f3 : (up2 (up2 (up2 μ 60 (86 + p) 1) 60 (102 + p) 0) 60 (22 + p) 0) 60 = upd (upd (upd S.1 (86 + p) 1) (102 + p) 0) (22 + p) 0 := by
    rw [up2_row, up2_row, up2_row, h1]
  have g3 : (up2 (up2 (up2 μ 60 (86 + p) 1) 60 (102 + p) 0) 60 (22 + p) 0) 63 = S.2 := by
    rw [up2_ne (by omega), up2_ne (by omega), up2_ne (by omega), h2]
  have n3 := nok_die0 hs.1 hp
  refine ev_cl (ev_mono (m_note (P := P) (th := th) (by rw [up2_ne (by omega), up2_ne (by omega), up2_ne (by omega)]; exact h3) (by rw [f3]; exact n3) 5 (nI p) (S.1 (22 + p))) ?_)
  rintro _ μ4 ⟨f4, b4, o4⟩
  rw [f3, g3] at f4 b4
  have oo4 : Off RD μ μ4 := off_trans (off_up (by simp [RD])) (off_trans (off_up (by simp [RD])) (off_trans (off_up (by simp [RD])) (off_of o4 (by simp [RD]))))
  have n4 := nok_note (th := th) (S := (upd (upd (upd S.1 (86 + p) 1) (102 + p) 0) (22 + p) 0, S.2)) n3 5 (nI p) (S.1 (22 + p))
  have e459 : μ4 59 5 = th := by rw [oo4 59 (by simp [RD])]; exact h3
  generalize hS1 : noteB th (upd (upd (upd S.1 (86 + p) 1) (102 + p) 0) (22 + p) 0, S.2) 5 (nI p) (S.1 (22 + p)) = S1 at f4 b4 n4
  have hdie : dieS th H S p = (if H p = 0 then (upd S1.1 5 (S1.1 5 + S.1 (22 + p)), S1.2) else if S1.1 (86 + ((H p).toNatClampNeg - 1)) = 0 then noteB th (getsS S1.1 ((H p).toNatClampNeg - 1) (S.1 (22 + p)), S1.2) 3 (nI ((H p).toNatClampNeg - 1)) (moreS S1.1 ((H p).toNatClampNeg - 1) (S.1 (22 + p))) else (upd S1.1 5 (S1.1 5 + S.1 (22 + p)), S1.2)) := by
    rw [← hS1]; rfl
  have lost : ∀ D, D = (upd S1.1 5 (S1.1 5 + S.1 (22 + p)), S1.2) → Ev (Mo_dies_84 59 (S.1 (22 + p)) μ4) (fun _ μ' => CtxM P th μ' D L H ∧ Off RD μ μ') := by
    rintro D rfl
    unfold Mo_dies_84
    simp (disch := omega) only [Nat.reduceAdd, ldA_li, stA_li]
    have oo := off_trans oo4 (off_up (R := RD) (a := 60) (i := 5) (v := μ4 60 5 + S.1 (22 + p)) (by simp [RD]))
    exact ev_some ⟨ctxM_of h (by rw [up2_row, f4]) (by rw [up2_ne (by omega), b4]) oo, oo⟩
  rcases heir_cases hs.2.2 (p := p) (by omega) with hh | ⟨q, hq, hh⟩
  · rw [hh, if_pos (by decide)]
    exact lost _ (by rw [hdie, if_pos hh])
  · have eq1 : (H p).toNatClampNeg - 1 = q := by rw [hh, nI_clamp (by omega)]; omega
    rw [hh, nI_pred, if_neg (by rw [n1_ne (by omega)]; exact id), mo_isAlive hP hq, cl_eq, f4]
    by_cases ha : S1.1 (86 + q) = 0
    · rw [if_pos ha, if_neg (by decide)]
      refine ev_cl (ev_mono (m_gets (by omega) (S.1 (22 + p))) ?_)
      rintro r μ5 ⟨rfl, f5, o5⟩
      rw [f4] at f5 ⊢
      obtain ⟨sl, hsl, hse⟩ := hs.1.2.1 p hp
      have n5 : NOk P (getsS S1.1 q (S.1 (22 + p))) := by rw [hse]; exact nok_gets n4 hq ha (by omega)
      refine ev_cl (ev_mono (m_note (P := P) (th := th) (by rw [o5 59 (by simp)]; exact e459) (by rw [f5]; exact n5) 3 (nI q) (moreS S1.1 q (S.1 (22 + p)))) ?_)
      rintro _ μ6 ⟨f6, b6, o6⟩
      rw [f5, o5 63 (by simp), b4] at f6 b6
      have oo := off_trans oo4 (off_trans (off_of o5 (by simp [RD])) (off_of o6 (by simp [RD])))
      have hD : dieS th H S p = noteB th (getsS S1.1 q (S.1 (22 + p)), S1.2) 3 (nI q) (moreS S1.1 q (S.1 (22 + p))) := by
        rw [hdie, if_neg (by rw [hh]; exact nI_ne0 (by omega) (by omega)), eq1, if_pos ha]
      rw [hD]
      exact ev_some ⟨ctxM_of h f6 b6 oo, oo⟩
    · rw [if_neg ha, if_pos rfl]
      exact lost _ (by rw [hdie, if_neg (by rw [hh]; exact nI_ne0 (by omega) (by omega)), eq1, if_neg ha])
