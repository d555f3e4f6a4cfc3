/-! L3: CATTLE COME, both sides -/
def note1 (th day : Int32) (x : Int32 × (Nat → Int32)) (w v m : Int32) : Int32 × (Nat → Int32) := if th = 0 then (if x.1 = 150 then x else (x.1 + 1, upd (upd (upd (upd x.2 (4 * x.1.toNatClampNeg) day) (4 * x.1.toNatClampNeg + 1) w) (4 * x.1.toNatClampNeg + 2) v) (4 * x.1.toNatClampNeg + 3) m)) else x
theorem noteB_eq (th : Int32) (S : (Nat → Int32) × (Nat → Int32)) (w v m : Int32) : noteB th S w v m = (upd S.1 2 (note1 th (S.1 0) (S.1 2, S.2) w v m).1, (note1 th (S.1 0) (S.1 2, S.2) w v m).2) := by
  unfold noteB note1
  by_cases c : th = 0
  · rw [if_pos c, if_pos c]
    by_cases d : S.1 2 = 150
    · rw [if_pos d, if_pos d]
      simp only [upd_same2]
    · rw [if_neg d, if_neg d]
  · rw [if_neg c, if_neg c]
    simp only [upd_same2]
def cowF (th day : Int32) (g : Nat → Nat) : Nat → Int32 × (Nat → Int32) → Int32 × (Nat → Int32)
  | 0, x => x
  | k + 1, x => if 0 < g k then note1 th day (cowF th day g k x) 2 (nI k) (nI (g k)) else cowF th day g k x
def cowN (P : Nat) (N : Nat → Int32) (s s' : Nat → Nat) (k : Nat) (l : Int32) : Nat → Int32 := fun i => if 22 ≤ i ∧ i < 22 + P then nI (s' (i - 22)) else if 70 ≤ i ∧ i < 70 + k then N i + nI (s (i - 70) - s' (i - 70)) else if i = 2 then l else N i
def cattleS (P : Nat) (th : Int32) (S : (Nat → Int32) × (Nat → Int32)) (n : Nat) : (Nat → Int32) × (Nat → Int32) := (cowN P S.1 (sal S.1) (lickI P (sal S.1) n) P (cowF th (S.1 0) (fun p => sal S.1 p - lickI P (sal S.1) n p) P (S.1 2, S.2)).1, (cowF th (S.1 0) (fun p => sal S.1 p - lickI P (sal S.1) n p) P (S.1 2, S.2)).2)
theorem note1_rng {th day w v m : Int32} {x : Int32 × (Nat → Int32)} (h : ∃ l, l ≤ 150 ∧ x.1 = nI l) : ∃ l, l ≤ 150 ∧ (note1 th day x w v m).1 = nI l := by
  obtain ⟨l, hl, e⟩ := h
  unfold note1
  by_cases c : th = 0
  · rw [if_pos c]
    by_cases d : x.1 = 150
    · rw [if_pos d]; exact ⟨l, hl, e⟩
    · rw [if_neg d]
      refine ⟨l + 1, ?_, by show x.1 + 1 = _; rw [e, nI_1]⟩
      rcases Nat.lt_or_ge l 150 with q | q
      · omega
      · exact absurd (by rw [e, show l = 150 by omega]; rfl) d
  · rw [if_neg c]; exact ⟨l, hl, e⟩
theorem cowF_rng {th day : Int32} {g : Nat → Nat} {x : Int32 × (Nat → Int32)} (h : ∃ l, l ≤ 150 ∧ x.1 = nI l) : ∀ k, ∃ l, l ≤ 150 ∧ (cowF th day g k x).1 = nI l := by
  intro k
  induction k with
  | zero => exact h
  | succ k ih =>
    show ∃ l, l ≤ 150 ∧ (if 0 < g k then note1 th day (cowF th day g k x) 2 (nI k) (nI (g k)) else cowF th day g k x).1 = nI l
    split
    · exact note1_rng ih
    · exact ih
theorem nok_cow {P : Nat} {N : Nat → Int32} {s' : Nat → Nat} {k : Nat} {l : Int32} (h : NOk P N) (hs : ∀ p, s' p ≤ sal N p) (hk : k ≤ P) (hl : ∃ n, n ≤ 150 ∧ l = nI n) : NOk P (cowN P N (sal N) s' k l) := by
  have hP := h.1
  have e1 : ∀ p, p < P → cowN P N (sal N) s' k l (22 + p) = nI (s' p) := fun p hp => by
    unfold cowN; rw [if_pos (by omega)]; congr 2; omega
  have e2 : ∀ i, 86 ≤ i → cowN P N (sal N) s' k l i = N i := fun i hi => by
    unfold cowN; rw [if_neg (by omega), if_neg (by omega), if_neg (by omega)]
  have e3 : cowN P N (sal N) s' k l 2 = l := by unfold cowN; rw [if_neg (by omega), if_neg (by omega), if_pos rfl]
  have h0 := h
  obtain ⟨h1, h2, h3, h4, h5, h6⟩ := h
  refine ⟨h1, fun p hp => ?_, fun p hp => ?_, fun p hp => ?_, fun p q hp hq => ?_, ?_⟩
  · rw [e1 p hp]
    have := (sal_eq h0 hp).2
    have := hs p
    exact ⟨s' p, by omega, rfl⟩
  · rw [e1 p hp, e2 _ (by omega), e2 _ (by omega)]
    rcases h3 p hp with z | ⟨z1, z2, z3⟩
    · exact Or.inl z
    · refine Or.inr ⟨z1, z2, ?_⟩
      have : sal N p = 0 := by unfold sal; rw [z3]; decide
      rw [show s' p = 0 by have := hs p; omega]; rfl
  · rw [e2 _ (by omega)]; exact h4 p hp
  · rw [e2 _ (by omega), e2 _ (by omega)]; exact h5 p q hp hq
  · rw [e3]; exact hl
set_option maxHeartbeats 1000000 in
theorem c_cow59 {P c : Nat} {th : Int32} {S : (Nat → Int32) × (Nat → Int32)} {s' : Nat → Nat} (hN : NOk P S.1) (hc : c = 2 ∨ c = 42) (hs : ∀ p, s' p ≤ sal S.1 p) (μ : Mu) (hF : FigC P c th μ (setS S.1 P s')) (hB : ∀ k, k < 600 → μ 5 k = S.2 k) (h41 : ∀ p, p < P → μ 41 p = nI (sal S.1 p)) : Ev (Dy_cattleCome_59 39 1 c FU 0 μ) (fun _ μ' => FigC P c th μ' (cowN P S.1 (sal S.1) s' P (cowF th (S.1 0) (fun p => sal S.1 p - s' p) P (S.1 2, S.2)).1) ∧ (∀ k, k < 600 → μ' 5 k = (cowF th (S.1 0) (fun p => sal S.1 p - s' p) P (S.1 2, S.2)).2 k) ∧ Off (CR c) μ μ') := by
  have hP := hN.1
  suffices K : ∀ μ1, Off (CR c) μ μ1 → μ1 41 = μ 41 → FigC P c th μ1 (cowN P S.1 (sal S.1) s' 0 (cowF th (S.1 0) (fun p => sal S.1 p - s' p) 0 (S.1 2, S.2)).1) → (∀ k, k < 600 → μ1 5 k = (cowF th (S.1 0) (fun p => sal S.1 p - s' p) 0 (S.1 2, S.2)).2 k) → Ev (Dy_cattleCome_59 39 1 c FU (nI 0) μ1) (fun _ μ' => FigC P c th μ' (cowN P S.1 (sal S.1) s' P (cowF th (S.1 0) (fun p => sal S.1 p - s' p) P (S.1 2, S.2)).1) ∧ (∀ k, k < 600 → μ' 5 k = (cowF th (S.1 0) (fun p => sal S.1 p - s' p) P (S.1 2, S.2)).2 k) ∧ Off (CR c) μ μ') by
    refine K μ (off_refl _ _) rfl (figC_row (fun k hk => ?_) hF) hB
    unfold cowN setS
    by_cases z : 22 ≤ k ∧ k < 22 + P
    · rw [if_pos z, if_pos z]
    · rw [if_neg z, if_neg z, if_neg (by omega)]
      by_cases y : k = 2
      · rw [if_pos y, y]; rfl
      · rw [if_neg y]
  unfold Dy_cattleCome_59
  refine lp_fu (F := fun kb => Dy_cattleCome_59b 39 1 c kb) (z := fun _ _ => none) P (fun k A => ∀ μ1, Off (CR c) μ μ1 → μ1 41 = μ 41 → FigC P c th μ1 (cowN P S.1 (sal S.1) s' k (cowF th (S.1 0) (fun p => sal S.1 p - s' p) k (S.1 2, S.2)).1) → (∀ j, j < 600 → μ1 5 j = (cowF th (S.1 0) (fun p => sal S.1 p - s' p) k (S.1 2, S.2)).2 j) → Ev (A (nI k) μ1) (fun _ μ' => FigC P c th μ' (cowN P S.1 (sal S.1) s' P (cowF th (S.1 0) (fun p => sal S.1 p - s' p) P (S.1 2, S.2)).1) ∧ (∀ k, k < 600 → μ' 5 k = (cowF th (S.1 0) (fun p => sal S.1 p - s' p) P (S.1 2, S.2)).2 k) ∧ Off (CR c) μ μ')) (by omega) ?_ ?_ 0 (by omega)
  · intro A μ1 hO h1 hF1 hB1
    show Ev (Dy_cattleCome_59b 39 1 c A (nI P) μ1) _
    unfold Dy_cattleCome_59b
    rw [gF_eq, hF1.2.2.1, if_pos (nI_le (Nat.le_refl _) (by omega))]
    exact ev_some ⟨hF1, hB1, hO⟩
  · intro k A hk ih μ1 hO h1 hF1 hB1
    obtain ⟨hsk, hsk9⟩ := sal_eq hN hk
    have hsk' := hs k
    show Ev (Dy_cattleCome_59b 39 1 c A (nI k) μ1) _
    unfold Dy_cattleCome_59b Dy_cattleCome_119
    simp only [Nat.reduceAdd]
    have e22 : cowN P S.1 (sal S.1) s' k (cowF th (S.1 0) (fun p => sal S.1 p - s' p) k (S.1 2, S.2)).1 (22 + k) = nI (s' k) := by
      unfold cowN; rw [if_pos (by omega)]; congr 2; omega
    rw [gF_eq, hF1.2.2.1, if_neg (nI_ge hk (by omega)), if_neg (by rw [show (16 : Int32) = nI 16 from rfl]; exact nI_ge (by omega) (by omega)), ldA_nI (by omega) (by omega), h1, h41 k hk, fg_g1 hF1 hk, cl_eq, e22, nI_1]
    have hstep : cowF th (S.1 0) (fun p => sal S.1 p - s' p) (k + 1) (S.1 2, S.2) = if 0 < sal S.1 k - s' k then note1 th (S.1 0) (cowF th (S.1 0) (fun p => sal S.1 p - s' p) k (S.1 2, S.2)) 2 (nI k) (nI (sal S.1 k - s' k)) else cowF th (S.1 0) (fun p => sal S.1 p - s' p) k (S.1 2, S.2) := rfl
    rw [hstep] at ih
    have hrng := cowF_rng (th := th) (day := S.1 0) (g := fun p => sal S.1 p - s' p) (x := (S.1 2, S.2)) hN.2.2.2.2.2 k
    generalize cowF th (S.1 0) (fun p => sal S.1 p - s' p) k (S.1 2, S.2) = y at *
    by_cases c1 : sal S.1 k ≤ s' k
    · rw [if_pos ((subI_le (by omega) (by omega)).mpr c1)]
      rw [if_neg (by omega)] at ih
      refine ih μ1 hO h1 (figC_row (fun j hj => ?_) hF1) hB1
      unfold cowN
      by_cases z : 22 ≤ j ∧ j < 22 + P
      · rw [if_pos z, if_pos z]
      · rw [if_neg z, if_neg z]
        by_cases w : 70 ≤ j ∧ j < 70 + k
        · rw [if_pos w, if_pos (by omega)]
        · rw [if_neg w]
          by_cases v : j = 70 + k
          · rw [if_pos (by omega), if_neg (by omega), show j - 70 = k by omega, show sal S.1 k - s' k = 0 by omega, nI_0, Int32.add_zero]
          · rw [if_neg (by omega)]
    · rw [if_neg (fun z => c1 ((subI_le (by omega) (by omega)).mp z)), pk_sub (by omega)]
      rw [if_pos (by omega)] at ih
      refine ev_cl (ev_mono (fg_a hF1 k 4 (70 + k) 4 rfl (by omega) hk (by omega) (nI (sal S.1 k - s' k))) ?_)
      rintro _ μ2 ⟨f2, o2⟩
      have n2 : NOk P (upd (cowN P S.1 (sal S.1) s' k y.1) (70 + k) (cowN P S.1 (sal S.1) s' k y.1 (70 + k) + nI (sal S.1 k - s' k))) := nok_upd (nok_cow hN hs (by omega) hrng) _ _ (by omega) (by omega)
      refine ev_cl (ev_mono (c_note (S := (upd (cowN P S.1 (sal S.1) s' k y.1) (70 + k) (cowN P S.1 (sal S.1) s' k y.1 (70 + k) + nI (sal S.1 k - s' k)), y.2)) f2 (fun j hj => by rw [o2 5 (by simp; omega)]; exact hB1 j hj) n2 hc 2 (nI k) (nI (sal S.1 k - s' k))) ?_)
      rintro _ μ3 ⟨f3, b3, o3⟩
      rw [noteB_eq] at f3 b3
      have z0 : (upd (cowN P S.1 (sal S.1) s' k y.1) (70 + k) (cowN P S.1 (sal S.1) s' k y.1 (70 + k) + nI (sal S.1 k - s' k))) 0 = S.1 0 := by
        rw [fu_off (by omega)]; unfold cowN; rw [if_neg (by omega), if_neg (by omega), if_neg (by omega)]
      have z2 : (upd (cowN P S.1 (sal S.1) s' k y.1) (70 + k) (cowN P S.1 (sal S.1) s' k y.1 (70 + k) + nI (sal S.1 k - s' k))) 2 = y.1 := by
        rw [fu_off (by omega)]; unfold cowN; rw [if_neg (by omega), if_neg (by omega), if_pos rfl]
      simp only [z0, z2] at f3 b3
      refine ih μ3 (off_trans hO (off_trans (off_of o2 (by simp [CR])) (off_of o3 (by simp [CR])))) (by rw [o3 41 (by simp; omega), o2 41 (by simp; omega)]; exact h1) (figC_row (fun j hj => ?_) f3) b3
      unfold upd cowN
      by_cases v2 : j = 2
      · rw [if_neg (by omega), if_neg (by omega), if_pos v2, if_pos v2]
      · rw [if_neg v2, if_neg v2]
        by_cases v : j = 70 + k
        · rw [if_pos v, if_neg (by omega), if_pos (by omega), if_neg (by omega), if_neg (by omega), v, show 70 + k - 70 = k by omega]
          rw [if_neg (by omega)]
        · rw [if_neg v, if_neg v2]
          by_cases z : 22 ≤ j ∧ j < 22 + P
          · rw [if_pos z, if_pos z]
          · rw [if_neg z, if_neg z]
            by_cases w : 70 ≤ j ∧ j < 70 + k
            · rw [if_pos w, if_pos (by omega)]
            · rw [if_neg w, if_neg (by omega)]
set_option maxHeartbeats 1000000 in
theorem c_cattle {P c : Nat} {th : Int32} {μ : Mu} {S : (Nat → Int32) × (Nat → Int32)} {L : List (Nat × List (Nat × Nat) × List (Nat × Nat))} {H : Nat → Int32} (h : CtxC P c th μ S L H) (hs : SpOk P S.1 L H) {n : Nat} (hn : n ≤ 9999) : Ev (Dy_cattleCome 39 1 c (nI n) μ) (fun _ μ' => CtxC P c th μ' (cattleS P th S n) L H ∧ SpOk P (cattleS P th S n).1 L H ∧ Off (CR c) μ μ') := by
  obtain ⟨h1, h2, h3, h4, h5⟩ := id h
  have hN := hs.1
  have hP := hN.1
  have hle := lickI_le P (sal S.1) n
  have nfin : NOk P (cattleS P th S n).1 := nok_cow hN hle (Nat.le_refl _) (cowF_rng hN.2.2.2.2.2 P)
  -- the rounds
  have rounds : ∀ μ1, Off (CR c) μ μ1 → (∀ p, p < P → μ1 41 p = nI (sal S.1 p)) → FigC P c th μ1 (setS S.1 P (sal S.1)) → (∀ k, k < 600 → μ1 5 k = S.2 k) → Ev (Dy_cattleCome_31 39 1 c FU (nI n) 0 μ1) (fun _ μ' => CtxC P c th μ' (cattleS P th S n) L H ∧ SpOk P (cattleS P th S n).1 L H ∧ Off (CR c) μ μ') := by
    intro μa hOa h41 hFa hBa
    have ended : ∀ μ1, Off (CR c) μ μ1 → (∀ p, p < P → μ1 41 p = nI (sal S.1 p)) → FigC P c th μ1 (setS S.1 P (lickI P (sal S.1) n)) → (∀ k, k < 600 → μ1 5 k = S.2 k) → Ev (Dy_cattleCome_56 39 1 c μ1) (fun _ μ' => CtxC P c th μ' (cattleS P th S n) L H ∧ SpOk P (cattleS P th S n).1 L H ∧ Off (CR c) μ μ') := by
      intro μ1 hO h41 hF hB
      unfold Dy_cattleCome_56
      refine ev_mono (c_cow59 hN h5 hle μ1 hF hB h41) ?_
      rintro _ μ2 ⟨f, b, o⟩
      exact ⟨ctxC_of h f b (off_trans hO o), ⟨nfin, hs.2⟩, off_trans hO o⟩
    suffices K : ∀ μ1 s l, Off (CR c) μ μ1 → (∀ p, p < P → μ1 41 p = nI (sal S.1 p)) → (∀ k, k < 600 → μ1 5 k = S.2 k) → FigC P c th μ1 (setS S.1 P s) → (∀ p, p < P → s p ≤ 9999) → l ≤ 9999 → lickI P (sal S.1) n = lickI P s l → (l = 0 ∨ ((∀ p, p < P → s p = 0) ∧ 0 ≤ 16) ∨ lowM P s + 0 ≤ 15) → Ev (Dy_cattleCome_31 39 1 c FU (nI l) (nI 0) μ1) (fun _ μ' => CtxC P c th μ' (cattleS P th S n) L H ∧ SpOk P (cattleS P th S n).1 L H ∧ Off (CR c) μ μ') by
      refine K μa (sal S.1) n hOa h41 hBa hFa (fun p hp => (sal_eq hN hp).2) hn rfl ?_
      by_cases z : P = 0
      · exact Or.inr (Or.inl ⟨fun p hp => by omega, by omega⟩)
      · have := lowM_le (s := sal S.1) (show 0 < P by omega)
        exact Or.inr (Or.inr (by omega))
    unfold Dy_cattleCome_31
    refine lp_fu (F := fun kb => Dy_cattleCome_31b 39 1 c kb) (z := fun _ _ _ => none) 17 (fun k A => ∀ μ1 s l, Off (CR c) μ μ1 → (∀ p, p < P → μ1 41 p = nI (sal S.1 p)) → (∀ k, k < 600 → μ1 5 k = S.2 k) → FigC P c th μ1 (setS S.1 P s) → (∀ p, p < P → s p ≤ 9999) → l ≤ 9999 → lickI P (sal S.1) n = lickI P s l → (l = 0 ∨ ((∀ p, p < P → s p = 0) ∧ k ≤ 16) ∨ lowM P s + k ≤ 15) → Ev (A (nI l) (nI k) μ1) (fun _ μ' => CtxC P c th μ' (cattleS P th S n) L H ∧ SpOk P (cattleS P th S n).1 L H ∧ Off (CR c) μ μ')) (by omega) ?_ ?_ 0 (by omega)
    · intro A μ1 s l hO h41 hB hF hs9 hl hli hinv
      show Ev (Dy_cattleCome_31b 39 1 c A (nI l) (nI 17) μ1) _
      unfold Dy_cattleCome_31b
      rw [if_pos (by decide)]
      have : l = 0 := by omega
      subst this
      exact ended μ1 hO h41 (by rw [hli]; exact hF) hB
    · intro k A hk ih μ1 s l hO h41 hB hF hs9 hl hli hinv
      show Ev (Dy_cattleCome_31b 39 1 c A (nI l) (nI k) μ1) _
      unfold Dy_cattleCome_31b
      rw [if_neg (show ¬ (16 : Int32) < nI k from nI_nlt (a := 16) (by omega) (by omega))]
      by_cases z : l = 0
      · subst z
        rw [if_pos (by decide)]
        exact ended μ1 hO h41 (by rw [hli]; exact hF) hB
      · rw [if_neg (nI_nle (by omega) (by omega))]
        refine ev_cl (ev_mono (c_lick hF hs9 hl) ?_)
        rintro r μ2 ⟨g, s1, hg, rfl, f2, e2, o2, z1, z2⟩
        rw [nI_1, pk_sub hg]
        refine ih μ2 s1 (l - g) (off_trans hO (off_of o2 (by simp [CR]))) (fun p hp => by rw [o2 41 (by simp; omega)]; exact h41 p hp) (fun j hj => by rw [o2 5 (by simp; omega)]; exact hB j hj) f2 (fun p hp => by rw [e2]; exact Nat.le_trans (lickI_le _ _ _ _) (hs9 p hp)) (by omega) ?_ ?_
        · rw [hli, e2, ← lickI_add, Nat.add_sub_cancel' hg]
        · rcases hinv with y | ⟨y1, y2⟩ | y
          · exact absurd y z
          · exact Or.inl (by have := z1 y1; omega)
          · rcases z2 with w | w | w
            · exact Or.inl (by omega)
            · exact Or.inr (Or.inl ⟨w, by omega⟩)
            · exact Or.inr (Or.inr (by omega))
  -- the salts before
  have e0 : FigC P c th μ (setS S.1 P (sal S.1)) := figC_row (fun k hk => by
    unfold setS
    by_cases z : 22 ≤ k ∧ k < 22 + P
    · rw [if_pos z]
      have := (sal_eq hN (p := k - 22) (by omega)).1
      rw [show 22 + (k - 22) = k by omega] at this
      exact this.symm
    · rw [if_neg z]) h1
  suffices K : ∀ μ1, Off [41] μ μ1 → (∀ p, p < 0 → p < P → μ1 41 p = nI (sal S.1 p)) → Ev (Dy_cattleCome_2 39 1 c (nI n) FU (nI 0) μ1) (fun _ μ' => CtxC P c th μ' (cattleS P th S n) L H ∧ SpOk P (cattleS P th S n).1 L H ∧ Off (CR c) μ μ') from K μ (off_refl _ _) (fun p hp => absurd hp (by omega))
  unfold Dy_cattleCome_2
  refine lp_fu (F := fun kb => Dy_cattleCome_2b 39 1 c kb (nI n)) (z := fun _ _ => none) 16 (fun k A => ∀ μ1, Off [41] μ μ1 → (∀ p, p < k → p < P → μ1 41 p = nI (sal S.1 p)) → Ev (A (nI k) μ1) (fun _ μ' => CtxC P c th μ' (cattleS P th S n) L H ∧ SpOk P (cattleS P th S n).1 L H ∧ Off (CR c) μ μ')) (by omega) ?_ ?_ 0 (by omega)
  · intro A μ1 hO hp
    show Ev (Dy_cattleCome_2b 39 1 c A (nI n) (nI 16) μ1) _
    unfold Dy_cattleCome_2b
    rw [if_pos (by decide)]
    exact rounds μ1 (off_of hO (by simp [CR])) (fun p h => hp p (by omega) h) (figC_off hO (by simp; omega) (by simp; omega) (by simp; omega) e0) (fun k hk => by rw [hO 5 (by simp)]; exact h2 k hk)
  · intro k A hk ih μ1 hO hp
    have hf : FigC P c th μ1 S.1 := figC_off hO (by simp; omega) (by simp; omega) (by simp; omega) h1
    show Ev (Dy_cattleCome_2b 39 1 c A (nI n) (nI k) μ1) _
    unfold Dy_cattleCome_2b
    simp only [Nat.reduceAdd]
    rw [if_neg (by rw [show (16 : Int32) = nI 16 from rfl]; exact nI_ge (by omega) (by omega))]
    by_cases z : k < P
    · rw [fg_g1 hf z, cl_eq, stA_nI (by omega) (by omega), nI_1, (sal_eq hN z).1]
      refine ih _ (off_trans hO (off_up List.mem_cons_self)) (fun p h1 h2 => ?_)
      by_cases y : p = k
      · subst y; rw [up2_same]
      · rw [up2_off (Or.inr y)]; exact hp p (by omega) h2
    · rw [fg_get_no hf (nI k) 1 (Or.inr (nI_le (by omega) (by omega))), cl_eq, stA_nI (by omega) (by omega), nI_1]
      refine ih _ (off_trans hO (off_up List.mem_cons_self)) (fun p h1 h2 => ?_)
      rw [up2_off (Or.inr (by omega))]; exact hp p (by omega) h2
set_option maxHeartbeats 1000000 in
theorem m_cattle {P : Nat} {th : Int32} {μ : Mu} {S : (Nat → Int32) × (Nat → Int32)} {L : List (Nat × List (Nat × Nat) × List (Nat × Nat))} {H : Nat → Int32} (h : CtxM P th μ S L H) (hs : SpOk P S.1 L H) {n : Nat} (hn : n ≤ 9999) : Ev (Mo_cattleLick 59 (nI n) μ) (fun _ μ' => CtxM P th μ' (cattleS P th S n) L H ∧ Off RD μ μ') := by
  obtain ⟨h1, h2, h3, h4, h5, h6⟩ := id h
  have hN := hs.1
  have hP := hN.1
  have hle := lickI_le P (sal S.1)
  have e59 : ∀ μ1, Off RD μ μ1 → μ1 59 = μ 59 := fun μ1 hO => hO 59 (by simp [RD])
  -- the notes
  have notes : ∀ μa, Off RD μ μa → μa 60 = cowN P S.1 (sal S.1) (lickI P (sal S.1) n) P (S.1 2) → μa 63 = S.2 → (∀ p, p < P → μa 80 p = nI (sal S.1 p - lickI P (sal S.1) n p)) → Ev (Mo_cattleLick_103 59 FU 0 μa) (fun _ μ' => CtxM P th μ' (cattleS P th S n) L H ∧ Off RD μ μ') := by
    intro μa hOa ha60 ha63 ha80
    suffices K : ∀ μ1, Off RD μ μ1 → μ1 80 = μa 80 → μ1 60 = cowN P S.1 (sal S.1) (lickI P (sal S.1) n) P (cowF th (S.1 0) (fun p => sal S.1 p - lickI P (sal S.1) n p) 0 (S.1 2, S.2)).1 → μ1 63 = (cowF th (S.1 0) (fun p => sal S.1 p - lickI P (sal S.1) n p) 0 (S.1 2, S.2)).2 → Ev (Mo_cattleLick_103 59 FU (nI 0) μ1) (fun _ μ' => CtxM P th μ' (cattleS P th S n) L H ∧ Off RD μ μ') from K μa hOa rfl ha60 ha63
    unfold Mo_cattleLick_103
    refine lp_fu (F := fun kb => Mo_cattleLick_103b 59 kb) (z := fun _ _ => none) P (fun k A => ∀ μ1, Off RD μ μ1 → μ1 80 = μa 80 → μ1 60 = cowN P S.1 (sal S.1) (lickI P (sal S.1) n) P (cowF th (S.1 0) (fun p => sal S.1 p - lickI P (sal S.1) n p) k (S.1 2, S.2)).1 → μ1 63 = (cowF th (S.1 0) (fun p => sal S.1 p - lickI P (sal S.1) n p) k (S.1 2, S.2)).2 → Ev (A (nI k) μ1) (fun _ μ' => CtxM P th μ' (cattleS P th S n) L H ∧ Off RD μ μ')) (by omega) ?_ ?_ 0 (by omega)
    · intro A μ1 hO h80 h60 h63
      show Ev (Mo_cattleLick_103b 59 A (nI P) μ1) _
      unfold Mo_cattleLick_103b
      rw [gF_eq, e59 μ1 hO, h4, if_pos (nI_le (Nat.le_refl _) (by omega))]
      exact ev_some ⟨ctxM_of h h60 h63 hO, hO⟩
    · intro k A hk ih μ1 hO h80 h60 h63
      obtain ⟨hsk, hsk9⟩ := sal_eq hN hk
      have hlk := hle n k
      show Ev (Mo_cattleLick_103b 59 A (nI k) μ1) _
      unfold Mo_cattleLick_103b Mo_cattleLick_132
      simp only [Nat.reduceAdd]
      rw [gF_eq, e59 μ1 hO, h4, if_neg (nI_ge hk (by omega)), ldA_nI (by omega) (by omega), h80, ha80 k hk, nI_1]
      have hstep : cowF th (S.1 0) (fun p => sal S.1 p - lickI P (sal S.1) n p) (k + 1) (S.1 2, S.2) = if 0 < sal S.1 k - lickI P (sal S.1) n k then note1 th (S.1 0) (cowF th (S.1 0) (fun p => sal S.1 p - lickI P (sal S.1) n p) k (S.1 2, S.2)) 2 (nI k) (nI (sal S.1 k - lickI P (sal S.1) n k)) else cowF th (S.1 0) (fun p => sal S.1 p - lickI P (sal S.1) n p) k (S.1 2, S.2) := rfl
      rw [hstep] at ih
      have hrng := cowF_rng (th := th) (day := S.1 0) (g := fun p => sal S.1 p - lickI P (sal S.1) n p) (x := (S.1 2, S.2)) hN.2.2.2.2.2 k
      generalize cowF th (S.1 0) (fun p => sal S.1 p - lickI P (sal S.1) n p) k (S.1 2, S.2) = y at *
      by_cases c1 : 0 < sal S.1 k - lickI P (sal S.1) n k
      · rw [if_neg (nI_nle c1 (by omega)), ldA_nI (by omega) (by omega), h80, ha80 k hk]
        rw [if_pos c1] at ih
        have n2 : NOk P (μ1 60) := by rw [h60]; exact nok_cow hN (hle n) (Nat.le_refl _) hrng
        refine ev_cl (ev_mono (m_note (P := P) (th := th) (by rw [e59 μ1 hO]; exact h3) n2 2 (nI k) (nI (sal S.1 k - lickI P (sal S.1) n k))) ?_)
        rintro _ μ3 ⟨f3, b3, o3⟩
        rw [h60, h63, noteB_eq] at f3 b3
        have z0 : cowN P S.1 (sal S.1) (lickI P (sal S.1) n) P y.1 0 = S.1 0 := by
          unfold cowN; rw [if_neg (by omega), if_neg (by omega), if_neg (by omega)]
        have z2 : cowN P S.1 (sal S.1) (lickI P (sal S.1) n) P y.1 2 = y.1 := by
          unfold cowN; rw [if_neg (by omega), if_neg (by omega), if_pos rfl]
        simp only [z0, z2] at f3 b3
        refine ih μ3 (off_trans hO (off_of o3 (by simp [RD]))) (by rw [o3 80 (by simp)]; exact h80) ?_ b3
        rw [f3]
        funext j
        unfold upd cowN
        by_cases v2 : j = 2
        · rw [if_pos v2, if_neg (by omega), if_neg (by omega), if_pos v2]
        · rw [if_neg v2, if_neg v2, if_neg v2]
      · rw [if_pos (show nI (sal S.1 k - lickI P (sal S.1) n k) ≤ 0 from nI_le (b := 0) (by omega) (by omega))]
        rw [if_neg c1] at ih
        exact ih μ1 hO h80 h60 h63
  -- grain by grain
  have grains : ∀ μa, Off RD μ μa → μa 60 = S.1 → μa 63 = S.2 → (∀ p, p < 16 → μa 80 p = 0) → Ev (Mo_cattleLick_23 59 (nI n) FU 0 μa) (fun _ μ' => CtxM P th μ' (cattleS P th S n) L H ∧ Off RD μ μ') := by
    intro μa hOa ha60 ha63 ha80
    suffices K : ∀ μ1, Off RD μ μ1 → μ1 60 = cowN P S.1 (sal S.1) (lickI P (sal S.1) 0) P (S.1 2) → μ1 63 = S.2 → (∀ p, p < P → μ1 80 p = nI (sal S.1 p - lickI P (sal S.1) 0 p)) → Ev (Mo_cattleLick_23 59 (nI n) FU (nI 0) μ1) (fun _ μ' => CtxM P th μ' (cattleS P th S n) L H ∧ Off RD μ μ') by
      refine K μa hOa ?_ ha63 (fun p hp => by rw [ha80 p (by omega)]; show 0 = nI (sal S.1 p - sal S.1 p); rw [Nat.sub_self]; rfl)
      rw [ha60]
      funext i
      unfold cowN
      show _ = if 22 ≤ i ∧ i < 22 + P then nI (sal S.1 (i - 22)) else if 70 ≤ i ∧ i < 70 + P then S.1 i + nI (sal S.1 (i - 70) - sal S.1 (i - 70)) else if i = 2 then S.1 2 else S.1 i
      by_cases z : 22 ≤ i ∧ i < 22 + P
      · rw [if_pos z]
        have := (sal_eq hN (p := i - 22) (by omega)).1
        rw [show 22 + (i - 22) = i by omega] at this
        exact this
      · rw [if_neg z, Nat.sub_self, nI_0, Int32.add_zero]
        by_cases w : 70 ≤ i ∧ i < 70 + P
        · rw [if_pos w]
        · rw [if_neg w]
          by_cases v : i = 2
          · rw [if_pos v, v]
          · rw [if_neg v]
    unfold Mo_cattleLick_23
    refine lp_fu (F := fun kb => Mo_cattleLick_23b 59 kb (nI n)) (z := fun _ _ => none) n (fun k A => ∀ μ1, Off RD μ μ1 → μ1 60 = cowN P S.1 (sal S.1) (lickI P (sal S.1) k) P (S.1 2) → μ1 63 = S.2 → (∀ p, p < P → μ1 80 p = nI (sal S.1 p - lickI P (sal S.1) k p)) → Ev (A (nI k) μ1) (fun _ μ' => CtxM P th μ' (cattleS P th S n) L H ∧ Off RD μ μ')) (by omega) ?_ ?_ 0 (by omega)
    · intro A μ1 hO h60 h63 h80
      show Ev (Mo_cattleLick_23b 59 A (nI n) (nI n) μ1) _
      unfold Mo_cattleLick_23b
      rw [if_pos (nI_le (Nat.le_refl _) (by omega))]
      exact notes μ1 hO h60 h63 h80
    · intro k A hk ih μ1 hO h60 h63 h80
      show Ev (Mo_cattleLick_23b 59 A (nI n) (nI k) μ1) _
      have hss : ∀ p, p < P → μ1 60 (22 + p) = nI (lickI P (sal S.1) k p) ∧ lickI P (sal S.1) k p ≤ 9999 := fun p hp => by
        have := (sal_eq hN hp).2
        have := hle k p
        refine ⟨?_, by omega⟩
        rw [h60]; unfold cowN; rw [if_pos (by omega)]; congr 2; omega
      unfold Mo_cattleLick_23b Mo_cattleLick_95
      rw [if_neg (nI_ge hk (by omega)), mo_tallest (by rw [e59 μ1 hO]; exact h4) hP hss, cl_eq, nI_1]
      rcases talS_spec (lickI P (sal S.1) k) P with ⟨t1, t2, t3⟩ | ⟨i, i1, i2, i3, i4, i5, i6⟩
      · rw [if_pos (by rw [t1]; decide)]
        have e : lickI P (sal S.1) (k + 1) = lickI P (sal S.1) k := by
          show lick1 P (lickI P (sal S.1) k) = _
          funext j; unfold lick1; rw [t1, if_neg (by omega)]
        rw [e] at ih
        exact ih μ1 hO h60 h63 h80
      · rw [i2, tI_succ, if_neg (by rw [n1_ne (by omega)]; exact id)]
        have e : ∀ j, lickI P (sal S.1) (k + 1) j = if j = i then lickI P (sal S.1) k j - 1 else lickI P (sal S.1) k j := by
          intro j
          show lick1 P (lickI P (sal S.1) k) j = _
          unfold lick1
          rw [i2]
          by_cases z : j = i
          · rw [if_pos (by omega), if_pos z]
          · rw [if_neg (by omega), if_neg z]
        simp (disch := omega) only [Nat.reduceAdd, li_add, ldA_nI, stA_nI]
        have hi9 := (sal_eq hN i1).2
        have hle1 := hle k i
        refine ih _ (off_trans hO (off_trans (off_up (by simp [RD])) (off_trans (off_up (by simp [RD])) (off_up (by simp [RD]))))) ?_ (by rw [up2_ne (by omega), up2_ne (by omega), up2_ne (by omega)]; exact h63) (fun p hp => ?_)
        · rw [up2_ne (by omega), up2_row, up2_row, (hss i i1).1]
          rw [h60]
          funext j
          unfold upd cowN
          by_cases z1 : j = 70 + i
          · subst z1
            rw [if_pos rfl, if_neg (by omega), if_neg (by omega), if_pos (by omega), if_neg (by omega), if_pos (by omega), show 70 + i - 70 = i by omega, e i, if_pos rfl, Int32.add_assoc, nI_1]
            congr 2; omega
          · rw [if_neg z1]
            by_cases z2 : j = 22 + i
            · subst z2
              rw [if_pos rfl, if_pos (by omega), show 22 + i - 22 = i by omega, e i, if_pos rfl]
              obtain ⟨q, hq⟩ : ∃ q, lickI P (sal S.1) k i = q + 1 := ⟨lickI P (sal S.1) k i - 1, by omega⟩
              rw [hq, nI_pred]; rfl
            · rw [if_neg z2]
              by_cases w : 22 ≤ j ∧ j < 22 + P
              · rw [if_pos w, if_pos w, e, if_neg (by omega)]
              · rw [if_neg w, if_neg w]
                by_cases v : 70 ≤ j ∧ j < 70 + P
                · rw [if_pos v, if_pos v, e, if_neg (by omega)]
                · rw [if_neg v, if_neg v]
        · by_cases z : p = i
          · subst z
            rw [up2_same, up2_ne (by omega), up2_ne (by omega), h80 p hp, nI_1, e p, if_pos rfl]
            congr 1; omega
          · rw [up2_off (Or.inr z), up2_ne (by omega), up2_ne (by omega), h80 p hp, e p, if_neg z]
  suffices K : ∀ μ1, Off [80] μ μ1 → (∀ p, p < 0 → μ1 80 p = 0) → Ev (Mo_cattleLick_2 59 (nI n) FU (nI 0) μ1) (fun _ μ' => CtxM P th μ' (cattleS P th S n) L H ∧ Off RD μ μ') from K μ (off_refl _ _) (fun p hp => absurd hp (by omega))
  unfold Mo_cattleLick_2
  refine lp_fu (F := fun kb => Mo_cattleLick_2b 59 kb (nI n)) (z := fun _ _ => none) 16 (fun k A => ∀ μ1, Off [80] μ μ1 → (∀ p, p < k → μ1 80 p = 0) → Ev (A (nI k) μ1) (fun _ μ' => CtxM P th μ' (cattleS P th S n) L H ∧ Off RD μ μ')) (by omega) ?_ ?_ 0 (by omega)
  · intro A μ1 hO hp
    show Ev (Mo_cattleLick_2b 59 A (nI n) (nI 16) μ1) _
    unfold Mo_cattleLick_2b
    rw [if_pos (by decide)]
    exact grains μ1 (off_of hO (by simp [RD])) (by rw [hO 60 (by simp), h1]) (by rw [hO 63 (by simp), h2]) hp
  · intro k A hk ih μ1 hO hp
    show Ev (Mo_cattleLick_2b 59 A (nI n) (nI k) μ1) _
    unfold Mo_cattleLick_2b
    simp only [Nat.reduceAdd]
    rw [if_neg (by rw [show (16 : Int32) = nI 16 from rfl]; exact nI_ge (by omega) (by omega)), stA_nI (by omega) (by omega), nI_1]
    refine ih _ (off_trans hO (off_up List.mem_cons_self)) (fun p h => ?_)
    by_cases z : p = k
    · subst z; rw [up2_same]
    · rw [up2_off (Or.inr z)]; exact hp p (by omega)
