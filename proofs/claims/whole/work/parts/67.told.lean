/-! L3: TOLD: a row told shortly -/
def inc2 (l : List Int32) : List Int32 := l.set (l.length - 2) (l.getD (l.length - 2) 0 + 1)
def rlB (xs : List Int32) : Nat → List Int32
  | 0 => []
  | k + 1 => if 0 < k ∧ xs.getD k 0 = xs.getD (k - 1) 0 then inc2 (rlB xs k) else rlB xs k ++ [1, xs.getD k 0]
theorem inc2_len (l : List Int32) : (inc2 l).length = l.length := by unfold inc2; simp
theorem inc2_at (l : List Int32) (h : 2 ≤ l.length) (j : Nat) : (inc2 l).getD j 0 = if j = l.length - 2 then l.getD (l.length - 2) 0 + 1 else l.getD j 0 := by
  unfold inc2
  rw [List.getD_eq_getElem?_getD, List.getElem?_set]
  by_cases c : j = l.length - 2
  · rw [if_pos c.symm, if_pos (by omega), if_pos c]; rfl
  · rw [if_neg (fun z => c z.symm), if_neg c, ← List.getD_eq_getElem?_getD]
theorem app2_at (l : List Int32) (a b : Int32) (j : Nat) : (l ++ [a, b]).getD j 0 = if j < l.length then l.getD j 0 else if j = l.length then a else if j = l.length + 1 then b else 0 := by
  rw [List.getD_eq_getElem?_getD]
  by_cases c : j < l.length
  · rw [if_pos c, List.getElem?_append_left c, ← List.getD_eq_getElem?_getD]
  · rw [if_neg c, List.getElem?_append_right (by omega)]
    by_cases d : j = l.length
    · rw [if_pos d, d, Nat.sub_self]; rfl
    · rw [if_neg d]
      by_cases e : j = l.length + 1
      · rw [if_pos e, e, show l.length + 1 - l.length = 1 by omega]; rfl
      · rw [if_neg e]
        obtain ⟨m, hm⟩ : ∃ m, j - l.length = m + 2 := ⟨j - l.length - 2, by omega⟩
        rw [hm]; rfl
theorem app2_len (l : List Int32) (a b : Int32) : (l ++ [a, b]).length = l.length + 2 := by simp
theorem rlB_fact (xs : List Int32) : ∀ k, (0 < k → 2 ≤ (rlB xs k).length ∧ (rlB xs k).getD ((rlB xs k).length - 1) 0 = xs.getD (k - 1) 0) ∧ (rlB xs k).length ≤ 2 * k := by
  intro k
  induction k with
  | zero => exact ⟨fun h => absurd h (by omega), Nat.le_refl _⟩
  | succ k ih =>
    obtain ⟨i1, i2⟩ := ih
    have e : rlB xs (k + 1) = if 0 < k ∧ xs.getD k 0 = xs.getD (k - 1) 0 then inc2 (rlB xs k) else rlB xs k ++ [1, xs.getD k 0] := rfl
    rw [e]
    by_cases c : 0 < k ∧ xs.getD k 0 = xs.getD (k - 1) 0
    · obtain ⟨j1, j2⟩ := i1 c.1
      rw [if_pos c, inc2_len, inc2_at _ j1, if_neg (by omega), j2]
      exact ⟨fun _ => ⟨j1, c.2.symm⟩, by omega⟩
    · rw [if_neg c, app2_len, app2_at, if_neg (by omega), if_neg (by omega), if_pos (by omega)]
      exact ⟨fun _ => ⟨by omega, rfl⟩, by omega⟩
theorem rlB_mono (xs : List Int32) {m : Nat} : ∀ d, (rlB xs m).length ≤ (rlB xs (m + d)).length := by
  intro d
  induction d with
  | zero => exact Nat.le_refl _
  | succ d ih =>
    have e : rlB xs (m + d + 1) = if 0 < m + d ∧ xs.getD (m + d) 0 = xs.getD (m + d - 1) 0 then inc2 (rlB xs (m + d)) else rlB xs (m + d) ++ [1, xs.getD (m + d) 0] := rfl
    rw [show m + (d + 1) = m + d + 1 by omega, e]
    split
    · rw [inc2_len]; exact ih
    · rw [app2_len]; omega
/-- fresh: no run goes on into k -/
def frB (xs : List Int32) (k : Nat) : Bool := decide (k = 0 ∨ xs.length ≤ k ∨ xs.getD k 0 ≠ xs.getD (k - 1) 0)
def cfB (xs : List Int32) (k : Nat) : Nat := if frB xs k = true then (rlB xs k).length else (rlB xs k).length - 2
def ofB (xs : List Int32) (k : Nat) : Int32 := if frB xs k = true then 0 else (rlB xs k).getD ((rlB xs k).length - 2) 0
set_option maxHeartbeats 1000000 in
theorem short_c {μ : Mu} {xs : List Int32} (h32 : xs.length ≤ 32) (ho : ∀ j, j < xs.length → μ 47 j = xs.getD j 0) : Ev (Th_tellShortly 45 18 (nI xs.length) μ) (fun r μ' => r = nI (rlB xs xs.length).length ∧ (∀ j, j < (rlB xs xs.length).length → μ' 46 j = (rlB xs xs.length).getD j 0) ∧ Off [46] μ μ') := by
  suffices K : ∀ μ1, Off [46] μ μ1 → (∀ j, j < cfB xs 0 → μ1 46 j = (rlB xs 0).getD j 0) → Ev (Th_tellShortly_7 45 18 (nI xs.length) FU (nI (cfB xs 0)) (ofB xs 0) (nI 0) μ1) (fun r μ' => r = nI (rlB xs xs.length).length ∧ (∀ j, j < (rlB xs xs.length).length → μ' 46 j = (rlB xs xs.length).getD j 0) ∧ Off [46] μ μ') by
    have e1 : cfB xs 0 = 0 := by unfold cfB frB; rw [decide_eq_true (Or.inl rfl), if_pos rfl]; rfl
    have e2 : ofB xs 0 = 0 := by unfold ofB frB; rw [decide_eq_true (Or.inl rfl), if_pos rfl]
    rw [e1, e2] at K
    exact K μ (off_refl _ _) (fun j hj => absurd hj (by omega))
  unfold Th_tellShortly_7
  refine lp_fu (F := fun kb => Th_tellShortly_7b 45 18 kb (nI xs.length)) (z := fun _ _ _ _ => none) xs.length (fun k A => ∀ μ1, Off [46] μ μ1 → (∀ j, j < cfB xs k → μ1 46 j = (rlB xs k).getD j 0) → Ev (A (nI (cfB xs k)) (ofB xs k) (nI k) μ1) (fun r μ' => r = nI (rlB xs xs.length).length ∧ (∀ j, j < (rlB xs xs.length).length → μ' 46 j = (rlB xs xs.length).getD j 0) ∧ Off [46] μ μ')) (by omega) ?_ ?_ 0 (Nat.zero_le _)
  · intro A μ1 hO hj
    show Ev (Th_tellShortly_7b 45 18 A (nI xs.length) _ _ (nI xs.length) μ1) _
    have e1 : cfB xs xs.length = (rlB xs xs.length).length := by unfold cfB frB; rw [decide_eq_true (Or.inr (Or.inl (Nat.le_refl _))), if_pos rfl]
    unfold Th_tellShortly_7b
    rw [if_pos (nI_le (Nat.le_refl _) (by omega)), e1]
    rw [e1] at hj
    exact ev_some ⟨rfl, hj, hO⟩
  · intro k A hk ih μ1 hO hj
    obtain ⟨f1, f2⟩ := rlB_fact xs k
    obtain ⟨g1, g2⟩ := rlB_fact xs (k + 1)
    obtain ⟨g3, g4⟩ := g1 (by omega)
    have e : rlB xs (k + 1) = if 0 < k ∧ xs.getD k 0 = xs.getD (k - 1) 0 then inc2 (rlB xs k) else rlB xs k ++ [1, xs.getD k 0] := rfl
    -- what the step makes
    have hcnt : cfB xs k = (rlB xs (k + 1)).length - 2 ∧ ofB xs k + 1 = (rlB xs (k + 1)).getD ((rlB xs (k + 1)).length - 2) 0 ∧ ∀ j, j < cfB xs k → (rlB xs (k + 1)).getD j 0 = (rlB xs k).getD j 0 := by
      unfold cfB ofB frB
      by_cases c : 0 < k ∧ xs.getD k 0 = xs.getD (k - 1) 0
      · obtain ⟨j1, j2⟩ := f1 c.1
        have hd : decide (k = 0 ∨ xs.length ≤ k ∨ xs.getD k 0 ≠ xs.getD (k - 1) 0) = false := decide_eq_false (by
          rintro (z | z | z)
          · omega
          · omega
          · exact z c.2)
        rw [hd, if_neg (by decide), if_neg (by decide), e, if_pos c, inc2_len]
        refine ⟨rfl, ?_, fun j hj => ?_⟩
        · rw [inc2_at _ j1, if_pos rfl]
        · rw [inc2_at _ j1, if_neg (by omega)]
      · have hd : decide (k = 0 ∨ xs.length ≤ k ∨ xs.getD k 0 ≠ xs.getD (k - 1) 0) = true := decide_eq_true (by
          by_cases z : k = 0
          · exact Or.inl z
          · exact Or.inr (Or.inr (fun y => c ⟨by omega, y⟩)))
        rw [hd, if_pos rfl, if_pos rfl, e, if_neg c, app2_len]
        refine ⟨by omega, ?_, fun j hj => ?_⟩
        · rw [app2_at, if_neg (by omega), if_pos (by omega)]; decide
        · rw [app2_at, if_pos hj]
    obtain ⟨c1, c2, c3⟩ := hcnt
    have hc64 : cfB xs k ≤ 64 := by rw [c1]; omega
    have hlast : frB xs (k + 1) = true → Ev (Th_tellShortly_59 45 18 A (nI xs.length) (nI (cfB xs k)) (ofB xs k + 1) (nI k) μ1) (fun r μ' => r = nI (rlB xs xs.length).length ∧ (∀ j, j < (rlB xs xs.length).length → μ' 46 j = (rlB xs xs.length).getD j 0) ∧ Off [46] μ μ') := by
      intro hfr
      unfold Th_tellShortly_59 Th_tellShortly_64 Th_tellShortly_107
      simp only [Nat.reduceAdd]
      rw [if_neg (by decide), nI_1, if_neg (show ¬ (361 : Int32) ≤ nI (cfB xs k + 1) from nI_ge (b := 361) (by omega) (by omega)), stA_nI (by omega) (by omega), ldA_nI (by omega) (by omega), up2_ne (by omega), hO 47 (by simp), ho k hk, stA_nI (by omega) (by omega), nI_1]
      have e1 : cfB xs (k + 1) = (rlB xs (k + 1)).length := by unfold cfB; rw [if_pos hfr]
      have e2 : ofB xs (k + 1) = 0 := by unfold ofB; rw [if_pos hfr]
      have e3 : nI (cfB xs k) + 2 = nI (rlB xs (k + 1)).length := by rw [show (2 : Int32) = nI 2 from rfl, nI_add]; congr 1; omega
      rw [e1, e2] at ih
      rw [e3]
      refine ih _ (off_trans hO (off_trans (off_up List.mem_cons_self) (off_up List.mem_cons_self))) (fun j h1 => ?_)
      by_cases z1 : j = cfB xs k + 1
      · subst z1
        rw [up2_same, show cfB xs k + 1 = (rlB xs (k + 1)).length - 1 by omega, g4, show k + 1 - 1 = k by omega]
      · rw [up2_off (Or.inr z1)]
        by_cases z2 : j = cfB xs k
        · subst z2; rw [up2_same, c2, c1]
        · rw [up2_off (Or.inr z2), hj j (by omega), c3 j (by omega)]
    show Ev (Th_tellShortly_7b 45 18 A (nI xs.length) _ _ (nI k) μ1) _
    unfold Th_tellShortly_7b
    simp only [Nat.reduceAdd]
    rw [if_neg (nI_ge hk (by omega)), if_neg (show ¬ (32 : Int32) ≤ nI k from nI_ge (b := 32) (by omega) (by omega)), nI_1]
    by_cases d1 : xs.length ≤ k + 1
    · rw [if_pos (nI_le d1 (by omega))]
      exact hlast (by unfold frB; exact decide_eq_true (Or.inr (Or.inl d1)))
    rw [if_neg (nI_ge (by omega) (by omega)), if_neg (show ¬ (32 : Int32) ≤ nI (k + 1) from nI_ge (b := 32) (by omega) (by omega)), ldA_nI (by omega) (by omega), ldA_nI (by omega) (by omega), hO 47 (by simp), ho (k + 1) (by omega), ho k hk]
    by_cases d2 : xs.getD (k + 1) 0 = xs.getD k 0
    · rw [if_pos d2]
      have hfr : frB xs (k + 1) = false := by
        unfold frB
        refine decide_eq_false ?_
        rintro (z | z | z)
        · omega
        · omega
        · exact z d2
      have e1 : cfB xs (k + 1) = cfB xs k := by rw [c1]; unfold cfB; rw [hfr, if_neg (by decide)]
      have e2 : ofB xs (k + 1) = ofB xs k + 1 := by rw [c2]; unfold ofB; rw [hfr, if_neg (by decide)]
      rw [e1, e2] at ih
      unfold Th_tellShortly_64 Th_tellShortly_107
      rw [if_pos rfl, nI_1]
      exact ih μ1 hO (fun j h1 => by rw [hj j h1, c3 j h1])
    · rw [if_neg d2]
      exact hlast (by unfold frB; exact decide_eq_true (Or.inr (Or.inr d2)))
theorem tells_m {ν : Mu} {xs : List Int32} (h32 : xs.length ≤ 32) (hr : (rlB xs xs.length).length ≤ 32) (ho : ∀ j, j < xs.length → ν 89 j = xs.getD j 0) : Ev (Mo_tellsOf 59 (nI xs.length) ν) (fun r ν' => r = nI (rlB xs xs.length).length ∧ (∀ j, j < (rlB xs xs.length).length → ν' 90 j = (rlB xs xs.length).getD j 0) ∧ Off [90] ν ν') := by
  suffices K : ∀ ν1, Off [90] ν ν1 → (∀ j, j < (rlB xs 0).length → ν1 90 j = (rlB xs 0).getD j 0) → Ev (Mo_tellsOf_4 59 (nI xs.length) FU (nI (rlB xs 0).length) (nI 0) ν1) (fun r ν' => r = nI (rlB xs xs.length).length ∧ (∀ j, j < (rlB xs xs.length).length → ν' 90 j = (rlB xs xs.length).getD j 0) ∧ Off [90] ν ν') from K ν (off_refl _ _) (fun j hj => absurd hj (by show ¬ j < 0; omega))
  unfold Mo_tellsOf_4
  refine lp_fu (F := fun kb => Mo_tellsOf_4b 59 kb (nI xs.length)) (z := fun _ _ _ => none) xs.length (fun k A => ∀ ν1, Off [90] ν ν1 → (∀ j, j < (rlB xs k).length → ν1 90 j = (rlB xs k).getD j 0) → Ev (A (nI (rlB xs k).length) (nI k) ν1) (fun r ν' => r = nI (rlB xs xs.length).length ∧ (∀ j, j < (rlB xs xs.length).length → ν' 90 j = (rlB xs xs.length).getD j 0) ∧ Off [90] ν ν')) (by omega) ?_ ?_ 0 (Nat.zero_le _)
  · intro A ν1 hO hj
    show Ev (Mo_tellsOf_4b 59 A (nI xs.length) _ (nI xs.length) ν1) _
    unfold Mo_tellsOf_4b
    rw [if_pos (nI_le (Nat.le_refl _) (by omega))]
    exact ev_some ⟨rfl, hj, hO⟩
  · intro k A hk ih ν1 hO hj
    obtain ⟨f1, f2⟩ := rlB_fact xs k
    have hmon := rlB_mono xs (m := k + 1) (xs.length - (k + 1))
    rw [show k + 1 + (xs.length - (k + 1)) = xs.length by omega] at hmon
    have e : rlB xs (k + 1) = if 0 < k ∧ xs.getD k 0 = xs.getD (k - 1) 0 then inc2 (rlB xs k) else rlB xs k ++ [1, xs.getD k 0] := rfl
    show Ev (Mo_tellsOf_4b 59 A (nI xs.length) _ (nI k) ν1) _
    have push : ¬ (0 < k ∧ xs.getD k 0 = xs.getD (k - 1) 0) → Ev (Mo_tellsOf_51 59 A (nI xs.length) (nI (rlB xs k).length) (nI k) ν1) (fun r ν' => r = nI (rlB xs xs.length).length ∧ (∀ j, j < (rlB xs xs.length).length → ν' 90 j = (rlB xs xs.length).getD j 0) ∧ Off [90] ν ν') := by
      intro c
      rw [if_neg c] at e
      have hl : (rlB xs (k + 1)).length = (rlB xs k).length + 2 := by rw [e, app2_len]
      unfold Mo_tellsOf_51 Mo_tellsOf_76
      simp only [Nat.reduceAdd]
      rw [stA_nI (by omega) (by omega), ldA_nI (by omega) (by omega), up2_ne (by omega), hO 89 (by simp), ho k hk, nI_1, stA_nI (by omega) (by omega), nI_1, show nI (rlB xs k).length + 2 = nI (rlB xs (k + 1)).length by rw [hl]; exact nI_add _ 2]
      refine ih _ (off_trans hO (off_trans (off_up List.mem_cons_self) (off_up List.mem_cons_self))) (fun j h1 => ?_)
      rw [e, app2_at]
      by_cases z1 : j = (rlB xs k).length + 1
      · subst z1; rw [up2_same, if_neg (by omega), if_neg (by omega), if_pos rfl]
      · rw [up2_off (Or.inr z1)]
        by_cases z2 : j = (rlB xs k).length
        · subst z2; rw [up2_same, if_neg (by omega), if_pos rfl]
        · rw [up2_off (Or.inr z2), if_pos (by omega), hj j (by omega)]
    unfold Mo_tellsOf_4b
    simp only [Nat.reduceAdd]
    rw [if_neg (nI_ge hk (by omega))]
    by_cases c0 : k = 0
    · rw [if_pos (by rw [c0]; decide)]
      exact push (by omega)
    obtain ⟨j1, j2⟩ := f1 (by omega)
    rw [if_neg (nI_nle (by omega) (by omega)), show nI k - 1 = nI (k - 1) from pk_sub (b := 1) (by omega), ldA_nI (by omega) (by omega), ldA_nI (by omega) (by omega), hO 89 (by simp), ho k hk, ho (k - 1) (by omega)]
    by_cases c : xs.getD k 0 = xs.getD (k - 1) 0
    · rw [if_pos ⟨by omega, c⟩] at e
      have hl : (rlB xs (k + 1)).length = (rlB xs k).length := by rw [e, inc2_len]
      unfold Mo_tellsOf_76
      rw [if_pos c, show nI (rlB xs k).length - 2 = nI ((rlB xs k).length - 2) from pk_sub (b := 2) j1, ldA_nI (by omega) (by omega), stA_nI (by omega) (by omega), nI_1, hj _ (by omega)]
      rw [hl] at ih
      refine ih _ (off_trans hO (off_up List.mem_cons_self)) (fun j h1 => ?_)
      rw [e, inc2_at _ j1]
      by_cases z1 : j = (rlB xs k).length - 2
      · rw [if_pos z1, z1, up2_same]
      · rw [up2_off (Or.inr z1), if_neg z1, hj j h1]
    · rw [if_neg c]
      exact push (fun z => c z.2)
