/-! L3: TOLD: the calls -/
def lsS : Nat → List Int32
  | 0 => [1]
  | k + 1 => rlB (lsS k) (lsS k).length
theorem lsS_len : ∀ k, k < 11 → 1 ≤ (lsS k).length ∧ (lsS k).length ≤ 32 := by decide +kernel
theorem cp_row {α : Type} {μ : Mu} {a0 n0 a1 n1 m : Nat} {f : Mu → Option α} (h0 : m ≤ n0) (h1 : m ≤ n1) (hm : m < 2 ^ 31) : cpA μ a0 n0 0 a1 n1 0 (nI m) f = f (cp2 μ a0 0 a1 0 m) := by
  have e0 : (0 : Int32).toNatClampNeg = 0 := by decide
  have ok : cpOk n0 n1 0 0 (nI m) = true := by
    have l0 : ¬ nI m < 0 := nI_pos hm
    unfold cpOk
    rw [nI_clamp hm, e0]
    simp [l0, h0, h1]
  unfold cpA
  rw [if_pos ok, nI_clamp hm, e0]
theorem cp2_at {μ : Mu} {a0 a1 m : Nat} (j : Nat) : (cp2 μ a0 0 a1 0 m) a1 j = if j < m then μ a0 j else μ a1 j := by
  unfold cp2 va_cpy
  rw [if_pos rfl]
  by_cases c : j < m
  · rw [if_pos ⟨Nat.zero_le _, by omega⟩, if_pos c]; congr 1; omega
  · rw [if_neg (by omega), if_neg c]
theorem cp2_off {μ : Mu} {a0 a1 m k : Nat} (h : k ≠ a1) : (cp2 μ a0 0 a1 0 m) k = μ k := by
  funext j; unfold cp2; rw [if_neg h]
theorem again_c {μ : Mu} {n : Nat} (hn : n ≤ 10) : Ev (Th_toldAgain 45 18 (nI n) μ) (fun r _ => r = nI (lsS n).length) := by
  unfold Th_toldAgain
  simp only [Nat.reduceAdd]
  rw [stA_li (by omega) (by omega)]
  suffices K : ∀ μ1 : Mu, (∀ j, j < (lsS 0).length → μ1 47 j = (lsS 0).getD j 0) → Ev (Th_toldAgain_11 45 18 (nI n) FU (nI (lsS 0).length) (nI 0) μ1) (fun r _ => r = nI (lsS n).length) from K _ (fun j hj => by
    have : j = 0 := by have : (lsS 0).length = 1 := rfl; omega
    subst this; rw [up2_same]; rfl)
  unfold Th_toldAgain_11
  refine lp_fu (F := fun kb => Th_toldAgain_11b 45 18 kb (nI n)) (z := fun _ _ _ => none) n (fun k A => ∀ μ1 : Mu, (∀ j, j < (lsS k).length → μ1 47 j = (lsS k).getD j 0) → Ev (A (nI (lsS k).length) (nI k) μ1) (fun r _ => r = nI (lsS n).length)) (by omega) ?_ ?_ 0 (Nat.zero_le _)
  · intro A μ1 hj
    show Ev (Th_toldAgain_11b 45 18 A (nI n) _ (nI n) μ1) _
    unfold Th_toldAgain_11b
    rw [if_pos (nI_le (Nat.le_refl _) (by omega))]
    exact ev_some rfl
  · intro k A hk ih μ1 hj
    obtain ⟨l1, l2⟩ := lsS_len k (by omega)
    obtain ⟨m1, m2⟩ := lsS_len (k + 1) (by omega)
    show Ev (Th_toldAgain_11b 45 18 A (nI n) _ (nI k) μ1) _
    unfold Th_toldAgain_11b
    simp only [Nat.reduceAdd]
    rw [if_neg (nI_ge hk (by omega))]
    refine ev_cl (ev_mono (short_c l2 hj) ?_)
    rintro r μ2 ⟨rfl, h2, hO⟩
    have e : rlB (lsS k) (lsS k).length = lsS (k + 1) := rfl
    rw [e] at h2 ⊢
    rw [show jmin (nI (lsS (k + 1)).length) 32 = nI (min (lsS (k + 1)).length 32) from jmin_nI (b := 32) (by omega) (by omega), show min (lsS (k + 1)).length 32 = (lsS (k + 1)).length by omega, show jmax 0 (nI (lsS (k + 1)).length) = nI (max 0 (lsS (k + 1)).length) from jmax_nI (a := 0) (by omega) (by omega), show max 0 (lsS (k + 1)).length = (lsS (k + 1)).length by omega, cp_row (by omega) (by omega) (by omega), nI_1]
    refine ih _ (fun j h => ?_)
    rw [cp2_at, if_pos h, h2 j h]
theorem again_m {ν : Mu} {n : Nat} (hn : n ≤ 10) : Ev (Mo_tellsOne 59 (nI n) ν) (fun r _ => r = nI (lsS n).length) := by
  unfold Mo_tellsOne
  simp only [Nat.reduceAdd]
  rw [stA_li (by omega) (by omega)]
  suffices K : ∀ ν1 : Mu, (∀ j, j < (lsS 0).length → ν1 89 j = (lsS 0).getD j 0) → Ev (Mo_tellsOne_11 59 (nI n) FU (nI (lsS 0).length) (nI 0) ν1) (fun r _ => r = nI (lsS n).length) from K _ (fun j hj => by
    have : j = 0 := by have : (lsS 0).length = 1 := rfl; omega
    subst this; rw [up2_same]; rfl)
  unfold Mo_tellsOne_11
  refine lp_fu (F := fun kb => Mo_tellsOne_11b 59 kb (nI n)) (z := fun _ _ _ => none) n (fun k A => ∀ ν1 : Mu, (∀ j, j < (lsS k).length → ν1 89 j = (lsS k).getD j 0) → Ev (A (nI (lsS k).length) (nI k) ν1) (fun r _ => r = nI (lsS n).length)) (by omega) ?_ ?_ 0 (Nat.zero_le _)
  · intro A ν1 hj
    show Ev (Mo_tellsOne_11b 59 A (nI n) _ (nI n) ν1) _
    unfold Mo_tellsOne_11b
    rw [if_pos (nI_le (Nat.le_refl _) (by omega))]
    exact ev_some rfl
  · intro k A hk ih ν1 hj
    obtain ⟨l1, l2⟩ := lsS_len k (by omega)
    obtain ⟨m1, m2⟩ := lsS_len (k + 1) (by omega)
    show Ev (Mo_tellsOne_11b 59 A (nI n) _ (nI k) ν1) _
    unfold Mo_tellsOne_11b
    rw [if_neg (nI_ge hk (by omega))]
    have e : rlB (lsS k) (lsS k).length = lsS (k + 1) := rfl
    refine ev_cl (ev_mono (tells_m l2 (by rw [e]; exact m2) hj) ?_)
    rintro r ν2 ⟨rfl, h2, hO⟩
    rw [e] at h2 ⊢
    suffices K : ∀ ν3 : Mu, Off [89] ν2 ν3 → (∀ j, j < 0 → ν3 89 j = (lsS (k + 1)).getD j 0) → Ev (Mo_tellsOne_25 59 A (nI n) (nI (lsS (k + 1)).length) (nI k) FU (nI 0) ν3) (fun r _ => r = nI (lsS n).length) from K ν2 (off_refl _ _) (fun j h => absurd h (by omega))
    unfold Mo_tellsOne_25
    refine lp_fu (F := fun kb => Mo_tellsOne_25b 59 A kb (nI n) (nI (lsS (k + 1)).length) (nI k)) (z := fun _ _ => none) (lsS (k + 1)).length (fun i B => ∀ ν3 : Mu, Off [89] ν2 ν3 → (∀ j, j < i → ν3 89 j = (lsS (k + 1)).getD j 0) → Ev (B (nI i) ν3) (fun r _ => r = nI (lsS n).length)) (by omega) ?_ ?_ 0 (Nat.zero_le _)
    · intro B ν3 hO3 h3
      show Ev (Mo_tellsOne_25b 59 A B (nI n) (nI (lsS (k + 1)).length) (nI k) (nI (lsS (k + 1)).length) ν3) _
      unfold Mo_tellsOne_25b
      rw [if_pos (nI_le (Nat.le_refl _) (by omega)), nI_1]
      exact ih ν3 h3
    · intro i B hi ihi ν3 hO3 h3
      show Ev (Mo_tellsOne_25b 59 A B (nI n) (nI (lsS (k + 1)).length) (nI k) (nI i) ν3) _
      unfold Mo_tellsOne_25b
      simp only [Nat.reduceAdd]
      rw [if_neg (nI_ge hi (by omega)), ldA_nI (by omega) (by omega), stA_nI (by omega) (by omega), nI_1]
      refine ihi _ (off_trans hO3 (off_up List.mem_cons_self)) (fun j h => ?_)
      by_cases z : j = i
      · subst z; rw [up2_same, hO3 90 (by simp), h2 j hi]
      · rw [up2_off (Or.inr z)]; exact h3 j (by omega)
theorem first_c {μ : Mu} {f : List Int32} (hf : RwC μ 25 10 0 9 f) : Ev (Th_tellFirst 45 18 μ) (fun r μ' => r = nI (rlB f f.length).length ∧ ∀ j, j < (rlB f f.length).length → μ' 46 j = (rlB f f.length).getD j 0) := by
  have lf : f.length ≤ 10 := hf.2.2.2.1
  have hcf : ∀ μ2, Off [47] μ μ2 → RwC μ2 25 10 0 9 f := fun μ2 hO => rwC_congr (hO 25 (by simp)) (hO 26 (by simp)) hf
  suffices K : ∀ μ1, Off [47] μ μ1 → (∀ j, j < 0 → μ1 47 j = f.getD j 0) → Ev (Th_tellFirst_2 45 18 FU (nI 0) μ1) (fun r μ' => r = nI (rlB f f.length).length ∧ ∀ j, j < (rlB f f.length).length → μ' 46 j = (rlB f f.length).getD j 0) from K μ (off_refl _ _) (fun j h => absurd h (by omega))
  unfold Th_tellFirst_2
  refine lp_fu (F := fun kb => Th_tellFirst_2b 45 18 kb) (z := fun _ _ => none) f.length (fun k A => ∀ μ1, Off [47] μ μ1 → (∀ j, j < k → μ1 47 j = f.getD j 0) → Ev (A (nI k) μ1) (fun r μ' => r = nI (rlB f f.length).length ∧ ∀ j, j < (rlB f f.length).length → μ' 46 j = (rlB f f.length).getD j 0)) (by omega) ?_ ?_ 0 (Nat.zero_le _)
  · intro A μ1 hO hj
    show Ev (Th_tellFirst_2b 45 18 A (nI f.length) μ1) _
    unfold Th_tellFirst_2b Th_tellFirst_45
    simp only [Nat.reduceAdd]
    rw [gF_eq, (hcf μ1 hO).2.2.1, if_pos (nI_le (Nat.le_refl _) (by omega)), gF_eq, (hcf μ1 hO).2.2.1]
    refine ev_cl (ev_mono (short_c (by omega) hj) ?_)
    rintro r μ2 ⟨rfl, h2, -⟩
    exact ev_some ⟨rfl, h2⟩
  · intro k A hk ih μ1 hO hj
    show Ev (Th_tellFirst_2b 45 18 A (nI k) μ1) _
    unfold Th_tellFirst_2b
    simp only [Nat.reduceAdd]
    rw [gF_eq, (hcf μ1 hO).2.2.1, if_neg (nI_ge hk (by omega)), if_neg (show ¬ (32 : Int32) ≤ nI k from nI_ge (b := 32) (by omega) (by omega)), rw_at (hcf μ1 hO) k hk, cl_eq, stA_nI (by omega) (by omega), nI_1]
    refine ih _ (off_trans hO (off_up List.mem_cons_self)) (fun j h => ?_)
    by_cases z : j = k
    · subst z; rw [up2_same]
    · rw [up2_off (Or.inr z)]; exact hj j (by omega)
theorem first_m {ν : Mu} {f : List Int32} (lf : f.length ≤ 10) (m0 : ν 85 0 = nI f.length) (mf : ∀ j, j < f.length → ν 86 j = f.getD j 0) (w : Int32) : Ev (Mo_told_31 59 w FU 0 ν) (fun r _ => r = if w = 0 then nI (rlB f f.length).length else if w < 100 ∨ nI (99 + (rlB f f.length).length) < w then -1 else (rlB f f.length).getD (w - 100).toNatClampNeg 0) := by
  have hr := (rlB_fact f f.length).2
  suffices K : ∀ ν1, Off [89] ν ν1 → (∀ j, j < 0 → ν1 89 j = f.getD j 0) → Ev (Mo_told_31 59 w FU (nI 0) ν1) (fun r _ => r = if w = 0 then nI (rlB f f.length).length else if w < 100 ∨ nI (99 + (rlB f f.length).length) < w then -1 else (rlB f f.length).getD (w - 100).toNatClampNeg 0) from K ν (off_refl _ _) (fun j h => absurd h (by omega))
  unfold Mo_told_31
  refine lp_fu (F := fun kb => Mo_told_31b 59 kb w) (z := fun _ _ => none) f.length (fun k A => ∀ ν1, Off [89] ν ν1 → (∀ j, j < k → ν1 89 j = f.getD j 0) → Ev (A (nI k) ν1) (fun r _ => r = if w = 0 then nI (rlB f f.length).length else if w < 100 ∨ nI (99 + (rlB f f.length).length) < w then -1 else (rlB f f.length).getD (w - 100).toNatClampNeg 0)) (by omega) ?_ ?_ 0 (Nat.zero_le _)
  · intro A ν1 hO hj
    show Ev (Mo_told_31b 59 A w (nI f.length) ν1) _
    unfold Mo_told_31b
    simp only [Nat.reduceAdd]
    rw [ldA_at 0 nI_0.symm (by omega) (by omega), hO 85 (by simp), m0, if_pos (nI_le (Nat.le_refl _) (by omega)), ldA_at 0 nI_0.symm (by omega) (by omega), hO 85 (by simp), m0]
    refine ev_cl (ev_mono (tells_m (by omega) (by omega) hj) ?_)
    rintro r ν2 ⟨rfl, h2, -⟩
    by_cases c : w = 0
    · rw [if_pos c, if_pos c]; exact ev_some rfl
    rw [if_neg c, if_neg c, isIn_eq, cl_eq, show (99 : Int32) + nI (rlB f f.length).length = nI (99 + (rlB f f.length).length) from nI_add 99 _]
    by_cases d : w < 100 ∨ nI (99 + (rlB f f.length).length) < w
    · rw [if_pos d, if_pos rfl, if_pos d]; exact ev_some rfl
    rw [if_neg d, if_neg (show ¬ (1 : Int32) = 0 by decide), if_neg d]
    obtain ⟨b, b1, b2, rfl⟩ := nI_rng (lo := 100) (n := 99 + (rlB f f.length).length) (by omega) (by omega) (fun z => d (Or.inl z)) (fun z => d (Or.inr z))
    rw [show nI b - 100 = nI (b - 100) from pk_sub (b := 100) b1, ldA_nI (by omega) (by omega), nI_clamp (by omega)]
    exact ev_some (h2 _ (by omega))
  · intro k A hk ih ν1 hO hj
    show Ev (Mo_told_31b 59 A w (nI k) ν1) _
    unfold Mo_told_31b
    simp only [Nat.reduceAdd]
    rw [ldA_at 0 nI_0.symm (by omega) (by omega), hO 85 (by simp), m0, if_neg (nI_ge hk (by omega)), ldA_nI (by omega) (by omega), stA_nI (by omega) (by omega), nI_1, hO 86 (by simp), mf k hk]
    refine ih _ (off_trans hO (off_up List.mem_cons_self)) (fun j h => ?_)
    by_cases z : j = k
    · subst z; rw [up2_same]
    · rw [up2_off (Or.inr z)]; exact hj j (by omega)
theorem th_told {μ ν : Mu} {f : List Int32} (hf : RwC μ 25 10 0 9 f) (m0 : ν 85 0 = nI f.length) (mf : ∀ j, j < f.length → ν 86 j = f.getD j 0) (w : Int32) : Same (Sf_told 0 w μ) (Mo_told 59 w ν) := by
  have lf : f.length ≤ 10 := hf.2.2.2.1
  have hr := (rlB_fact f f.length).2
  unfold Sf_told Mo_told
  rw [within_eq, pF_eq, isIn_eq, cl_eq, cl_eq]
  have hc : ∀ o : Option (Int32 × Mu), cl o (fun x2 μ1 => some (x2, μ1)) = o := fun o => by cases o <;> rfl
  by_cases c1 : w < 200 ∨ 210 < w
  · rw [if_pos c1, if_pos rfl, if_pos rfl]
    refine same_ev ?_ (first_m lf (by rw [up2_ne (by omega)]; exact m0) (fun j hj => by rw [up2_ne (by omega)]; exact mf j hj) w)
    refine ev_cl (ev_mono (first_c hf) ?_)
    rintro r μ2 ⟨rfl, h2⟩
    by_cases c : w = 0
    · rw [if_pos c, if_pos c]; exact ev_some rfl
    rw [if_neg c, if_neg c, within_eq, cl_eq, show (99 : Int32) + nI (rlB f f.length).length = nI (99 + (rlB f f.length).length) from nI_add 99 _]
    by_cases d : w < 100 ∨ nI (99 + (rlB f f.length).length) < w
    · rw [if_pos d, if_pos rfl, if_pos d]; exact ev_some rfl
    rw [if_neg d, if_neg (show ¬ (1 : Int32) = 0 by decide), if_neg d, hc]
    obtain ⟨b, b1, b2, rfl⟩ := nI_rng (lo := 100) (n := 99 + (rlB f f.length).length) (by omega) (by omega) (fun z => d (Or.inl z)) (fun z => d (Or.inr z))
    unfold Th_tellingAt
    simp only [Nat.reduceAdd]
    rw [show nI b - 100 = nI (b - 100) from pk_sub (b := 100) b1, if_neg (nI_pos (by omega)), if_neg (show ¬ (361 : Int32) ≤ nI (b - 100) from nI_ge (b := 361) (by omega) (by omega)), ldA_nI (by omega) (by omega), nI_clamp (by omega)]
    exact ev_some (h2 _ (by omega))
  · rw [if_neg c1, if_neg (show ¬ (1 : Int32) = 0 by decide), if_neg (show ¬ (1 : Int32) = 0 by decide), hc, hc]
    obtain ⟨b, b1, b2, rfl⟩ := nI_rng (lo := 200) (n := 210) (by omega) (by omega) (fun z => c1 (Or.inl z)) (fun z => c1 (Or.inr z))
    rw [show nI b - 200 = nI (b - 200) from pk_sub (b := 200) b1]
    exact same_ev (again_c (by omega)) (again_m (by omega))
