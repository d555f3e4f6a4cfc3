/-! L3: SHADOW -/
def shW (f s : List Int32) : Nat → Nat → Nat
  | 0, j => if j = 0 then 1 else 0
  | _ + 1, 0 => 1
  | i + 1, j + 1 => shW f s i (j + 1) + (if f.getD i 0 = s.getD j 0 then shW f s i j else 0)
theorem shW_0 (f s : List Int32) : ∀ i, shW f s i 0 = 1
  | 0 => rfl
  | _ + 1 => rfl
theorem shW_le (f s : List Int32) : ∀ i j, shW f s i j ≤ 2 ^ i := by
  intro i
  induction i with
  | zero => intro j; show (if j = 0 then 1 else 0) ≤ 1; split <;> omega
  | succ i ih =>
    intro j
    have hp : 0 < 2 ^ i := Nat.pow_pos (by omega)
    match j with
    | 0 => rw [shW_0, Nat.pow_succ]; omega
    | j + 1 =>
      show shW f s i (j + 1) + (if f.getD i 0 = s.getD j 0 then shW f s i j else 0) ≤ _
      have h1 := ih (j + 1)
      have h2 := ih j
      rw [Nat.pow_succ]
      split <;> omega
theorem shadow_c {μ : Mu} {f s : List Int32} (hf : RwC μ 25 10 0 9 f) (hs : RwC μ 27 10 0 9 s) : Ev (Th_shadowWays 45 18 μ) (fun r _ => r = nI (shW f s f.length s.length)) := by
  have lf : f.length ≤ 10 := hf.2.2.2.1
  have ls : s.length ≤ 10 := hs.2.2.2.1
  have hcf : ∀ μ2, Off [46] μ μ2 → RwC μ2 25 10 0 9 f := fun μ2 hO => rwC_congr (hO 25 (by simp)) (hO 26 (by simp)) hf
  have hcs : ∀ μ2, Off [46] μ μ2 → RwC μ2 27 10 0 9 s := fun μ2 hO => rwC_congr (hO 27 (by simp)) (hO 28 (by simp)) hs
  have hle := shW_le f s
  have h1024 : ∀ i, i ≤ 10 → ∀ j, shW f s i j < 2 ^ 31 := fun i hi j => Nat.lt_of_le_of_lt (hle i j) (Nat.lt_of_le_of_lt (Nat.pow_le_pow_right (by omega) hi) (by decide))
  unfold Th_shadowWays
  simp only [Nat.reduceAdd]
  rw [gF_eq, hs.2.2.1]
  refine ev_cl (ev_mono (ja_fill (r := 46) (n := 361) (by omega) (by omega) 0 μ) ?_)
  rintro _ μ1 ⟨hz, hO⟩
  rw [stA_li (by omega) (by omega)]
  have hO1 : Off [46] μ (up2 μ1 46 0 1) := off_trans hO (off_up List.mem_cons_self)
  suffices K : ∀ μ2, Off [46] μ μ2 → (∀ j, j ≤ s.length → μ2 46 j = nI (shW f s 0 j)) → Ev (Th_shadowWays_28 45 18 (nI s.length) FU (nI 0) μ2) (fun r _ => r = nI (shW f s f.length s.length)) by
    refine K _ hO1 (fun j hj => ?_)
    show _ = nI (if j = 0 then 1 else 0)
    by_cases z : j = 0
    · subst z; rw [up2_same, if_pos rfl]; rfl
    · rw [up2_off (Or.inr z), if_neg z, hz j (by omega)]; rfl
  unfold Th_shadowWays_28
  refine lp_fu (F := fun kb => Th_shadowWays_28b 45 18 kb (nI s.length)) (z := fun _ _ => none) f.length (fun i A => ∀ μ2, Off [46] μ μ2 → (∀ j, j ≤ s.length → μ2 46 j = nI (shW f s i j)) → Ev (A (nI i) μ2) (fun r _ => r = nI (shW f s f.length s.length))) (by omega) ?_ ?_ 0 (by omega)
  · intro A μ2 hO2 hj
    show Ev (Th_shadowWays_28b 45 18 A (nI s.length) (nI f.length) μ2) _
    unfold Th_shadowWays_28b
    simp only [Nat.reduceAdd]
    rw [gF_eq, (hcf μ2 hO2).2.2.1, if_pos (nI_le (Nat.le_refl _) (by omega)), if_neg (nI_pos (by omega)), if_neg (show ¬ (361 : Int32) ≤ nI s.length from nI_ge (b := 361) (by omega) (by omega)), ldA_nI (by omega) (by omega)]
    exact ev_some (hj _ (Nat.le_refl _))
  · intro i A hi ih μ2 hO2 hj
    show Ev (Th_shadowWays_28b 45 18 A (nI s.length) (nI i) μ2) _
    unfold Th_shadowWays_28b
    simp only [Nat.reduceAdd]
    rw [gF_eq, (hcf μ2 hO2).2.2.1, if_neg (nI_ge hi (by omega))]
    suffices K : ∀ μ3, Off [46] μ μ3 → (∀ j, j ≤ s.length → μ3 46 j = nI (if s.length - 0 < j then shW f s (i + 1) j else shW f s i j)) → Ev (Th_shadowWays_44 45 18 A (nI s.length) (nI i) FU (nI (s.length - 0)) μ3) (fun r _ => r = nI (shW f s f.length s.length)) from K μ2 hO2 (fun j h => by rw [if_neg (by omega)]; exact hj j h)
    unfold Th_shadowWays_44
    refine lp_fu (F := fun kb => Th_shadowWays_44b 45 18 A kb (nI s.length) (nI i)) (z := fun _ _ => none) s.length (fun k B => ∀ μ3, Off [46] μ μ3 → (∀ j, j ≤ s.length → μ3 46 j = nI (if s.length - k < j then shW f s (i + 1) j else shW f s i j)) → Ev (B (nI (s.length - k)) μ3) (fun r _ => r = nI (shW f s f.length s.length))) (by omega) ?_ ?_ 0 (by omega)
    · intro B μ3 hO3 hj3
      show Ev (Th_shadowWays_44b 45 18 A B (nI s.length) (nI i) (nI (s.length - s.length)) μ3) _
      unfold Th_shadowWays_44b Th_shadowWays_106
      rw [Nat.sub_self, if_pos (by decide), nI_1]
      refine ih μ3 hO3 (fun j h => ?_)
      rw [hj3 j h]
      by_cases z : j = 0
      · subst z; rw [shW_0, shW_0, ite_self]
      · rw [if_pos (by omega)]
    · intro k B hk ihk μ3 hO3 hj3
      obtain ⟨j, hj0⟩ : ∃ j, s.length - k = j + 1 := ⟨s.length - k - 1, by omega⟩
      have hj1 : s.length - (k + 1) = j := by omega
      rw [hj1] at ihk
      rw [hj0] at hj3 ⊢
      show Ev (Th_shadowWays_44b 45 18 A B (nI s.length) (nI i) (nI (j + 1)) μ3) _
      unfold Th_shadowWays_44b Th_shadowWays_100
      simp only [Nat.reduceAdd]
      rw [if_neg (show ¬ nI (j + 1) < 1 from nI_nlt (b := 1) (by omega) (by omega)), if_neg (show ¬ (361 : Int32) ≤ nI (j + 1) from nI_ge (b := 361) (by omega) (by omega)), rw_at (hcf μ3 hO3) i hi, cl_eq, nI_pred, rw_at (hcs μ3 hO3) j (by omega), cl_eq, pk_m1]
      have he : shW f s (i + 1) (j + 1) = shW f s i (j + 1) + (if f.getD i 0 = s.getD j 0 then shW f s i j else 0) := rfl
      by_cases c : f.getD i 0 = s.getD j 0
      · rw [if_pos c, ldA_nI (by omega) (by omega), ldA_nI (by omega) (by omega), stA_nI (by omega) (by omega), hj3 (j + 1) (by omega), hj3 j (by omega), if_neg (by omega), if_neg (by omega), nI_add]
        refine ihk _ (off_trans hO3 (off_up List.mem_cons_self)) (fun u hu => ?_)
        by_cases z : u = j + 1
        · subst z; rw [up2_same, if_pos (by omega), he, if_pos c]
        · rw [up2_off (Or.inr z), hj3 u hu]
          by_cases y : j + 1 < u
          · rw [if_pos y, if_pos (by omega)]
          · rw [if_neg y, if_neg (by omega)]
      · rw [if_neg c]
        refine ihk μ3 hO3 (fun u hu => ?_)
        rw [hj3 u hu]
        by_cases z : u = j + 1
        · have he' : shW f s (i + 1) (j + 1) = shW f s i (j + 1) := by rw [he, if_neg c]; rfl
          rw [z, if_neg (Nat.lt_irrefl _), if_pos (Nat.lt_succ_self _), he']
        · by_cases y : j + 1 < u
          · rw [if_pos y, if_pos (by omega)]
          · rw [if_neg y, if_neg (by omega)]
theorem th_shadow {μ ν : Mu} {f s : List Int32} (hf : RwC μ 25 10 0 9 f) (hs : RwC μ 27 10 0 9 s) (m0 : ν 85 0 = nI f.length) (m1 : ν 85 1 = nI s.length) (mf : ∀ j, j < f.length → ν 86 j = f.getD j 0) (ms : ∀ j, j < s.length → ν 86 (10 + j) = s.getD j 0) (w : Int32) : Same (Sf_shadow 0 w μ) (Mo_shadow 59 w ν) := by
  have lf : f.length ≤ 10 := hf.2.2.2.1
  have ls : s.length ≤ 10 := hs.2.2.2.1
  have hle := shW_le f s
  have h1024 : ∀ i, i ≤ 10 → ∀ j, shW f s i j ≤ 1024 := fun i hi j => Nat.le_trans (hle i j) (Nat.le_trans (Nat.pow_le_pow_right (by omega) hi) (by decide))
  unfold Sf_shadow Mo_shadow
  rw [within_eq, pF_eq, isIn_eq, cl_eq, cl_eq]
  by_cases c1 : w < 0 ∨ 1 < w
  · rw [if_pos c1, if_pos rfl, if_pos rfl]; exact same_i rfl rfl
  rw [if_neg c1, if_neg (show ¬ (1 : Int32) = 0 by decide), if_neg (show ¬ (1 : Int32) = 0 by decide)]
  obtain ⟨b, b1, b2, rfl⟩ := nI_rng (lo := 0) (n := 1) (by omega) (by omega) (fun z => c1 (Or.inl z)) (fun z => c1 (Or.inr z))
  obtain ⟨r, μ1, e1, rfl⟩ := shadow_c hf hs
  have hM : Ev (Mo_shadow_19 59 (nI b) FU 0 (up2 ν 59 0 0)) (fun r _ => r = if b = 1 then nI (shW f s f.length s.length) else if shW f s f.length s.length = 0 then 0 else 1) := by
    have n0 : (up2 ν 59 0 0) 85 0 = nI f.length := by rw [up2_ne (by omega)]; exact m0
    have n1 : (up2 ν 59 0 0) 85 1 = nI s.length := by rw [up2_ne (by omega)]; exact m1
    have nf : ∀ j, j < f.length → (up2 ν 59 0 0) 86 j = f.getD j 0 := fun j hj => by rw [up2_ne (by omega)]; exact mf j hj
    have ns : ∀ j, j < s.length → (up2 ν 59 0 0) 86 (10 + j) = s.getD j 0 := fun j hj => by rw [up2_ne (by omega)]; exact ms j hj
    generalize up2 ν 59 0 0 = ν0 at n0 n1 nf ns
    suffices K : ∀ ν1, Off [87] ν0 ν1 → (∀ i j, i < 0 → j ≤ s.length → ν1 87 (11 * i + j) = nI (shW f s i j)) → Ev (Mo_shadow_19 59 (nI b) FU (nI 0) ν1) (fun r _ => r = if b = 1 then nI (shW f s f.length s.length) else if shW f s f.length s.length = 0 then 0 else 1) from K ν0 (off_refl _ _) (fun i j h => absurd h (by omega))
    unfold Mo_shadow_19
    refine lp_fu (F := fun kb => Mo_shadow_19b 59 kb (nI b)) (z := fun _ _ => none) (f.length + 1) (fun i A => ∀ ν1, Off [87] ν0 ν1 → (∀ i' j, i' < i → j ≤ s.length → ν1 87 (11 * i' + j) = nI (shW f s i' j)) → Ev (A (nI i) ν1) (fun r _ => r = if b = 1 then nI (shW f s f.length s.length) else if shW f s f.length s.length = 0 then 0 else 1)) (by omega) ?_ ?_ 0 (by omega)
    · intro A ν1 hO hw
      show Ev (Mo_shadow_19b 59 A (nI b) (nI (f.length + 1)) ν1) _
      unfold Mo_shadow_19b
      simp only [Nat.reduceAdd]
      have e11 : (11 : Int32) * nI f.length + nI s.length = nI (11 * f.length + s.length) := by rw [show (11 : Int32) = nI 11 from rfl, pk_mul, nI_add]
      rw [ldA_at 0 nI_0.symm (by omega) (by omega), hO 85 (by simp), n0, if_pos (nI_lt (by omega) (by omega)), ldA_at 0 nI_0.symm (by omega) (by omega), hO 85 (by simp), n0, ldA_li (by omega) (by omega), hO 85 (by simp), n1, e11, ldA_nI (by omega) (by omega), hw f.length s.length (by omega) (by omega)]
      have := h1024 f.length lf s.length
      rcases (show b = 0 ∨ b = 1 by omega) with rfl | rfl
      · rw [if_neg (show ¬ nI 0 = 1 by decide)]
        by_cases z : shW f s f.length s.length = 0
        · rw [z, if_pos (show nI 0 ≤ 0 by decide), if_neg (show ¬ (0 : Nat) = 1 by omega), if_pos rfl]; exact ev_some rfl
        · rw [if_neg (nI_nle (by omega) (by omega)), if_neg (show ¬ (0 : Nat) = 1 by omega), if_neg z]; exact ev_some rfl
      · rw [if_pos (show nI 1 = 1 by decide), if_pos rfl]; exact ev_some rfl
    · intro i A hi ih ν1 hO hw
      show Ev (Mo_shadow_19b 59 A (nI b) (nI i) ν1) _
      unfold Mo_shadow_19b
      simp only [Nat.reduceAdd]
      rw [ldA_at 0 nI_0.symm (by omega) (by omega), hO 85 (by simp), n0, if_neg (nI_nlt (by omega) (by omega))]
      suffices K : ∀ ν2, Off [87] ν0 ν2 → (∀ i' j, i' < i → j ≤ s.length → ν2 87 (11 * i' + j) = nI (shW f s i' j)) → (∀ j, j < 0 → ν2 87 (11 * i + j) = nI (shW f s i j)) → Ev (Mo_shadow_31 59 A (nI b) (nI i) FU (nI 0) ν2) (fun r _ => r = if b = 1 then nI (shW f s f.length s.length) else if shW f s f.length s.length = 0 then 0 else 1) from K ν1 hO hw (fun j h => absurd h (by omega))
      unfold Mo_shadow_31
      refine lp_fu (F := fun kb => Mo_shadow_31b 59 A kb (nI b) (nI i)) (z := fun _ _ => none) (s.length + 1) (fun k B => ∀ ν2, Off [87] ν0 ν2 → (∀ i' j, i' < i → j ≤ s.length → ν2 87 (11 * i' + j) = nI (shW f s i' j)) → (∀ j, j < k → ν2 87 (11 * i + j) = nI (shW f s i j)) → Ev (B (nI k) ν2) (fun r _ => r = if b = 1 then nI (shW f s f.length s.length) else if shW f s f.length s.length = 0 then 0 else 1)) (by omega) ?_ ?_ 0 (by omega)
      · intro B ν2 hO2 hw2 hk2
        show Ev (Mo_shadow_31b 59 A B (nI b) (nI i) (nI (s.length + 1)) ν2) _
        unfold Mo_shadow_31b
        simp only [Nat.reduceAdd]
        rw [ldA_li (by omega) (by omega), hO2 85 (by simp), n1, if_pos (nI_lt (by omega) (by omega)), nI_1]
        refine ih ν2 hO2 (fun i' j h1 h2 => ?_)
        by_cases z : i' = i
        · subst z; exact hk2 j (by omega)
        · exact hw2 i' j (by omega) h2
      · intro k B hk ihk ν2 hO2 hw2 hk2
        show Ev (Mo_shadow_31b 59 A B (nI b) (nI i) (nI k) ν2) _
        have put : ∀ v : Int32, v = nI (shW f s i k) → Ev (Mo_shadow_117 59 A B (nI b) (nI i) (nI k) v ν2) (fun r _ => r = if b = 1 then nI (shW f s f.length s.length) else if shW f s f.length s.length = 0 then 0 else 1) := by
          rintro v rfl
          unfold Mo_shadow_117
          have e11 : (11 : Int32) * nI i + nI k = nI (11 * i + k) := by rw [show (11 : Int32) = nI 11 from rfl, pk_mul, nI_add]
          simp only [Nat.reduceAdd]
          rw [e11, stA_nI (by omega) (by omega), nI_1]
          refine ihk _ (off_trans hO2 (off_up List.mem_cons_self)) (fun i' j h1 h2 => ?_) (fun j h => ?_)
          · rw [up2_off (Or.inr (by omega))]; exact hw2 i' j h1 h2
          · by_cases z : j = k
            · subst z; rw [up2_same]
            · rw [up2_off (Or.inr (by omega))]; exact hk2 j (by omega)
        unfold Mo_shadow_31b
        simp only [Nat.reduceAdd]
        rw [ldA_li (by omega) (by omega), hO2 85 (by simp), n1, if_neg (nI_nlt (by omega) (by omega))]
        have h50 : ∀ v : Int32, v = nI (if k = 0 then 1 else 0) → Ev (Mo_shadow_50 59 A B (nI b) (nI i) (nI k) v ν2) (fun r _ => r = if b = 1 then nI (shW f s f.length s.length) else if shW f s f.length s.length = 0 then 0 else 1) := by
          rintro v rfl
          unfold Mo_shadow_50
          by_cases z : i = 0
          · subst z
            rw [if_pos (by decide)]
            exact put _ rfl
          rw [if_neg (nI_nle (by omega) (by omega))]
          obtain ⟨i', rfl⟩ : ∃ i', i = i' + 1 := ⟨i - 1, by omega⟩
          by_cases y : k = 0
          · subst y
            rw [if_pos (by decide)]
            exact put _ (by rw [if_pos rfl]; rfl)
          rw [if_neg (nI_nle (by omega) (by omega))]
          obtain ⟨k', rfl⟩ : ∃ k', k = k' + 1 := ⟨k - 1, by omega⟩
          simp only [Nat.reduceAdd]
          have e11 : (11 : Int32) * nI i' + nI (k' + 1) = nI (11 * i' + k' + 1) := by rw [show (11 : Int32) = nI 11 from rfl, pk_mul, nI_add]; congr 1
          have e10 : (10 : Int32) + nI (k' + 1) - 1 = nI (10 + k') := by rw [show (10 : Int32) = nI 10 from rfl, nI_add, show 10 + (k' + 1) = 10 + k' + 1 by omega, nI_pred]
          rw [nI_pred, e11, e10, nI_pred, ldA_nI (by omega) (by omega), ldA_nI (by omega) (by omega), ldA_nI (by omega) (by omega), hO2 86 (by simp), nf i' (by omega), ns k' (by omega)]
          have he : shW f s (i' + 1) (k' + 1) = shW f s i' (k' + 1) + (if f.getD i' 0 = s.getD k' 0 then shW f s i' k' else 0) := rfl
          have w1 : ν2 87 (11 * i' + k' + 1) = nI (shW f s i' (k' + 1)) := hw2 i' (k' + 1) (by omega) (by omega)
          unfold Mo_shadow_114
          by_cases c : f.getD i' 0 = s.getD k' 0
          · rw [if_pos c, ldA_nI (by omega) (by omega), w1, hw2 i' k' (by omega) (by omega), nI_add]
            exact put _ (by rw [he, if_pos c])
          · rw [if_neg c, w1, Int32.add_zero]
            exact put _ (by rw [he, if_neg c]; rfl)
        by_cases z : k = 0
        · subst z
          rw [if_pos (by decide)]
          exact h50 1 rfl
        · rw [if_neg (nI_ne0 (by omega) (by omega))]
          exact h50 0 (by rw [if_neg z]; rfl)
  rw [show Th_shadowWays (0 + 45) (0 + 1 + 17) μ = _ from e1, cl_eq]
  have hn := h1024 f.length lf s.length
  refine same_ev (r := if b = 1 then nI (shW f s f.length s.length) else if shW f s f.length s.length = 0 then 0 else 1) ?_ hM
  rcases (show b = 0 ∨ b = 1 by omega) with rfl | rfl
  · rw [if_pos (show nI 0 = 0 by decide), if_neg (show ¬ (0 : Nat) = 1 by omega), show jmin (nI (shW f s f.length s.length)) 1 = nI (min (shW f s f.length s.length) 1) from jmin_nI (b := 1) (by omega) (by omega)]
    by_cases z : shW f s f.length s.length = 0
    · rw [z, if_pos rfl]; exact ev_some rfl
    · rw [if_neg z, show min (shW f s f.length s.length) 1 = 1 by omega]; exact ev_some rfl
  · rw [if_neg (show ¬ nI 1 = 0 by decide), if_pos rfl]; exact ev_some rfl
