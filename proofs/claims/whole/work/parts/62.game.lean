/-! L3: GAME -/
def evI (v : Nat) : Int32 := if v % 2 = 0 then 1 else 0
theorem good_m {μ : Mu} {v : Nat} (hv : v ≤ 300) (hw : ∀ u, 1 ≤ u → u < v → μ 97 u = evI u) : Mo_goodTaking 59 (nI v) μ = some (if v % 2 = 0 ∧ 0 < v then 1 else -1, μ) := by
  unfold Mo_goodTaking
  by_cases h0 : v = 0
  · subst h0
    unfold Mo_goodTaking_2
    have hF : ∃ m, FU = m + 1 := ⟨FU - 1, by have := FU_big; omega⟩
    obtain ⟨m, hm⟩ := hF
    rw [hm, lp_succ]
    unfold Mo_goodTaking_2b
    rw [if_pos (by decide), if_neg (by omega)]
  suffices K : (∀ d, 1 ≤ d → d < 1 → v % d = 0 → v % 2 = 1) → 1 ≤ 1 → Mo_goodTaking_2 59 (nI v) FU (nI 1) μ = some (if v % 2 = 0 ∧ 0 < v then 1 else -1, μ) from K (fun d h1 h2 => by omega) (Nat.le_refl _)
  unfold Mo_goodTaking_2
  refine lp_fu (F := fun kb => Mo_goodTaking_2b 59 kb (nI v)) (z := fun _ _ => none) v (fun k A => (∀ d, 1 ≤ d → d < k → v % d = 0 → v % 2 = 1) → 1 ≤ k → A (nI k) μ = some (if v % 2 = 0 ∧ 0 < v then 1 else -1, μ)) (by omega) ?_ ?_ 1 (by omega)
  · intro A hd _
    show Mo_goodTaking_2b 59 A (nI v) (nI v) μ = _
    unfold Mo_goodTaking_2b
    rw [if_pos (nI_le (Nat.le_refl _) (by omega))]
    by_cases c : v = 1
    · subst c; rw [if_neg (by omega)]
    · have := hd 1 (by omega) (by omega) (Nat.mod_one v)
      rw [if_neg (by omega)]
  · intro k A hk ih hd hk1
    show Mo_goodTaking_2b 59 A (nI v) (nI k) μ = _
    unfold Mo_goodTaking_2b Mo_goodTaking_26
    rw [if_neg (nI_ge hk (by omega)), nz_eq (nI_ne0 hk1 (by omega)), jrem_nI (by omega) (by omega) (by omega), nI_1]
    simp only [Nat.reduceAdd]
    by_cases c : v % k = 0
    · rw [c, if_pos (by decide), pk_sub (by omega), ldA_nI (by omega) (by omega), hw (v - k) (by omega) (by omega)]
      unfold evI
      by_cases c2 : (v - k) % 2 = 0
      · rw [if_pos c2, if_neg (by decide)]
        refine ih (fun d h1 h2 h3 => ?_) (by omega)
        by_cases e : d = k
        · subst e
          -- v and k are alike; both odd, since 1 divides before
          by_cases k1 : d = 1
          · subst k1; omega
          · exact hd 1 (by omega) (by omega) (Nat.mod_one v)
        · exact hd d h1 (by omega) h3
      · rw [if_neg c2, if_pos rfl]
        by_cases k1 : k = 1
        · subst k1; rw [if_pos (by omega)]; rfl
        · have hodd := hd 1 (by omega) (by omega) (Nat.mod_one v)
          exfalso
          have hdvd : k ∣ v := Nat.dvd_of_mod_eq_zero c
          obtain ⟨q, hq⟩ := hdvd
          have : k % 2 = 0 := by omega
          have : v % 2 = 0 := by rw [hq, Nat.mul_mod, this, Nat.zero_mul, Nat.zero_mod]
          omega
    · rw [if_neg (fun z => c (by have := (nI_eq (b := 0) (by have := Nat.mod_lt v (show 0 < k by omega); omega) (by omega)).mp z; omega))]
      refine ih (fun d h1 h2 h3 => ?_) (by omega)
      by_cases e : d = k
      · subst e; exact absurd h3 c
      · exact hd d h1 (by omega) h3
theorem th_game (μ ν : Mu) (n w : Int32) : Same (Sf_game 0 n w μ) (Mo_game 59 n w ν) := by
  unfold Sf_game Mo_game
  rw [within_eq, pF_eq, isIn_eq, cl_eq, cl_eq]
  by_cases c1 : n < 1 ∨ 300 < n
  · rw [if_pos c1, if_pos rfl, if_pos rfl]; exact same_i rfl rfl
  rw [if_neg c1, if_neg (show ¬ (1 : Int32) = 0 by decide), if_neg (show ¬ (1 : Int32) = 0 by decide), within_eq, isIn_eq, cl_eq, cl_eq]
  by_cases c2 : w < 0 ∨ 2 < w
  · rw [if_pos c2, if_pos rfl, if_pos rfl]; exact same_i rfl rfl
  rw [if_neg c2, if_neg (show ¬ (1 : Int32) = 0 by decide), if_neg (show ¬ (1 : Int32) = 0 by decide)]
  obtain ⟨a, a1, a2, rfl⟩ := nI_rng (lo := 1) (n := 300) (by omega) (by omega) (fun z => c1 (Or.inl z)) (fun z => c1 (Or.inr z))
  obtain ⟨b, b1, b2, rfl⟩ := nI_rng (lo := 0) (n := 2) (by omega) (by omega) (fun z => c2 (Or.inl z)) (fun z => c2 (Or.inr z))
  have hm : Ev (Mo_game_34 59 (nI a) (nI b) FU 0 1 (up2 ν 59 0 0)) (fun x _ => x = if b = 0 then evI a else if b = 1 then (if a % 2 = 0 then 1 else -1) else nI (a / 2)) := by
    suffices K : ∀ μ1 : Mu, (∀ u, 1 ≤ u → u < 1 → μ1 97 u = evI u) → 1 ≤ 1 → Ev (Mo_game_34 59 (nI a) (nI b) FU (nI ((1 - 1) / 2)) (nI 1) μ1) (fun x _ => x = if b = 0 then evI a else if b = 1 then (if a % 2 = 0 then 1 else -1) else nI (a / 2)) from K _ (fun u h1 h2 => by omega) (Nat.le_refl _)
    unfold Mo_game_34
    refine lp_fu (F := fun kb => Mo_game_34b 59 kb (nI a) (nI b)) (z := fun _ _ _ => none) (a + 1) (fun k A => ∀ μ1 : Mu, (∀ u, 1 ≤ u → u < k → μ1 97 u = evI u) → 1 ≤ k → Ev (A (nI ((k - 1) / 2)) (nI k) μ1) (fun x _ => x = if b = 0 then evI a else if b = 1 then (if a % 2 = 0 then 1 else -1) else nI (a / 2))) (by omega) ?_ ?_ 1 (by omega)
    · intro A μ1 hu _
      show Ev (Mo_game_34b 59 A (nI a) (nI b) (nI ((a + 1 - 1) / 2)) (nI (a + 1)) μ1) _
      unfold Mo_game_34b
      simp only [Nat.reduceAdd]
      rw [if_pos (nI_lt (by omega) (by omega))]
      rcases (show b = 0 ∨ b = 1 ∨ b = 2 by omega) with rfl | rfl | rfl
      · rw [if_pos (by decide), ldA_nI (by omega) (by omega), if_pos rfl]
        exact ev_some (hu a (by omega) (by omega))
      · have hg := good_m (μ := μ1) (v := a) (by omega) (fun u h1 h2 => hu u h1 (by omega))
        rw [if_neg (by decide), if_pos (by decide), hg, cl_eq]
        refine ev_some ?_
        by_cases z : a % 2 = 0
        · rw [if_pos (show a % 2 = 0 ∧ 0 < a from ⟨z, by omega⟩), if_neg (show ¬ (1 : Nat) = 0 by omega), if_pos rfl, if_pos z]
        · rw [if_neg (show ¬ (a % 2 = 0 ∧ 0 < a) from fun y => z y.1), if_neg (show ¬ (1 : Nat) = 0 by omega), if_pos rfl, if_neg z]
      · rw [if_neg (by decide), if_neg (by decide), if_neg (by omega), if_neg (by omega)]
        exact ev_some rfl
    · intro k A hk ih μ1 hu hk1
      show Ev (Mo_game_34b 59 A (nI a) (nI b) (nI ((k - 1) / 2)) (nI k) μ1) _
      unfold Mo_game_34b Mo_game_61
      simp only [Nat.reduceAdd]
      have hg := good_m (μ := μ1) (v := k) (by omega) hu
      rw [if_neg (nI_nlt (by omega) (by omega)), hg, cl_eq]
      have step : ∀ v : Int32, v = evI k → Ev (stA μ1 97 301 (nI k) v (fun μ2 => ldA μ2 97 301 (nI k) (fun x2 => A (nI ((k - 1) / 2) + x2) (nI k + 1) μ2))) (fun x _ => x = if b = 0 then evI a else if b = 1 then (if a % 2 = 0 then 1 else -1) else nI (a / 2)) := by
        rintro v rfl
        rw [stA_nI (by omega) (by omega), ldA_nI (by omega) (by omega), up2_same, nI_1]
        have e : nI ((k - 1) / 2) + evI k = nI ((k + 1 - 1) / 2) := by
          unfold evI
          by_cases z : k % 2 = 0
          · rw [if_pos z, nI_1]; congr 1; omega
          · rw [if_neg z, Int32.add_zero]; congr 1; omega
        rw [e]
        refine ih _ (fun u h1 h2 => ?_) (by omega)
        by_cases z : u = k
        · subst z; rw [up2_same]
        · rw [up2_off (Or.inr z)]; exact hu u h1 (by omega)
      by_cases z : k % 2 = 0
      · rw [if_pos (show k % 2 = 0 ∧ 0 < k from ⟨z, by omega⟩), if_neg (show ¬ (1 : Int32) = -1 by decide)]
        exact step 1 (by unfold evI; rw [if_pos z])
      · rw [if_neg (show ¬ (k % 2 = 0 ∧ 0 < k) from fun y => z y.1), if_pos rfl]
        exact step 0 (by unfold evI; rw [if_neg z])
  refine same_ev ?_ hm
  have e2 : jrem (nI a) 2 = nI (a % 2) := jrem_nI (b := 2) (by omega) (by omega) (by omega)
  have e3 : nI a / 2 = nI (a / 2) := pk_div (d := 2) (by omega) (by omega) (by omega)
  unfold Sf_game_33
  rw [e2]
  by_cases z : a % 2 = 0
  · rw [z, if_pos (by decide)]
    rcases (show b = 0 ∨ b = 1 ∨ b = 2 by omega) with rfl | rfl | rfl
    · rw [if_pos (by decide), if_neg (by decide), if_pos rfl]; exact ev_some (by unfold evI; rw [if_pos z])
    · rw [if_neg (by decide), if_neg (by decide), if_neg (by decide), if_neg (by omega), if_pos rfl, if_pos rfl]; exact ev_some rfl
    · rw [if_neg (by decide), if_pos (by decide), e3, if_neg (by omega), if_neg (by omega)]; exact ev_some rfl
  · rw [show a % 2 = 1 by omega, if_neg (by decide)]
    rcases (show b = 0 ∨ b = 1 ∨ b = 2 by omega) with rfl | rfl | rfl
    · rw [if_pos (by decide), if_pos rfl, if_pos rfl]; exact ev_some (by unfold evI; rw [if_neg z])
    · rw [if_neg (by decide), if_neg (by decide), if_pos rfl, if_neg (by omega), if_pos rfl, if_neg (by omega)]; exact ev_some rfl
    · rw [if_neg (by decide), if_pos (by decide), e3, if_neg (by omega), if_neg (by omega)]; exact ev_some rfl
