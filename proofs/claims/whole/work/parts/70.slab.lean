/-! L3: SLABS -/
def aL : List Nat := [1, 3, 11, 41, 153, 571, 2131, 7953, 29681, 110771, 413403, 1542841, 5757961, 21489003, 80198051, 299303201, 117014746, 168755783, 558008386, 63277747, 695102609]
def aS (k : Nat) : Nat := aL.getD k 0
def pS (a : Nat → Nat) (k : Nat) : Nat → Nat
  | 0 => 0
  | j + 1 => if j = 0 then ((pS a k j + (a (k - (j + 1)) + a (k - (j + 1))) % pM) % pM + a (k - 1)) % pM else (pS a k j + (a (k - (j + 1)) + a (k - (j + 1))) % pM) % pM
theorem aS_fin : ∀ k, k < 21 → aS k < pM ∧ (1 ≤ k → pS aS k k = aS k) := by decide +kernel
def xL (n : Nat) : Int64 := Int64.ofNat n
theorem fmL_i (v w : Int64) (μ μ' : Mu) : (Jm_floorModL v w μ).map Prod.fst = (Jm_floorModL v w μ').map Prod.fst := by
  unfold Jm_floorModL Jm_floorModL_25 nzL
  split
  · rfl
  · split
    · rfl
    · split
      · rfl
      · rfl
theorem fmL_n (v w : Int64) (μ : Mu) : ∀ {r : Int64} {μ' : Mu}, Jm_floorModL v w μ = some (r, μ') → μ' = μ := by
  intro r μ'
  unfold Jm_floorModL Jm_floorModL_25 nzL
  split
  · intro h; exact absurd h (by simp)
  · split
    · intro h; simp only [Option.some.injEq, Prod.mk.injEq] at h; exact h.2.symm
    · split
      · intro h; simp only [Option.some.injEq, Prod.mk.injEq] at h; exact h.2.symm
      · intro h; simp only [Option.some.injEq, Prod.mk.injEq] at h; exact h.2.symm
/-- the one before the jth -/
def bS : Nat → Nat
  | 0 => 1
  | j + 1 => aS j
theorem floor_fin : ∀ k, k < 20 → (Jm_floorModL ((4 * xL (aS k)) - xL (bS k)) 1000000007 μ00).map Prod.fst = some (xL (aS (k + 1))) := by decide +kernel
theorem toI_fin : ∀ k, k < 21 → Int64.toInt32 (xL (aS k)) = nI (aS k) := by decide +kernel
theorem floors_c (k : Nat) (hk : k ≤ 20) (μ : Mu) : Ev (Sm_floors_15 (nI (2 * k)) FU 1 1 2 μ) (fun x _ => x = nI (aS k)) := by
  unfold Sm_floors_15
  refine lp_fu (F := fun kb => Sm_floors_15b kb (nI (2 * k))) (z := fun _ _ _ _ => none) k (fun m A => ∀ μ1 : Mu, Ev (A (xL (aS m)) (xL (bS m)) (nI (2 * (m + 1))) μ1) (fun x _ => x = nI (aS k))) (by omega) ?_ ?_ 0 (by omega) μ
  · intro A μ1
    show Ev (Sm_floors_15b A (nI (2 * k)) (xL (aS k)) (xL (bS k)) (nI (2 * (k + 1))) μ1) _
    unfold Sm_floors_15b
    rw [if_pos (nI_lt (by omega) (by omega))]
    exact ev_some (toI_fin k (by omega))
  · intro m A hm ih μ1
    show Ev (Sm_floors_15b A (nI (2 * k)) (xL (aS m)) (xL (bS m)) (nI (2 * (m + 1))) μ1) _
    unfold Sm_floors_15b
    rw [if_neg (nI_nlt (by omega) (by omega))]
    have h := floor_fin m (by omega)
    rw [fmL_i _ _ μ00 μ1] at h
    generalize (4 * xL (aS m)) - xL (bS m) = v at h ⊢
    match e : Jm_floorModL v 1000000007 μ1, h with
    | some (r, μ2), h =>
      simp only [Option.map_some, Option.some.injEq] at h
      subst h
      rw [cl_eq, show nI (2 * (m + 1)) + 2 = nI (2 * (m + 1 + 1)) from nI_add (2 * (m + 1)) 2]
      exact ih μ2
theorem pS_lt (a : Nat → Nat) (k : Nat) : ∀ j, pS a k j < pM := by
  have hp : 0 < pM := by unfold pM; omega
  intro j
  match j with
  | 0 => exact hp
  | j + 1 =>
    show (if j = 0 then _ else _) < pM
    split <;> exact Nat.mod_lt _ hp
theorem th_slabs (μ ν : Mu) (n : Int32) : Same (Sf_slabs 0 n μ) (Mo_slabs 59 n ν) := by
  have hpl : pM < 2 ^ 30 := by unfold pM; omega
  unfold Sf_slabs Mo_slabs
  rw [within_eq, pF_eq, isIn_eq, cl_eq, cl_eq]
  by_cases c1 : n < 0 ∨ 40 < n
  · rw [if_pos c1, if_pos rfl, if_pos rfl]; exact same_i rfl rfl
  rw [if_neg c1, if_neg (show ¬ (1 : Int32) = 0 by decide), if_neg (show ¬ (1 : Int32) = 0 by decide)]
  obtain ⟨a, a1, a2, rfl⟩ := nI_rng (lo := 0) (n := 40) (by omega) (by omega) (fun z => c1 (Or.inl z)) (fun z => c1 (Or.inr z))
  have hc : ∀ o : Option (Int32 × Mu), cl o (fun x2 μ1 => some (x2, μ1)) = o := fun o => by cases o <;> rfl
  have e2 : jrem (nI a) 2 = nI (a % 2) := jrem_nI (b := 2) (by omega) (by omega) (by omega)
  rw [hc]
  unfold Sm_floors
  rw [e2]
  by_cases z : a % 2 = 0
  · obtain ⟨k, rfl⟩ : ∃ k, a = 2 * k := ⟨a / 2, by omega⟩
    rw [z, if_pos (show nI 0 = 0 by decide), if_neg (show ¬ nI 0 = 1 by decide)]
    have hC : Ev (Sm_floors_15 (nI (2 * k)) FU 1 1 2 μ) (fun x _ => x = nI (aS k)) := floors_c k (by omega) μ
    refine same_ev hC ?_
    simp only [Nat.reduceAdd]
    rw [stA_at 0 nI_0.symm (by omega) (by omega)]
    suffices K : ∀ ν1 : Mu, (∀ j, j < 1 → ν1 84 (2 * j) = nI (aS j)) → 1 ≤ 1 → Ev (Mo_slabs_36 59 (nI (2 * k)) FU (nI (2 * 1)) ν1) (fun x _ => x = nI (aS k)) from K _ (fun j hj => by
      have : j = 0 := (by omega)
      subst this; rw [up2_same]; rfl) (Nat.le_refl _)
    unfold Mo_slabs_36
    refine lp_fu (F := fun kb => Mo_slabs_36b 59 kb (nI (2 * k))) (z := fun _ _ => none) (k + 1) (fun m A => ∀ ν1 : Mu, (∀ j, j < m → ν1 84 (2 * j) = nI (aS j)) → 1 ≤ m → Ev (A (nI (2 * m)) ν1) (fun x _ => x = nI (aS k))) (by omega) ?_ ?_ 1 (by omega)
    · intro A ν1 hj _
      show Ev (Mo_slabs_36b 59 A (nI (2 * k)) (nI (2 * (k + 1))) ν1) _
      unfold Mo_slabs_36b
      simp only [Nat.reduceAdd]
      rw [if_pos (nI_lt (by omega) (by omega)), ldA_nI (by omega) (by omega)]
      exact ev_some (hj k (by omega))
    · intro m A hm ih ν1 hj hm1
      show Ev (Mo_slabs_36b 59 A (nI (2 * k)) (nI (2 * m)) ν1) _
      unfold Mo_slabs_36b
      simp only [Nat.reduceAdd]
      rw [if_neg (nI_nlt (by omega) (by omega)), stA_nI (by omega) (by omega)]
      suffices K : ∀ ν2 : Mu, (∀ j, j < m → ν2 84 (2 * j) = nI (aS j)) → ν2 84 (2 * m) = nI (pS aS m 0) → Ev (Mo_slabs_50 59 A (nI (2 * k)) (nI (2 * m)) FU (nI (2 * (0 + 1))) ν2) (fun x _ => x = nI (aS k)) from K _ (fun j h => by rw [up2_off (Or.inr (by omega))]; exact hj j h) (up2_same _ _ _ _)
      unfold Mo_slabs_50
      refine lp_fu (F := fun kb => Mo_slabs_50b 59 A kb (nI (2 * k)) (nI (2 * m))) (z := fun _ _ => none) m (fun i B => ∀ ν2 : Mu, (∀ j, j < m → ν2 84 (2 * j) = nI (aS j)) → ν2 84 (2 * m) = nI (pS aS m i) → Ev (B (nI (2 * (i + 1))) ν2) (fun x _ => x = nI (aS k))) (by omega) ?_ ?_ 0 (Nat.zero_le _)
      · intro B ν2 h2 hm2
        show Ev (Mo_slabs_50b 59 A B (nI (2 * k)) (nI (2 * m)) (nI (2 * (m + 1))) ν2) _
        unfold Mo_slabs_50b
        rw [if_pos (nI_lt (by omega) (by omega)), show nI (2 * m) + 2 = nI (2 * (m + 1)) from nI_add (2 * m) 2]
        refine ih ν2 (fun j h => ?_) (by omega)
        by_cases y : j = m
        · subst y; rw [hm2, (aS_fin j (by omega)).2 hm1]
        · exact h2 j (by omega)
      · intro i B hi ihi ν2 h2 hm2
        show Ev (Mo_slabs_50b 59 A B (nI (2 * k)) (nI (2 * m)) (nI (2 * (i + 1))) ν2) _
        unfold Mo_slabs_50b Mo_slabs_120
        simp only [Nat.reduceAdd]
        have hA := (aS_fin (m - (i + 1)) (by omega)).1
        have hB := pS_lt aS m i
        have hmod : ∀ x, x % pM < pM := fun x => Nat.mod_lt _ (by unfold pM; omega)
        rw [if_neg (nI_nlt (by omega) (by omega)), ldA_nI (by omega) (by omega), pk_sub (by omega), ldA_nI (by omega) (by omega), ldA_nI (by omega) (by omega), hm2, show 2 * m - 2 * (i + 1) = 2 * (m - (i + 1)) by omega, h2 _ (by omega), mo_added hA hA, cl_eq, mo_added hB (hmod _), cl_eq, stA_nI (by omega) (by omega), show nI (2 * (i + 1)) + 2 = nI (2 * (i + 1 + 1)) from nI_add (2 * (i + 1)) 2]
        have e : pS aS m (i + 1) = if i = 0 then ((pS aS m i + (aS (m - (i + 1)) + aS (m - (i + 1))) % pM) % pM + aS (m - 1)) % pM else (pS aS m i + (aS (m - (i + 1)) + aS (m - (i + 1))) % pM) % pM := rfl
        rw [e] at ihi
        by_cases y : i = 0
        · subst y
          rw [if_pos rfl] at ihi
          rw [if_pos (show nI (2 * (0 + 1)) = 2 by decide), ldA_nI (by omega) (by omega), up2_same, show nI (2 * m) - 2 = nI (2 * m - 2) from pk_sub (b := 2) (by omega), ldA_nI (by omega) (by omega), up2_off (Or.inr (by omega)), show 2 * m - 2 = 2 * (m - 1) by omega, h2 (m - 1) (by omega), mo_added (hmod _) (aS_fin (m - 1) (by omega)).1, cl_eq, stA_nI (by omega) (by omega)]
          exact ihi _ (fun j h => by rw [up2_off (Or.inr (by omega)), up2_off (Or.inr (by omega))]; exact h2 j h) (up2_same _ _ _ _)
        · rw [if_neg y] at ihi
          rw [if_neg (fun q : nI (2 * (i + 1)) = 2 => y (by have := (nI_eq (b := 2) (by omega) (by omega)).mp q; omega))]
          exact ihi _ (fun j h => by rw [up2_off (Or.inr (by omega))]; exact h2 j h) (up2_same _ _ _ _)
  · rw [show a % 2 = 1 by omega, if_neg (show ¬ nI 1 = 0 by decide), if_pos (show nI 1 = 1 by decide)]; exact same_i rfl rfl
