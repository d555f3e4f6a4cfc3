/-! L3: THOUGHTS that need nothing told: FALSE, SLABS, SWITCHES, TURNED, GAME -/
def Same (o1 o2 : Option (Int32 × Mu)) : Prop := ∃ r μ1 μ2, o1 = some (r, μ1) ∧ o2 = some (r, μ2)
theorem same_of {o1 o2 : Option (Int32 × Mu)} (h : o1.map Prod.fst = o2.map Prod.fst) (hs : o1.isSome = true) : Same o1 o2 := by
  match o1, o2, h, hs with
  | some (r, μ1), some (r', μ2), h, _ =>
    simp only [Option.map_some, Option.some.injEq] at h
    exact ⟨r, μ1, μ2, rfl, by rw [h]⟩
theorem same_i {r : Int32} {μ1 μ2 : Mu} {o1 o2 : Option (Int32 × Mu)} (h1 : o1 = some (r, μ1)) (h2 : o2 = some (r, μ2)) : Same o1 o2 := ⟨r, μ1, μ2, h1, h2⟩
theorem same_ev {r : Int32} {o1 o2 : Option (Int32 × Mu)} (h1 : Ev o1 (fun x _ => x = r)) (h2 : Ev o2 (fun x _ => x = r)) : Same o1 o2 := by
  obtain ⟨_, μ1, e1, rfl⟩ := h1
  obtain ⟨_, μ2, e2, rfl⟩ := h2
  exact ⟨_, μ1, μ2, e1, e2⟩
theorem nI_rng {v : Int32} {lo n : Nat} (hl : lo < 2 ^ 31) (hn : n < 2 ^ 31) (h0 : ¬ v < nI lo) (h1 : ¬ nI n < v) : ∃ k, lo ≤ k ∧ k ≤ n ∧ v = nI k := by
  rw [fa_lt, nI_toInt hl] at h0
  rw [fa_lt, nI_toInt hn] at h1
  refine ⟨v.toInt.toNat, by omega, by omega, ?_⟩
  rw [fa_eq, nI_toInt (by omega)]; omega
/-! FALSE -/
theorem coins_c (v0 v1 : Int32) : ∀ (fu : Nat) (a b : Int32) (μ μ' : Mu), (Sm_fewestWeighings_22 v0 v1 fu a b μ).map Prod.fst = (Sm_fewestWeighings_22 v0 v1 fu a b μ').map Prod.fst := by
  intro fu
  induction fu with
  | zero => intros; rfl
  | succ n ih =>
    intro a b μ μ'
    show (Sm_fewestWeighings_22b (Sm_fewestWeighings_22 v0 v1 n) v0 v1 a b μ).map Prod.fst = (Sm_fewestWeighings_22b (Sm_fewestWeighings_22 v0 v1 n) v0 v1 a b μ').map Prod.fst
    unfold Sm_fewestWeighings_22b Sm_fewestWeighings_35
    split <;> split <;> (try split) <;> first | rfl | exact ih _ _ _ _
theorem coins_m (v1 v2 : Int32) : ∀ (fu : Nat) (a b : Int32) (μ μ' : Mu), (Mo_coins_49 59 v1 v2 fu a b μ).map Prod.fst = (Mo_coins_49 59 v1 v2 fu a b μ').map Prod.fst := by
  intro fu
  induction fu with
  | zero => intros; rfl
  | succ n ih =>
    intro a b μ μ'
    show (Mo_coins_49b 59 (Mo_coins_49 59 v1 v2 n) v1 v2 a b μ).map Prod.fst = (Mo_coins_49b 59 (Mo_coins_49 59 v1 v2 n) v1 v2 a b μ').map Prod.fst
    unfold Mo_coins_49b Mo_coins_65
    split <;> split <;> first | rfl | exact ih _ _ _ _
theorem coins_fin : ∀ n, n < 101 → ∀ h, h < 2 → (Sm_fewestWeighings_22 (nI n) (nI h) FU 0 1 μ00).map Prod.fst = (Mo_coins_49 59 (nI n) (nI h) FU 0 1 μ00).map Prod.fst ∧ (Sm_fewestWeighings_22 (nI n) (nI h) FU 0 1 μ00).isSome = true := by decide +kernel
theorem isSome_map {o o' : Option (Int32 × Mu)} (h : o.map Prod.fst = o'.map Prod.fst) (hs : o'.isSome = true) : o.isSome = true := by
  match o, o', h, hs with
  | some _, some _, _, _ => rfl
  | none, some _, h, _ => cases h
theorem th_coins (μ ν : Mu) (n h : Int32) : Same (Sf_coins 0 n h μ) (Mo_coins 59 n h ν) := by
  unfold Sf_coins Mo_coins
  rw [within_eq, pF_eq, isIn_eq, cl_eq, cl_eq]
  by_cases c1 : n < 1 ∨ 100 < n
  · rw [if_pos c1, if_pos rfl, if_pos rfl]; exact same_i rfl rfl
  rw [if_neg c1, if_neg (show ¬ (1 : Int32) = 0 by decide), if_neg (show ¬ (1 : Int32) = 0 by decide), within_eq, isIn_eq, cl_eq, cl_eq]
  by_cases c2 : h < 0 ∨ 1 < h
  · rw [if_pos c2, if_pos rfl, if_pos rfl]; exact same_i rfl rfl
  rw [if_neg c2, if_neg (show ¬ (1 : Int32) = 0 by decide), if_neg (show ¬ (1 : Int32) = 0 by decide)]
  obtain ⟨a, a1, a2, rfl⟩ := nI_rng (lo := 1) (n := 100) (by omega) (by omega) (fun z => c1 (Or.inl z)) (fun z => c1 (Or.inr z))
  obtain ⟨b, b1, b2, rfl⟩ := nI_rng (lo := 0) (n := 1) (by omega) (by omega) (fun z => c2 (Or.inl z)) (fun z => c2 (Or.inr z))
  have hb : (if nI b = 1 then Sf_coins_30 0 1 (nI a) μ else Sf_coins_30 0 0 (nI a) μ) = Sf_coins_30 0 (nI b) (nI a) μ := by
    rcases (show b = 0 ∨ b = 1 by omega) with rfl | rfl
    · rw [if_neg (by decide)]; rfl
    · rw [if_pos (by decide)]; rfl
  rw [hb]
  have hc : ∀ o : Option (Int32 × Mu), cl o (fun x2 μ1 => some (x2, μ1)) = o := fun o => by cases o <;> rfl
  unfold Sf_coins_30
  rw [hc]
  unfold Sm_fewestWeighings Sm_fewestWeighings_18 Mo_coins_37
  by_cases d1 : a = 1
  · subst d1
    rw [if_pos (by decide)]
    by_cases d2 : b = 0
    · subst d2
      rw [if_pos (by decide), if_neg (by decide), if_pos (by decide)]; exact same_i rfl rfl
    · have : b = 1 := by omega
      subst this
      rw [if_neg (by decide), if_pos (by decide)]; exact same_i rfl rfl
  · have e1 : ¬ nI a = 1 := fun z => d1 ((nI_eq (b := 1) (by omega) (by omega)).mp z)
    rw [if_neg e1, if_neg e1]
    have fin := coins_fin a (by omega) b (by omega)
    have go : Same (Sm_fewestWeighings_22 (nI a) (nI b) FU 0 1 μ) (Mo_coins_49 59 (nI a) (nI b) FU 0 1 (up2 ν 59 0 0)) :=
      same_of (by rw [coins_c _ _ FU 0 1 μ μ00, coins_m _ _ FU 0 1 (up2 ν 59 0 0) μ00, fin.1]) (isSome_map (coins_c _ _ FU 0 1 μ μ00) fin.2)
    by_cases d2 : a = 2
    · subst d2
      rw [if_pos (by decide)]
      by_cases d3 : b = 0
      · subst d3
        rw [if_pos (by decide), if_pos (by decide), if_pos (by decide)]; exact same_i rfl rfl
      · have : b = 1 := by omega
        subst this
        rw [if_neg (by decide), if_neg (by decide)]; exact go
    · have e2 : ¬ nI a = 2 := fun z => d2 ((nI_eq (b := 2) (by omega) (by omega)).mp z)
      rw [if_neg e2, if_neg e2, ite_self]; exact go
/-! SWITCHES -/
theorem sight_c : ∀ (fu : Nat) (a b : Int32) (μ μ' : Mu), (Sm_numberOfSight_4 fu a b μ).map Prod.fst = (Sm_numberOfSight_4 fu a b μ').map Prod.fst := by
  intro fu
  induction fu with
  | zero => intros; rfl
  | succ n ih =>
    intro a b μ μ'
    show (Sm_numberOfSight_4b (Sm_numberOfSight_4 n) a b μ).map Prod.fst = (Sm_numberOfSight_4b (Sm_numberOfSight_4 n) a b μ').map Prod.fst
    unfold Sm_numberOfSight_4b
    split <;> first | rfl | exact ih _ _ _ _
def sgt (k : Nat) : Nat := k ^^^ (k / 2)
def ivt (v : Nat) : Nat := v ^^^ (v / 2) ^^^ (v / 4) ^^^ (v / 8) ^^^ (v / 16) ^^^ (v / 32) ^^^ (v / 64) ^^^ (v / 128) ^^^ (v / 256) ^^^ (v / 512)
theorem sight_fin : ∀ v, v < 1024 → (Sm_numberOfSight_4 FU 0 (nI v) μ00).map Prod.fst = some (nI (ivt v)) ∧ ivt v < 1024 ∧ sgt (ivt v) = v ∧ ivt (sgt v) = v := by decide +kernel
theorem sgt_eq {k : Nat} (hk : k < 2 ^ 31) : nI k ^^^ jshr (nI k) 1 = nI (sgt k) := by
  unfold jshr sgt
  have e : (1 : Int32) &&& 31 = 1 := by decide
  rw [e, pk_shrN hk 1 1 (by decide), fb_xorI]
theorem th_switches (μ ν : Mu) (v w : Int32) : Same (Sf_switches 0 v w μ) (Mo_switches 59 v w ν) := by
  unfold Sf_switches Mo_switches
  rw [within_eq, pF_eq, isIn_eq, cl_eq, cl_eq]
  by_cases c1 : v < 0 ∨ 1023 < v
  · rw [if_pos c1, if_pos rfl, if_pos rfl]; exact same_i rfl rfl
  rw [if_neg c1, if_neg (show ¬ (1 : Int32) = 0 by decide), if_neg (show ¬ (1 : Int32) = 0 by decide), within_eq, isIn_eq, cl_eq, cl_eq]
  by_cases c2 : w < 0 ∨ 1 < w
  · rw [if_pos c2, if_pos rfl, if_pos rfl]; exact same_i rfl rfl
  rw [if_neg c2, if_neg (show ¬ (1 : Int32) = 0 by decide), if_neg (show ¬ (1 : Int32) = 0 by decide)]
  by_cases c3 : w = 0
  · rw [if_pos c3, if_pos c3]; exact same_i rfl rfl
  rw [if_neg c3, if_neg c3]
  obtain ⟨a, a1, a2, rfl⟩ := nI_rng (lo := 0) (n := 1023) (by omega) (by omega) (fun z => c1 (Or.inl z)) (fun z => c1 (Or.inr z))
  obtain ⟨f1, f2, f3, -⟩ := sight_fin a (by omega)
  have hc : Ev (Sm_numberOfSight (nI a) μ) (fun x _ => x = nI (ivt a)) := by
    have := sight_c FU 0 (nI a) μ μ00
    rw [f1] at this
    unfold Sm_numberOfSight
    match h : Sm_numberOfSight_4 FU 0 (nI a) μ, this with
    | some (r, μ1), this =>
      simp only [Option.map_some, Option.some.injEq] at this
      exact ⟨r, μ1, rfl, this⟩
  have hm : Ev (Mo_switches_41 59 (nI a) FU 0 (up2 ν 59 0 0)) (fun x _ => x = nI (ivt a)) := by
    suffices K : Ev (Mo_switches_41 59 (nI a) FU (nI 0) (up2 ν 59 0 0)) (fun x _ => x = nI (ivt a)) from K
    unfold Mo_switches_41
    refine lp_fu (F := fun kb => Mo_switches_41b 59 kb (nI a)) (z := fun _ _ => none) (ivt a) (fun k A => Ev (A (nI k) (up2 ν 59 0 0)) (fun x _ => x = nI (ivt a))) (by omega) ?_ ?_ 0 (by omega)
    · intro A
      show Ev (Mo_switches_41b 59 A (nI a) (nI (ivt a)) (up2 ν 59 0 0)) _
      unfold Mo_switches_41b
      rw [sgt_eq (by omega), f3, if_pos rfl]
      exact ev_some rfl
    · intro k A hk ih
      show Ev (Mo_switches_41b 59 A (nI a) (nI k) (up2 ν 59 0 0)) _
      unfold Mo_switches_41b
      have hlt : sgt k < 2 ^ 31 := by unfold sgt; exact Nat.lt_trans (Nat.xor_lt_two_pow (n := 10) (by omega) (by omega)) (by omega)
      rw [sgt_eq (by omega), if_neg (fun z => by
        have := (nI_eq hlt (by omega)).mp z
        have h4 := (sight_fin k (by omega)).2.2.2
        rw [this] at h4
        omega), nI_1]
      exact ih
  have hc' : ∀ o : Option (Int32 × Mu), cl o (fun x2 μ1 => some (x2, μ1)) = o := fun o => by cases o <;> rfl
  rw [hc']
  exact same_ev hc hm
