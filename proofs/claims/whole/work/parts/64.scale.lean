/-! L3: WEIGHTS -/
def wsL : List Int32 → Nat → Int32 → Int32
  | [], _, acc => acc
  | w :: r, n, acc => wsL r (n / 3) (acc + w * (nI (n % 3) - 1))
def cntW (l : List Int32) (m : Int32) (n : Nat) : Nat := fb_ct (fun k => decide (wsL l k 0 = m)) n
theorem cntW_le (l : List Int32) (m : Int32) (n : Nat) : cntW l m n ≤ n := fb_ct_le _ _
theorem cntW_s (l : List Int32) (m : Int32) (n : Nat) : cntW l m (n + 1) = cntW l m n + (if wsL l n 0 = m then 1 else 0) := by
  unfold cntW
  rw [fb_ct_succ]
  by_cases c : wsL l n 0 = m
  · simp [c]
  · simp [c]
theorem pow3 {k : Nat} (h : k ≤ 6) : 3 ^ k ≤ 729 := Nat.le_trans (Nat.pow_le_pow_right (by omega) h) (by decide)
theorem bool_iff {a b : Bool} (h : a = true ↔ b = true) : a = b := by
  cases a <;> cases b <;> simp_all
theorem laid_c {μ : Mu} {l : List Int32} (h : RwC μ 23 6 1 60 l) : Th_laidWays 45 18 μ = some (nI (3 ^ l.length), μ) := by
  obtain ⟨h0, h1, h3, hl, hn, hv⟩ := h
  suffices K : Th_laidWays_4 45 18 FU (nI (3 ^ 0)) (nI 0) μ = some (nI (3 ^ l.length), μ) from K
  unfold Th_laidWays_4
  refine lp_fu (F := fun kb => Th_laidWays_4b 45 18 kb) (z := fun _ _ _ => none) l.length (fun k A => A (nI (3 ^ k)) (nI k) μ = some (nI (3 ^ l.length), μ)) (by omega) ?_ ?_ 0 (by omega)
  · intro A
    show Th_laidWays_4b 45 18 A _ (nI l.length) μ = _
    unfold Th_laidWays_4b
    simp only [Nat.reduceAdd]
    rw [gF_eq, h3, if_pos (nI_le (Nat.le_refl _) (by omega))]
  · intro k A hk ih
    show Th_laidWays_4b 45 18 A _ (nI k) μ = _
    unfold Th_laidWays_4b
    simp only [Nat.reduceAdd]
    rw [gF_eq, h3, if_neg (nI_ge hk (by omega)), nI_1, show nI (3 ^ k) * 3 = nI (3 ^ k * 3) from pk_mul _ 3]
    exact ih
theorem weighed_c {μ : Mu} {l : List Int32} (h : RwC μ 23 6 1 60 l) {n : Nat} (hn : n < 2 ^ 31) : Th_weighed 45 18 (nI n) μ = some (wsL l n 0, μ) := by
  have hh := h
  obtain ⟨h0, h1, h3, hl, hn10, hv⟩ := h
  have hF : l.length < FU := by have := FU_big; omega
  unfold Th_weighed
  suffices K : ∀ d k acc m fu, k + d = l.length → m < 2 ^ 31 → d < fu → Th_weighed_7 45 18 fu acc (nI m) (nI k) μ = some (wsL (l.drop k) m acc, μ) from K l.length 0 0 n FU (by omega) hn hF
  intro d
  induction d with
  | zero =>
    intro k acc m fu hk hm hf
    obtain ⟨f, rfl⟩ : ∃ f, fu = f + 1 := ⟨fu - 1, by omega⟩
    show Th_weighed_7b 45 18 (Th_weighed_7 45 18 f) acc (nI m) (nI k) μ = _
    unfold Th_weighed_7b
    simp only [Nat.reduceAdd]
    rw [gF_eq, h3, if_pos (nI_le (by omega) (by omega)), List.drop_eq_nil_of_le (by omega)]; rfl
  | succ d ih =>
    intro k acc m fu hk hm hf
    obtain ⟨f, rfl⟩ : ∃ f, fu = f + 1 := ⟨fu - 1, by omega⟩
    show Th_weighed_7b 45 18 (Th_weighed_7 45 18 f) acc (nI m) (nI k) μ = _
    unfold Th_weighed_7b
    simp only [Nat.reduceAdd]
    rw [gF_eq, h3, if_neg (nI_ge (by omega) (by omega)), rw_at hh k (by omega), cl_eq, nI_1, show jrem (nI m) 3 = nI (m % 3) from jrem_nI (b := 3) hm (by omega) (by omega), show nI m / 3 = nI (m / 3) from pk_div (d := 3) hm (by omega) (by omega), Int32.mul_comm, drop_at 0 (by omega)]
    exact ih (k + 1) _ (m / 3) f (by omega) (by omega) (by omega)
theorem ways_m {ν : Mu} {l : List Int32} (h : RwM ν 59 45 83 6 l) (m : Int32) : Mo_waysOfScales 59 m ν = some (nI (cntW l m (3 ^ l.length)), ν) := by
  obtain ⟨h1, hl, hn10, hv⟩ := h
  have hp := pow3 hl
  -- one way laid
  have one : ∀ (kb27 : Int32 → Int32 → Mu → Option (Int32 × Mu)) (all : Int32) (c n : Nat), Mo_waysOfScales_43 59 kb27 m all (nI c) (nI n) FU (nI n) 0 0 ν = kb27 (nI (c + (if wsL l n 0 = m then 1 else 0))) (nI n + 1) ν ∨ ¬ n < 2 ^ 31 := by
    intro kb27 all c n
    by_cases hn : n < 2 ^ 31
    · refine Or.inl ?_
      suffices K : ∀ d k acc q fu, k + d = l.length → q < 2 ^ 31 → d < fu → Mo_waysOfScales_43 59 kb27 m all (nI c) (nI n) fu (nI q) acc (nI k) ν = kb27 (nI (c + (if wsL (l.drop k) q acc = m then 1 else 0))) (nI n + 1) ν from K l.length 0 0 n FU (by omega) hn (by have := FU_big; omega)
      intro d
      induction d with
      | zero =>
        intro k acc q fu hk hq hf
        obtain ⟨f, rfl⟩ : ∃ f, fu = f + 1 := ⟨fu - 1, by omega⟩
        show Mo_waysOfScales_43b 59 kb27 (Mo_waysOfScales_43 59 kb27 m all (nI c) (nI n) f) m all (nI c) (nI n) (nI q) acc (nI k) ν = _
        unfold Mo_waysOfScales_43b Mo_waysOfScales_93
        rw [gF_eq, h1, if_pos (nI_le (by omega) (by omega)), List.drop_eq_nil_of_le (by omega)]
        show (if acc = m then _ else _) = kb27 (nI (c + (if acc = m then 1 else 0))) (nI n + 1) ν
        by_cases z : acc = m
        · rw [if_pos z, if_pos z, nI_1]
        · rw [if_neg z, if_neg z, Nat.add_zero]
      | succ d ih =>
        intro k acc q fu hk hq hf
        obtain ⟨f, rfl⟩ : ∃ f, fu = f + 1 := ⟨fu - 1, by omega⟩
        show Mo_waysOfScales_43b 59 kb27 (Mo_waysOfScales_43 59 kb27 m all (nI c) (nI n) f) m all (nI c) (nI n) (nI q) acc (nI k) ν = _
        unfold Mo_waysOfScales_43b
        simp only [Nat.reduceAdd]
        rw [gF_eq, h1, if_neg (nI_ge (by omega) (by omega)), ldA_nI (by omega) (by omega), hv k (by omega), nI_1, show jrem (nI q) 3 = nI (q % 3) from jrem_nI (b := 3) hq (by omega) (by omega), show nI q / 3 = nI (q / 3) from pk_div (d := 3) hq (by omega) (by omega), drop_at 0 (by omega)]
        exact ih (k + 1) _ (q / 3) f (by omega) (by omega) (by omega)
    · exact Or.inr hn
  have loop : Mo_waysOfScales_27 59 m (nI (3 ^ l.length)) FU 0 0 ν = some (nI (cntW l m (3 ^ l.length)), ν) := by
    suffices K : Mo_waysOfScales_27 59 m (nI (3 ^ l.length)) FU (nI (cntW l m 0)) (nI 0) ν = some (nI (cntW l m (3 ^ l.length)), ν) from K
    unfold Mo_waysOfScales_27
    refine lp_fu (F := fun kb => Mo_waysOfScales_27b 59 kb m (nI (3 ^ l.length))) (z := fun _ _ _ => none) (3 ^ l.length) (fun k A => A (nI (cntW l m k)) (nI k) ν = some (nI (cntW l m (3 ^ l.length)), ν)) (by omega) ?_ ?_ 0 (Nat.zero_le _)
    · intro A
      show Mo_waysOfScales_27b 59 A m (nI (3 ^ l.length)) _ (nI (3 ^ l.length)) ν = _
      unfold Mo_waysOfScales_27b
      rw [if_pos (nI_le (Nat.le_refl _) (by omega))]
    · intro k A hk ih
      show Mo_waysOfScales_27b 59 A m (nI (3 ^ l.length)) _ (nI k) ν = _
      unfold Mo_waysOfScales_27b
      rw [if_neg (nI_ge hk (by omega))]
      rcases one A (nI (3 ^ l.length)) (cntW l m k) k with e | e
      · rw [e, ← cntW_s, nI_1]; exact ih
      · omega
  unfold Mo_waysOfScales
  suffices K : Mo_waysOfScales_4 59 m FU (nI (3 ^ 0)) (nI 0) ν = some (nI (cntW l m (3 ^ l.length)), ν) from K
  unfold Mo_waysOfScales_4
  refine lp_fu (F := fun kb => Mo_waysOfScales_4b 59 kb m) (z := fun _ _ _ => none) l.length (fun k A => A (nI (3 ^ k)) (nI k) ν = some (nI (cntW l m (3 ^ l.length)), ν)) (by omega) ?_ ?_ 0 (by omega)
  · intro A
    show Mo_waysOfScales_4b 59 A m _ (nI l.length) ν = _
    unfold Mo_waysOfScales_4b
    rw [gF_eq, h1, if_pos (nI_le (Nat.le_refl _) (by omega))]
    exact loop
  · intro k A hk ih
    show Mo_waysOfScales_4b 59 A m _ (nI k) ν = _
    unfold Mo_waysOfScales_4b
    rw [gF_eq, h1, if_neg (nI_ge hk (by omega)), nI_1, show nI (3 ^ k) * 3 = nI (3 ^ k * 3) from pk_mul _ 3]
    exact ih
theorem ja_fill {r n : Nat} (hn : n < 2 ^ 31) (h5 : n ≤ 100000) (v : Int32) (μ : Mu) : Ev (Ja_fill r n v μ) (fun _ μ' => (∀ j, j < n → μ' r j = v) ∧ Off [r] μ μ') := by
  unfold Ja_fill
  suffices K : ∀ μ1, Off [r] μ μ1 → (∀ j, j < 0 → μ1 r j = v) → Ev (Ja_fill_5 r n v (nI n) FU (nI 0) μ1) (fun _ μ' => (∀ j, j < n → μ' r j = v) ∧ Off [r] μ μ') from K μ (off_refl _ _) (fun j hj => absurd hj (by omega))
  unfold Ja_fill_5
  refine lp_fu (F := fun kb => Ja_fill_5b r n kb v (nI n)) (z := fun _ _ => none) n (fun k A => ∀ μ1, Off [r] μ μ1 → (∀ j, j < k → μ1 r j = v) → Ev (A (nI k) μ1) (fun _ μ' => (∀ j, j < n → μ' r j = v) ∧ Off [r] μ μ')) h5 ?_ ?_ 0 (by omega)
  · intro A μ1 hO hj
    show Ev (Ja_fill_5b r n A v (nI n) (nI n) μ1) _
    unfold Ja_fill_5b
    rw [if_pos (nI_le (Nat.le_refl _) hn)]
    exact ev_some ⟨hj, hO⟩
  · intro k A hk ih μ1 hO hj
    show Ev (Ja_fill_5b r n A v (nI n) (nI k) μ1) _
    unfold Ja_fill_5b
    rw [if_neg (nI_ge hk hn), stA_nI hk hn, nI_1]
    refine ih _ (off_trans hO (off_up List.mem_cons_self)) (fun j h => ?_)
    by_cases z : j = k
    · subst z; rw [up2_same]
    · rw [up2_off (Or.inr z)]; exact hj j (by omega)
def hitW (l : List Int32) (n v : Nat) : Bool := decide (0 < v ∧ 0 < cntW l (nI v) n)
theorem hitW_s (l : List Int32) (n v : Nat) : hitW l (n + 1) v = true ↔ hitW l n v = true ∨ (0 < v ∧ wsL l n 0 = nI v) := by
  unfold hitW
  rw [cntW_s]
  simp only [decide_eq_true_eq]
  by_cases c : wsL l n 0 = nI v
  · rw [if_pos c]
    constructor
    · rintro ⟨a, b⟩; exact Or.inr ⟨a, c⟩
    · rintro (⟨a, b⟩ | ⟨a, b⟩) <;> exact ⟨a, by omega⟩
  · rw [if_neg c]
    constructor
    · rintro ⟨a, b⟩; exact Or.inl ⟨a, by omega⟩
    · rintro (⟨a, b⟩ | ⟨a, b⟩)
      · exact ⟨a, by omega⟩
      · exact absurd b c
theorem balanced_c {μ : Mu} {l : List Int32} (h : RwC μ 23 6 1 60 l) : Ev (Th_balancedNumbers 45 18 μ) (fun r _ => r = nI (fb_ct (hitW l (3 ^ l.length)) 361)) := by
  have hl : l.length ≤ 6 := h.2.2.2.1
  have hp := pow3 hl
  unfold Th_balancedNumbers
  refine ev_cl (ev_mono (ja_fill (r := 46) (n := 361) (by omega) (by omega) 0 μ) ?_)
  rintro _ μ1 ⟨hz, hO⟩
  have hr : ∀ μ2, Off [46] μ μ2 → RwC μ2 23 6 1 60 l := fun μ2 hO => rwC_congr (hO 23 (by simp)) (hO 24 (by simp)) h
  rw [laid_c (hr μ1 hO), cl_eq]
  suffices K : ∀ μ2, Off [46] μ μ2 → (∀ v, v < 361 → (μ2 46 v = 0 ↔ hitW l 0 v = false)) → Ev (Th_balancedNumbers_17 45 18 (nI (3 ^ l.length)) FU (nI (fb_ct (hitW l 0) 361)) (nI 0) μ2) (fun r _ => r = nI (fb_ct (hitW l (3 ^ l.length)) 361)) by
    have e0 : fb_ct (hitW l 0) 361 = 0 := fb_ct_zero.mpr (fun k _ => by unfold hitW; exact decide_eq_false (fun z => absurd z.2 (Nat.lt_irrefl 0)))
    rw [e0] at K
    exact K μ1 hO (fun v hv => ⟨fun _ => by unfold hitW; exact decide_eq_false (fun z => absurd z.2 (Nat.lt_irrefl 0)), fun _ => hz v hv⟩)
  unfold Th_balancedNumbers_17
  refine lp_fu (F := fun kb => Th_balancedNumbers_17b 45 18 kb (nI (3 ^ l.length))) (z := fun _ _ _ => none) (3 ^ l.length) (fun k A => ∀ μ2, Off [46] μ μ2 → (∀ v, v < 361 → (μ2 46 v = 0 ↔ hitW l k v = false)) → Ev (A (nI (fb_ct (hitW l k) 361)) (nI k) μ2) (fun r _ => r = nI (fb_ct (hitW l (3 ^ l.length)) 361))) (by omega) ?_ ?_ 0 (Nat.zero_le _)
  · intro A μ2 hO2 hm
    show Ev (Th_balancedNumbers_17b 45 18 A (nI (3 ^ l.length)) _ (nI (3 ^ l.length)) μ2) _
    unfold Th_balancedNumbers_17b
    rw [if_pos (nI_le (Nat.le_refl _) (by omega))]
    exact ev_some rfl
  · intro k A hk ih μ2 hO2 hm
    show Ev (Th_balancedNumbers_17b 45 18 A (nI (3 ^ l.length)) _ (nI k) μ2) _
    unfold Th_balancedNumbers_17b Th_balancedNumbers_63
    simp only [Nat.reduceAdd]
    rw [if_neg (nI_ge hk (by omega)), weighed_c (hr μ2 hO2) (by omega), cl_eq, nI_1]
    have skip : (∀ v, v < 361 → ¬ (0 < v ∧ wsL l k 0 = nI v)) → Ev (A (nI (fb_ct (hitW l k) 361)) (nI (k + 1)) μ2) (fun r _ => r = nI (fb_ct (hitW l (3 ^ l.length)) 361)) := by
      intro hs
      have he : ∀ v, v < 361 → hitW l (k + 1) v = hitW l k v := by
        intro v hv
        exact bool_iff ⟨fun z => ((hitW_s l k v).mp z).resolve_right (hs v hv), fun z => (hitW_s l k v).mpr (Or.inl z)⟩
      have := ih μ2 hO2 (fun v hv => by rw [he v hv]; exact hm v hv)
      rw [fb_ct_cong (fun v hv => he v hv)] at this
      exact this
    by_cases c1 : wsL l k 0 ≤ 0
    · rw [if_pos c1]
      refine skip (fun v hv hh => ?_)
      rw [hh.2] at c1
      exact nI_nle hh.1 (by omega) c1
    rw [if_neg c1]
    by_cases c2 : 361 ≤ wsL l k 0
    · rw [if_pos c2]
      refine skip (fun v hv hh => ?_)
      rw [hh.2] at c2
      exact nI_ge (b := 361) (show v < 361 from hv) (by omega) c2
    rw [if_neg c2]
    obtain ⟨v, v1, v2, hv⟩ : ∃ v, 1 ≤ v ∧ v ≤ 360 ∧ wsL l k 0 = nI v := by
      refine nI_rng (by omega) (by omega) (fun z => c1 ?_) (fun z => c2 ?_)
      · rw [fa_lt, nI_toInt (by omega)] at z
        rw [fa_le, show (0 : Int32).toInt = 0 by decide]; omega
      · rw [fa_lt, nI_toInt (by omega)] at z
        rw [fa_le, show (361 : Int32).toInt = 361 by decide]; omega
    rw [hv, ldA_nI (by omega) (by omega)]
    have hone : ∀ u, u < 361 → u ≠ v → hitW l (k + 1) u = hitW l k u := by
      intro u hu hne
      have hno : ¬ (0 < u ∧ wsL l k 0 = nI u) := fun z => hne (by rw [hv] at z; exact ((nI_eq (by omega) (by omega)).mp z.2).symm)
      exact bool_iff ⟨fun z => ((hitW_s l k u).mp z).resolve_right hno, fun z => (hitW_s l k u).mpr (Or.inl z)⟩
    have hvt : hitW l (k + 1) v = true := (hitW_s l k v).mpr (Or.inr ⟨by omega, hv⟩)
    by_cases c3 : μ2 46 v = 0
    · rw [if_pos c3, stA_nI (by omega) (by omega), nI_1]
      have hf := (hm v (by omega)).mp c3
      have hct : fb_ct (hitW l (k + 1)) 361 = fb_ct (hitW l k) 361 + 1 := by
        have hu := fb_ct_upd (hitW l k) true (i := v) (n := 361) (by omega)
        rw [hf] at hu
        simp only [Bool.false_eq_true, if_false, if_true, Nat.add_zero] at hu
        rw [← hu]
        refine fb_ct_cong (fun u hu => ?_)
        by_cases z : u = v
        · rw [if_pos z, z, hvt]
        · rw [if_neg z, hone u hu z]
      have := ih (up2 μ2 46 v 1) (off_trans hO2 (off_up List.mem_cons_self)) (fun u hu => by
        by_cases z : u = v
        · subst z; rw [up2_same, hvt]; exact ⟨fun q => absurd q (by decide), fun q => by cases q⟩
        · rw [up2_off (Or.inr z), hone u hu z]; exact hm u hu)
      rw [hct] at this
      exact this
    · rw [if_neg c3]
      have hvk : hitW l k v = true := by
        cases h1 : hitW l k v
        · exact absurd ((hm v (by omega)).mpr h1) c3
        · rfl
      have he : ∀ u, u < 361 → hitW l (k + 1) u = hitW l k u := by
        intro u hu
        by_cases z : u = v
        · subst z; rw [hvt, hvk]
        · exact hone u hu z
      have := ih μ2 hO2 (fun u hu => by rw [he u hu]; exact hm u hu)
      rw [fb_ct_cong (fun u hu => he u hu)] at this
      exact this
theorem th_weighs {μ ν : Mu} {l : List Int32} (h : RwC μ 23 6 1 60 l) (hm : RwM ν 59 45 83 6 l) (m : Int32) : Same (Sf_weighs 0 m μ) (Mo_weighs 59 m ν) := by
  have hl : l.length ≤ 6 := h.2.2.2.1
  have hp := pow3 hl
  have hm1 : RwM (up2 ν 59 0 0) 59 45 83 6 l := rwM_congr (up2_off (Or.inr (by omega))) (up2_ne (by omega)) hm
  unfold Sf_weighs Mo_weighs
  rw [pF_eq]
  generalize up2 ν 59 0 0 = ν1 at hm1
  have hc : ∀ o : Option (Int32 × Mu), cl o (fun x2 μ1 => some (x2, μ1)) = o := fun o => by cases o <;> rfl
  by_cases c : m = -1
  · rw [if_pos c, if_pos c, hc]
    refine same_ev (balanced_c h) ?_
    have hit : ∀ v, 0 < v → (hitW l (3 ^ l.length) v = true ↔ ¬ nI (cntW l (nI v) (3 ^ l.length)) ≤ 0) := by
      intro v hv
      have := cntW_le l (nI v) (3 ^ l.length)
      unfold hitW
      rw [decide_eq_true_eq]
      constructor
      · intro z; exact nI_nle z.2 (by omega)
      · intro z
        refine ⟨hv, ?_⟩
        rcases Nat.eq_zero_or_pos (cntW l (nI v) (3 ^ l.length)) with y | y
        · rw [y] at z; exact absurd (show nI 0 ≤ 0 by decide) z
        · exact y
    suffices K : Mo_weighs_36 59 FU (nI (fb_ct (hitW l (3 ^ l.length)) 1)) (nI 1) ν1 = some (nI (fb_ct (hitW l (3 ^ l.length)) 361), ν1) by
      have e0 : fb_ct (hitW l (3 ^ l.length)) 1 = 0 := fb_ct_zero.mpr (fun k hk => by unfold hitW; exact decide_eq_false (fun z => by omega))
      rw [e0] at K
      exact ⟨_, _, K, rfl⟩
    unfold Mo_weighs_36
    refine lp_fu (F := fun kb => Mo_weighs_36b 59 kb) (z := fun _ _ _ => none) 361 (fun k A => 1 ≤ k → A (nI (fb_ct (hitW l (3 ^ l.length)) k)) (nI k) ν1 = some (nI (fb_ct (hitW l (3 ^ l.length)) 361), ν1)) (by omega) ?_ ?_ 1 (by omega) (Nat.le_refl _)
    · intro A _
      show Mo_weighs_36b 59 A _ (nI 361) ν1 = _
      unfold Mo_weighs_36b
      rw [if_pos (by decide)]
    · intro k A hk ih hk1
      show Mo_weighs_36b 59 A _ (nI k) ν1 = _
      unfold Mo_weighs_36b Mo_weighs_55
      rw [if_neg (show ¬ (360 : Int32) < nI k from nI_nlt (a := 360) (by omega) (by omega)), ways_m hm1, cl_eq, nI_1, nI_1]
      have e := fb_ct_succ (hitW l (3 ^ l.length)) k
      have := ih (by omega)
      rw [e] at this
      by_cases z : nI (cntW l (nI k) (3 ^ l.length)) ≤ 0
      · rw [if_pos z]
        rw [if_neg (fun y => (hit k hk1).mp y z), Nat.add_zero] at this
        exact this
      · rw [if_neg z]
        rw [if_pos ((hit k hk1).mpr z)] at this
        exact this
  · rw [if_neg c, if_neg c, within_eq, isIn_eq, cl_eq, cl_eq]
    by_cases c1 : m < 0 ∨ 360 < m
    · rw [if_pos c1, if_pos rfl, if_pos rfl]; exact same_i rfl rfl
    · rw [if_neg c1, if_neg (show ¬ (1 : Int32) = 0 by decide), if_neg (show ¬ (1 : Int32) = 0 by decide), ways_m hm1, cl_eq, hc]
      refine same_i (μ1 := μ) ?_ rfl
      unfold Th_weighings
      rw [laid_c h, cl_eq]
      suffices K : Th_weighings_10 45 18 m (nI (3 ^ l.length)) FU (nI (cntW l m 0)) (nI 0) μ = some (nI (cntW l m (3 ^ l.length)), μ) from K
      unfold Th_weighings_10
      refine lp_fu (F := fun kb => Th_weighings_10b 45 18 kb m (nI (3 ^ l.length))) (z := fun _ _ _ => none) (3 ^ l.length) (fun k A => A (nI (cntW l m k)) (nI k) μ = some (nI (cntW l m (3 ^ l.length)), μ)) (by omega) ?_ ?_ 0 (Nat.zero_le _)
      · intro A
        show Th_weighings_10b 45 18 A m (nI (3 ^ l.length)) _ (nI (3 ^ l.length)) μ = _
        unfold Th_weighings_10b
        rw [if_pos (nI_le (Nat.le_refl _) (by omega))]
      · intro k A hk ih
        show Th_weighings_10b 45 18 A m (nI (3 ^ l.length)) _ (nI k) μ = _
        unfold Th_weighings_10b Th_weighings_29
        rw [if_neg (nI_ge hk (by omega)), weighed_c h (by omega), cl_eq, nI_1, nI_1]
        rw [cntW_s] at ih
        by_cases z : wsL l k 0 = m
        · rw [if_pos z]; rw [if_pos z] at ih; exact ih
        · rw [if_neg z]; rw [if_neg z, Nat.add_zero] at ih; exact ih
