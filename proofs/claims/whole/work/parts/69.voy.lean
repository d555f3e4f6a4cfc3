/-! L3: VOYAGE, SLABS -/
def pM : Nat := 1000000007
theorem bgp : (1000000007 : Int32) = nI pM := rfl
theorem mo_added {a b : Nat} (ha : a < pM) (hb : b < pM) (μ : Mu) : Mo_added 59 (nI a) (nI b) μ = some (nI ((a + b) % pM), μ) := by
  have hp : pM < 2 ^ 30 := by unfold pM; omega
  unfold Mo_added
  rw [bgp, pk_sub (by omega)]
  by_cases c : a < pM - b
  · rw [if_pos (nI_lt c (by omega)), nI_add, Nat.mod_eq_of_lt (by omega)]
  · rw [if_neg (nI_nlt (by omega) (by omega)), pk_sub (by omega), Nat.mod_eq_sub_mod (by omega), Nat.mod_eq_of_lt (by omega)]
    refine congrArg (fun n => some (nI n, μ)) ?_
    omega
/-- the sum over the lengths -/
def inV (T : Nat → Nat) (v : Nat) : List Nat → Nat → Nat
  | [], acc => acc
  | s :: r, acc => inV T v r (if s ≤ v then (acc + T (v - s)) % pM else acc)
def inF (T : Nat → Nat) (v : Nat) : List Nat → Nat → Nat
  | [], acc => acc
  | s :: r, acc => inF T v r (if s ≤ v then min acc (T (v - s) + 1) else acc)
theorem inV_cong {T T' : Nat → Nat} {v : Nat} : ∀ (q : List Nat) (acc : Nat), (∀ s ∈ q, 1 ≤ s) → (∀ j, j < v → T j = T' j) → inV T v q acc = inV T' v q acc := by
  intro q
  induction q with
  | nil => intros; rfl
  | cons s r ih =>
    intro acc h1 h2
    have s1 := h1 s List.mem_cons_self
    show inV T v r (if s ≤ v then (acc + T (v - s)) % pM else acc) = inV T' v r (if s ≤ v then (acc + T' (v - s)) % pM else acc)
    by_cases c : s ≤ v
    · rw [if_pos c, if_pos c, h2 (v - s) (by omega)]; exact ih _ (fun x hx => h1 x (List.mem_cons_of_mem _ hx)) h2
    · rw [if_neg c, if_neg c]; exact ih _ (fun x hx => h1 x (List.mem_cons_of_mem _ hx)) h2
theorem inF_cong {T T' : Nat → Nat} {v : Nat} : ∀ (q : List Nat) (acc : Nat), (∀ s ∈ q, 1 ≤ s) → (∀ j, j < v → T j = T' j) → inF T v q acc = inF T' v q acc := by
  intro q
  induction q with
  | nil => intros; rfl
  | cons s r ih =>
    intro acc h1 h2
    have s1 := h1 s List.mem_cons_self
    show inF T v r (if s ≤ v then min acc (T (v - s) + 1) else acc) = inF T' v r (if s ≤ v then min acc (T' (v - s) + 1) else acc)
    by_cases c : s ≤ v
    · rw [if_pos c, if_pos c, h2 (v - s) (by omega)]; exact ih _ (fun x hx => h1 x (List.mem_cons_of_mem _ hx)) h2
    · rw [if_neg c, if_neg c]; exact ih _ (fun x hx => h1 x (List.mem_cons_of_mem _ hx)) h2
def FAR' : Nat := 100000000
def tabL (q : List Nat) (what : Nat) : Nat → List Nat
  | 0 => [if what = 0 then 1 else 0]
  | n + 1 => tabL q what n ++ [if what = 0 then inV (fun j => (tabL q what n).getD j 0) (n + 1) q 0 else inF (fun j => (tabL q what n).getD j 0) (n + 1) q FAR']
theorem tabL_len (q : List Nat) (what : Nat) : ∀ n, (tabL q what n).length = n + 1 := by
  intro n
  induction n with
  | zero => rfl
  | succ n ih => show (tabL q what n ++ [_]).length = _; rw [List.length_append, ih]; rfl
def tabT (q : List Nat) (what v : Nat) : Nat := (tabL q what v).getD v 0
theorem tabL_at (q : List Nat) (what : Nat) : ∀ n j, j ≤ n → (tabL q what n).getD j 0 = tabT q what j := by
  intro n
  induction n with
  | zero => intro j hj; have : j = 0 := (by omega); subst this; rfl
  | succ n ih =>
    intro j hj
    by_cases c : j = n + 1
    · subst c; rfl
    · show (tabL q what n ++ [_]).getD j 0 = _
      rw [List.getD_eq_getElem?_getD, List.getElem?_append_left (by rw [tabL_len]; omega), ← List.getD_eq_getElem?_getD]
      exact ih j (by omega)
theorem tabT_0 (q : List Nat) (what : Nat) : tabT q what 0 = if what = 0 then 1 else 0 := rfl
theorem tabT_s (q : List Nat) (what n : Nat) (hq : ∀ s ∈ q, 1 ≤ s) : tabT q what (n + 1) = if what = 0 then inV (tabT q what) (n + 1) q 0 else inF (tabT q what) (n + 1) q FAR' := by
  have e : tabT q what (n + 1) = if what = 0 then inV (fun j => (tabL q what n).getD j 0) (n + 1) q 0 else inF (fun j => (tabL q what n).getD j 0) (n + 1) q FAR' := by
    show (tabL q what n ++ [_]).getD (n + 1) 0 = _
    rw [List.getD_eq_getElem?_getD, List.getElem?_append_right (by rw [tabL_len]; omega), tabL_len, Nat.sub_self]; rfl
  rw [e]
  by_cases c : what = 0
  · rw [if_pos c, if_pos c]; exact inV_cong q 0 hq (fun j hj => tabL_at q what n j (by omega))
  · rw [if_neg c, if_neg c]; exact inF_cong q FAR' hq (fun j hj => tabL_at q what n j (by omega))
theorem inV_lt {T : Nat → Nat} {v : Nat} : ∀ (q : List Nat) (acc : Nat), acc < pM → inV T v q acc < pM := by
  intro q
  induction q with
  | nil => exact fun _ h => h
  | cons s r ih =>
    intro acc h
    refine ih _ ?_
    split
    · exact Nat.mod_lt _ (by unfold pM; omega)
    · exact h
theorem tabV_lt (q : List Nat) (hq : ∀ s ∈ q, 1 ≤ s) (v : Nat) : tabT q 0 v < pM := by
  match v with
  | 0 => rw [tabT_0, if_pos rfl]; unfold pM; omega
  | v + 1 => rw [tabT_s q 0 v hq, if_pos rfl]; exact inV_lt q 0 (by unfold pM; omega)
theorem inF_rng {T : Nat → Nat} {v : Nat} : ∀ (q : List Nat) (acc : Nat), (∀ s ∈ q, 1 ≤ s) → (∀ j, j < v → T j = FAR' ∨ T j ≤ j) → (acc = FAR' ∨ acc ≤ v) → v ≤ 200 → (inF T v q acc = FAR' ∨ inF T v q acc ≤ v) := by
  intro q
  induction q with
  | nil => exact fun _ _ _ h _ => h
  | cons s r ih =>
    intro acc h1 h2 h3 h4
    have s1 := h1 s List.mem_cons_self
    refine ih _ (fun x hx => h1 x (List.mem_cons_of_mem _ hx)) h2 ?_ h4
    have hF : FAR' = 100000000 := rfl
    by_cases c : s ≤ v
    · rw [if_pos c]
      have := h2 (v - s) (by omega)
      omega
    · rw [if_neg c]; exact h3
theorem tabF_rng (q : List Nat) (hq : ∀ s ∈ q, 1 ≤ s) : ∀ v, v ≤ 200 → tabT q 1 v = FAR' ∨ tabT q 1 v ≤ v := by
  intro v
  induction v using Nat.strongRecOn with
  | _ v ih =>
    intro hv
    match v, ih, hv with
    | 0, _, _ => exact Or.inr (by rw [tabT_0, if_neg (by omega)]; omega)
    | v + 1, ih, hv =>
      rw [tabT_s q 1 v hq, if_neg (by omega)]
      exact inF_rng q FAR' hq (fun j hj => ih j hj (by omega)) (Or.inl rfl) hv
/-- the class's mark for none -/
def encF (n : Nat) : Int32 := if n = FAR' then -1 else nI n
theorem voyV_c {μ : Mu} {l : List Int32} {q : List Nat} (h : RwC μ 31 6 1 20 l) (hq : l = q.map nI) (hp : ∀ p ∈ q, 1 ≤ p ∧ p ≤ 20) {n : Nat} (hn : n ≤ 200) : Ev (Th_voyageRows 45 18 (nI n) μ) (fun r _ => r = nI (tabT q 0 n)) := by
  have hpl : pM < 2 ^ 30 := by unfold pM; omega
  have hlen : q.length = l.length := by rw [hq]; simp
  have hl6 : l.length ≤ 6 := h.2.2.2.1
  have hgd : ∀ k, l.getD k 0 = nI (q.getD k 0) := fun k => by rw [hq]; exact map_getD q k
  have hq1 : ∀ s ∈ q, 1 ≤ s := fun s hs => (hp s hs).1
  have hc : ∀ μ2, Off [46] μ μ2 → RwC μ2 31 6 1 20 l := fun μ2 hO => rwC_congr (hO 31 (by simp)) (hO 32 (by simp)) h
  unfold Th_voyageRows
  simp only [Nat.reduceAdd]
  rw [stA_li (by omega) (by omega)]
  suffices K : ∀ μ1, Off [46] μ μ1 → (∀ j, j < 1 → μ1 46 j = nI (tabT q 0 j)) → 1 ≤ 1 → Ev (Th_voyageRows_9 45 18 (nI n) FU (nI 1) μ1) (fun r _ => r = nI (tabT q 0 n)) by
    refine K _ (off_up List.mem_cons_self) (fun j hj => ?_) (Nat.le_refl _)
    have : j = 0 := by omega
    subst this
    rw [up2_same, tabT_0, if_pos rfl]; rfl
  unfold Th_voyageRows_9
  refine lp_fu (F := fun kb => Th_voyageRows_9b 45 18 kb (nI n)) (z := fun _ _ => none) (n + 1) (fun k A => ∀ μ1, Off [46] μ μ1 → (∀ j, j < k → μ1 46 j = nI (tabT q 0 j)) → 1 ≤ k → Ev (A (nI k) μ1) (fun r _ => r = nI (tabT q 0 n))) (by omega) ?_ ?_ 1 (by omega)
  · intro A μ1 hO hj _
    show Ev (Th_voyageRows_9b 45 18 A (nI n) (nI (n + 1)) μ1) _
    unfold Th_voyageRows_9b Th_voyageRows_100
    simp only [Nat.reduceAdd]
    rw [if_pos (nI_lt (by omega) (by omega)), if_neg (nI_pos (by omega)), if_neg (show ¬ (361 : Int32) ≤ nI n from nI_ge (b := 361) (by omega) (by omega)), ldA_nI (by omega) (by omega)]
    exact ev_some (hj n (by omega))
  · intro k A hk ih μ1 hO hj hk1
    show Ev (Th_voyageRows_9b 45 18 A (nI n) (nI k) μ1) _
    unfold Th_voyageRows_9b
    rw [if_neg (nI_nlt (by omega) (by omega)), if_neg (show ¬ (361 : Int32) ≤ nI k from nI_ge (b := 361) (by omega) (by omega))]
    have hfin : inV (tabT q 0) k q 0 = tabT q 0 k := by
      obtain ⟨m, rfl⟩ : ∃ m, k = m + 1 := ⟨k - 1, by omega⟩
      rw [tabT_s q 0 m hq1, if_pos rfl]
    suffices K : ∀ d i acc fu, i + d = l.length → acc < pM → inV (tabT q 0) k (q.drop i) acc = tabT q 0 k → d < fu → Ev (Th_voyageRows_26 45 18 A (nI n) (nI k) fu (nI acc) (nI i) μ1) (fun r _ => r = nI (tabT q 0 n)) from K l.length 0 0 FU (by omega) (by unfold pM; omega) hfin (by have := FU_big; omega)
    intro d
    induction d with
    | zero =>
      intro i acc fu hi ha he hf
      obtain ⟨f, rfl⟩ : ∃ f, fu = f + 1 := ⟨fu - 1, by omega⟩
      show Ev (Th_voyageRows_26b 45 18 A (Th_voyageRows_26 45 18 A (nI n) (nI k) f) (nI n) (nI k) (nI acc) (nI i) μ1) _
      unfold Th_voyageRows_26b
      simp only [Nat.reduceAdd]
      rw [gF_eq, (hc μ1 hO).2.2.1, if_pos (nI_le (by omega) (by omega)), stA_nI (by omega) (by omega), nI_1]
      rw [List.drop_eq_nil_of_le (by omega)] at he
      refine ih _ (off_trans hO (off_up List.mem_cons_self)) (fun j h1 => ?_) (by omega)
      by_cases z : j = k
      · subst z; rw [up2_same, ← he]; rfl
      · rw [up2_off (Or.inr z)]; exact hj j (by omega)
    | succ d ihd =>
      intro i acc fu hi ha he hf
      obtain ⟨f, rfl⟩ : ∃ f, fu = f + 1 := ⟨fu - 1, by omega⟩
      have hiq : i < q.length := by omega
      have hmem : q.getD i 0 ∈ q := by
        rw [List.getD_eq_getElem?_getD, List.getElem?_eq_getElem hiq]; exact List.getElem_mem hiq
      obtain ⟨p1, p2⟩ := hp _ hmem
      rw [drop_at 0 hiq] at he
      have he' : inV (tabT q 0) k (q.drop (i + 1)) (if q.getD i 0 ≤ k then (acc + tabT q 0 (k - q.getD i 0)) % pM else acc) = tabT q 0 k := he
      show Ev (Th_voyageRows_26b 45 18 A (Th_voyageRows_26 45 18 A (nI n) (nI k) f) (nI n) (nI k) (nI acc) (nI i) μ1) _
      unfold Th_voyageRows_26b Th_voyageRows_81
      simp only [Nat.reduceAdd]
      rw [gF_eq, (hc μ1 hO).2.2.1, if_neg (nI_ge (by omega) (by omega)), rw_at (hc μ1 hO) i (by omega), cl_eq, hgd, nI_1]
      by_cases c : q.getD i 0 ≤ k
      · rw [if_pos c] at he'
        have hT := tabV_lt q hq1 (k - q.getD i 0)
        rw [pk_sub c, if_neg (nI_pos (by omega)), if_neg (nI_ge (by omega) (by omega)), ldA_nI (by omega) (by omega), hj _ (by omega), nI_add, bgp, jrem_nI (by omega) (by omega) (by omega)]
        exact ihd (i + 1) _ f (by omega) (Nat.mod_lt _ (by unfold pM; omega)) he' (by omega)
      · rw [if_neg c] at he'
        rw [if_pos (pk_sneg (by omega) (by omega))]
        exact ihd (i + 1) _ f (by omega) ha he' (by omega)
theorem voyF_c {μ : Mu} {l : List Int32} {q : List Nat} (h : RwC μ 31 6 1 20 l) (hq : l = q.map nI) (hp : ∀ p ∈ q, 1 ≤ p ∧ p ≤ 20) {n : Nat} (hn : n ≤ 200) : Ev (Th_fewestStages 45 18 (nI n) μ) (fun r _ => r = encF (tabT q 1 n)) := by
  have hF : FAR' = 100000000 := rfl
  have hlen : q.length = l.length := by rw [hq]; simp
  have hl6 : l.length ≤ 6 := h.2.2.2.1
  have hgd : ∀ k, l.getD k 0 = nI (q.getD k 0) := fun k => by rw [hq]; exact map_getD q k
  have hq1 : ∀ s ∈ q, 1 ≤ s := fun s hs => (hp s hs).1
  have hrng := tabF_rng q hq1
  have hc : ∀ μ2, Off [46] μ μ2 → RwC μ2 31 6 1 20 l := fun μ2 hO => rwC_congr (hO 31 (by simp)) (hO 32 (by simp)) h
  unfold Th_fewestStages
  simp only [Nat.reduceAdd]
  rw [stA_li (by omega) (by omega)]
  suffices K : ∀ μ1, Off [46] μ μ1 → (∀ j, j < 1 → μ1 46 j = encF (tabT q 1 j)) → 1 ≤ 1 → Ev (Th_fewestStages_9 45 18 (nI n) FU (nI 1) μ1) (fun r _ => r = encF (tabT q 1 n)) by
    refine K _ (off_up List.mem_cons_self) (fun j hj => ?_) (Nat.le_refl _)
    have : j = 0 := by omega
    subst this
    rw [up2_same, tabT_0, if_neg (by omega)]
    unfold encF; rw [if_neg (by omega)]; rfl
  unfold Th_fewestStages_9
  refine lp_fu (F := fun kb => Th_fewestStages_9b 45 18 kb (nI n)) (z := fun _ _ => none) (n + 1) (fun k A => ∀ μ1, Off [46] μ μ1 → (∀ j, j < k → μ1 46 j = encF (tabT q 1 j)) → 1 ≤ k → Ev (A (nI k) μ1) (fun r _ => r = encF (tabT q 1 n))) (by omega) ?_ ?_ 1 (by omega)
  · intro A μ1 hO hj _
    show Ev (Th_fewestStages_9b 45 18 A (nI n) (nI (n + 1)) μ1) _
    unfold Th_fewestStages_9b Th_fewestStages_138
    simp only [Nat.reduceAdd]
    rw [if_pos (nI_lt (by omega) (by omega)), if_neg (nI_pos (by omega)), if_neg (show ¬ (361 : Int32) ≤ nI n from nI_ge (b := 361) (by omega) (by omega)), ldA_nI (by omega) (by omega)]
    exact ev_some (hj n (by omega))
  · intro k A hk ih μ1 hO hj hk1
    show Ev (Th_fewestStages_9b 45 18 A (nI n) (nI k) μ1) _
    unfold Th_fewestStages_9b
    rw [if_neg (nI_nlt (by omega) (by omega)), if_neg (show ¬ (361 : Int32) ≤ nI k from nI_ge (b := 361) (by omega) (by omega))]
    have hfin : inF (tabT q 1) k q FAR' = tabT q 1 k := by
      obtain ⟨m, rfl⟩ : ∃ m, k = m + 1 := ⟨k - 1, by omega⟩
      rw [tabT_s q 1 m hq1, if_neg (by omega)]
    suffices K : ∀ d i acc fu, i + d = l.length → (acc = FAR' ∨ acc ≤ k) → inF (tabT q 1) k (q.drop i) acc = tabT q 1 k → d < fu → Ev (Th_fewestStages_26 45 18 A (nI n) (nI k) fu (encF acc) (nI i) μ1) (fun r _ => r = encF (tabT q 1 n)) by
      have := K l.length 0 FAR' FU (by omega) (Or.inl rfl) hfin (by have := FU_big; omega)
      have e1 : encF FAR' = -1 := by unfold encF; rw [if_pos rfl]
      rw [e1] at this
      exact this
    intro d
    induction d with
    | zero =>
      intro i acc fu hi ha he hf
      obtain ⟨f, rfl⟩ : ∃ f, fu = f + 1 := ⟨fu - 1, by omega⟩
      show Ev (Th_fewestStages_26b 45 18 A (Th_fewestStages_26 45 18 A (nI n) (nI k) f) (nI n) (nI k) (encF acc) (nI i) μ1) _
      unfold Th_fewestStages_26b
      simp only [Nat.reduceAdd]
      rw [gF_eq, (hc μ1 hO).2.2.1, if_pos (nI_le (by omega) (by omega)), stA_nI (by omega) (by omega), nI_1]
      rw [List.drop_eq_nil_of_le (by omega)] at he
      refine ih _ (off_trans hO (off_up List.mem_cons_self)) (fun j h1 => ?_) (by omega)
      by_cases z : j = k
      · subst z; rw [up2_same, ← he]; rfl
      · rw [up2_off (Or.inr z)]; exact hj j (by omega)
    | succ d ihd =>
      intro i acc fu hi ha he hf
      obtain ⟨f, rfl⟩ : ∃ f, fu = f + 1 := ⟨fu - 1, by omega⟩
      have hiq : i < q.length := by omega
      have hmem : q.getD i 0 ∈ q := by
        rw [List.getD_eq_getElem?_getD, List.getElem?_eq_getElem hiq]; exact List.getElem_mem hiq
      obtain ⟨p1, p2⟩ := hp _ hmem
      rw [drop_at 0 hiq] at he
      have he' : inF (tabT q 1) k (q.drop (i + 1)) (if q.getD i 0 ≤ k then min acc (tabT q 1 (k - q.getD i 0) + 1) else acc) = tabT q 1 k := he
      show Ev (Th_fewestStages_26b 45 18 A (Th_fewestStages_26 45 18 A (nI n) (nI k) f) (nI n) (nI k) (encF acc) (nI i) μ1) _
      unfold Th_fewestStages_26b Th_fewestStages_83 Th_fewestStages_84 Th_fewestStages_109 Th_fewestStages_119
      simp only [Nat.reduceAdd]
      rw [gF_eq, (hc μ1 hO).2.2.1, if_neg (nI_ge (by omega) (by omega)), rw_at (hc μ1 hO) i (by omega), cl_eq, hgd, nI_1]
      by_cases c : q.getD i 0 ≤ k
      · rw [if_pos c] at he'
        have hT := hrng (k - q.getD i 0) (by omega)
        rw [pk_sub c, if_neg (nI_pos (by omega)), if_neg (nI_ge (by omega) (by omega)), ldA_nI (by omega) (by omega)]
        have hj2 := hj (k - q.getD i 0) (by omega)
        generalize tabT q 1 (k - q.getD i 0) = t at he' hT hj2
        by_cases z : t = FAR'
        · have e1 : encF t = -1 := by unfold encF; rw [if_pos z]
          rw [hj2, if_pos e1, if_pos trivial]
          rw [show min acc (t + 1) = acc by omega] at he'
          exact ihd (i + 1) _ f (by omega) ha he' (by omega)
        · have e1 : encF t = nI t := by unfold encF; rw [if_neg z]
          rw [hj2, e1, if_neg (by rw [n1_ne (by omega)]; exact id), if_neg (show ¬ (1 : Int32) = 0 by decide)]
          by_cases y : acc = FAR'
          · have e2 : encF acc = -1 := by unfold encF; rw [if_pos y]
            rw [if_pos e2, ldA_nI (by omega) (by omega), hj2, e1, nI_1]
            have e3 : encF (t + 1) = nI (t + 1) := by unfold encF; rw [if_neg (by omega)]
            rw [← e3]
            rw [show min acc (t + 1) = t + 1 by omega] at he'
            exact ihd (i + 1) _ f (by omega) (by omega) he' (by omega)
          · have e2 : encF acc = nI acc := by unfold encF; rw [if_neg y]
            have e3 : encF (t + 1) = nI (t + 1) := by unfold encF; rw [if_neg (by omega)]
            rw [e2, if_neg (by rw [n1_ne (by omega)]; exact id), ldA_nI (by omega) (by omega), hj2, e1, nI_1]
            by_cases x : acc ≤ t + 1
            · rw [if_pos (nI_le x (by omega)), ← e2]
              rw [show min acc (t + 1) = acc by omega] at he'
              exact ihd (i + 1) _ f (by omega) ha he' (by omega)
            · rw [if_neg (nI_ge (by omega) (by omega)), ldA_nI (by omega) (by omega), hj2, e1, nI_1, ← e3]
              rw [show min acc (t + 1) = t + 1 by omega] at he'
              exact ihd (i + 1) _ f (by omega) (by omega) he' (by omega)
      · rw [if_neg c] at he'
        rw [if_pos (pk_sneg (by omega) (by omega)), if_pos trivial]
        exact ihd (i + 1) _ f (by omega) ha he' (by omega)
theorem th_voyage {μ ν : Mu} {l : List Int32} (h : RwC μ 31 6 1 20 l) (hm : RwM ν 59 55 91 6 l) (hok : RwOk 1 20 l) (n w : Int32) : Same (Sf_voyage 0 n w μ) (Mo_voyage 59 n w ν) := by
  have hF : FAR' = 100000000 := rfl
  have hpl : pM < 2 ^ 30 := by unfold pM; omega
  obtain ⟨q, hq, hlen, hp⟩ := rw_nat (lo := 1) (hi := 20) (by omega) (by omega) hok
  have hl6 : l.length ≤ 6 := h.2.2.2.1
  have hgd : ∀ k, l.getD k 0 = nI (q.getD k 0) := fun k => by rw [hq]; exact map_getD q k
  have hq1 : ∀ s ∈ q, 1 ≤ s := fun s hs => (hp s hs).1
  unfold Sf_voyage Mo_voyage
  rw [within_eq, pF_eq, isIn_eq, cl_eq, cl_eq]
  have hm1 : RwM (up2 ν 59 0 0) 59 55 91 6 l := rwM_congr (up2_off (Or.inr (by omega))) (up2_ne (by omega)) hm
  generalize up2 ν 59 0 0 = ν1 at hm1
  obtain ⟨m1, m2, m3, m4⟩ := hm1
  by_cases c1 : n < 1 ∨ 200 < n
  · rw [if_pos c1, if_pos rfl, if_pos rfl]; exact same_i rfl rfl
  rw [if_neg c1, if_neg (show ¬ (1 : Int32) = 0 by decide), if_neg (show ¬ (1 : Int32) = 0 by decide), within_eq, isIn_eq, cl_eq, cl_eq]
  by_cases c2 : w < 0 ∨ 1 < w
  · rw [if_pos c2, if_pos rfl, if_pos rfl]; exact same_i rfl rfl
  rw [if_neg c2, if_neg (show ¬ (1 : Int32) = 0 by decide), if_neg (show ¬ (1 : Int32) = 0 by decide)]
  obtain ⟨a, a1, a2, rfl⟩ := nI_rng (lo := 1) (n := 200) (by omega) (by omega) (fun z => c1 (Or.inl z)) (fun z => c1 (Or.inr z))
  obtain ⟨b, b1, b2, rfl⟩ := nI_rng (lo := 0) (n := 1) (by omega) (by omega) (fun z => c2 (Or.inl z)) (fun z => c2 (Or.inr z))
  have hc' : ∀ o : Option (Int32 × Mu), cl o (fun x2 μ1 => some (x2, μ1)) = o := fun o => by cases o <;> rfl
  have hT31 : ∀ v, v ≤ 200 → tabT q b v < 2 ^ 30 := by
    intro v hv
    rcases (show b = 0 ∨ b = 1 by omega) with rfl | rfl
    · have := tabV_lt q hq1 v; omega
    · have := tabF_rng q hq1 v hv; omega
  have hM : Ev (Mo_voyage_31 59 (nI a) (nI b) FU 0 ν1) (fun r _ => r = if b = 0 then nI (tabT q 0 a) else encF (tabT q 1 a)) := by
    suffices K : ∀ ν2, Off [92] ν1 ν2 → (∀ j, j < 0 → ν2 92 j = nI (tabT q b j)) → Ev (Mo_voyage_31 59 (nI a) (nI b) FU (nI 0) ν2) (fun r _ => r = if b = 0 then nI (tabT q 0 a) else encF (tabT q 1 a)) from K ν1 (off_refl _ _) (fun j h => absurd h (by omega))
    unfold Mo_voyage_31
    refine lp_fu (F := fun kb => Mo_voyage_31b 59 kb (nI a) (nI b)) (z := fun _ _ => none) (a + 1) (fun k A => ∀ ν2, Off [92] ν1 ν2 → (∀ j, j < k → ν2 92 j = nI (tabT q b j)) → Ev (A (nI k) ν2) (fun r _ => r = if b = 0 then nI (tabT q 0 a) else encF (tabT q 1 a))) (by omega) ?_ ?_ 0 (Nat.zero_le _)
    · intro A ν2 hO hj
      show Ev (Mo_voyage_31b 59 A (nI a) (nI b) (nI (a + 1)) ν2) _
      unfold Mo_voyage_31b Mo_voyage_177
      simp only [Nat.reduceAdd]
      have hja := hj a (by omega)
      have hTa := hT31 a a2
      rw [if_pos (nI_lt (by omega) (by omega))]
      rcases (show b = 0 ∨ b = 1 by omega) with rfl | rfl
      · rw [if_neg (show ¬ nI 0 = 1 by decide), ldA_nI (by omega) (by omega), if_pos rfl]
        exact ev_some hja
      · rw [if_pos (show nI 1 = 1 by decide), ldA_nI (by omega) (by omega), hja, if_neg (show ¬ (1 : Nat) = 0 by omega)]
        have hr := tabF_rng q hq1 a a2
        unfold encF
        by_cases z : tabT q 1 a = FAR'
        · rw [if_neg (show ¬ nI (tabT q 1 a) < 100000000 from nI_nlt (b := 100000000) (by omega) (by omega)), if_pos z]; exact ev_some rfl
        · rw [if_pos (show nI (tabT q 1 a) < 100000000 from nI_lt (b := 100000000) (by omega) (by omega)), if_neg z, ldA_nI (by omega) (by omega)]
          exact ev_some hja
    · intro k A hk ih ν2 hO hj
      show Ev (Mo_voyage_31b 59 A (nI a) (nI b) (nI k) ν2) _
      unfold Mo_voyage_31b Mo_voyage_62
      simp only [Nat.reduceAdd]
      rw [if_neg (nI_nlt (by omega) (by omega))]
      have start : ∀ x : Nat, x < 2 ^ 30 → (b = 0 → x < pM) → (b = 1 → x = FAR' ∨ x ≤ k) → (if b = 0 then inV (tabT q 0) k q x else inF (tabT q 1) k q x) = tabT q b k → ∀ xv : Int32, xv = nI x → Ev (stA ν2 92 201 (nI k) xv (fun μ1 => Mo_voyage_66 59 A (nI a) (nI b) (nI k) FU 0 μ1)) (fun r _ => r = if b = 0 then nI (tabT q 0 a) else encF (tabT q 1 a)) := by
        rintro x hx hx0 hx1 he xv rfl
        rw [stA_nI (by omega) (by omega)]
        suffices K : ∀ d i acc fu ν3, i + d = l.length → Off [92] ν1 ν3 → (∀ j, j < k → ν3 92 j = nI (tabT q b j)) → ν3 92 k = nI acc → (b = 0 → acc < pM) → (b = 1 → acc = FAR' ∨ acc ≤ k) → (if b = 0 then inV (tabT q 0) k (q.drop i) acc else inF (tabT q 1) k (q.drop i) acc) = tabT q b k → d < fu → Ev (Mo_voyage_66 59 A (nI a) (nI b) (nI k) fu (nI i) ν3) (fun r _ => r = if b = 0 then nI (tabT q 0 a) else encF (tabT q 1 a)) from K l.length 0 x FU (up2 ν2 92 k (nI x)) (by omega) (off_trans hO (off_up List.mem_cons_self)) (fun j h1 => by rw [up2_off (Or.inr (by omega))]; exact hj j h1) (up2_same _ _ _ _) hx0 hx1 he (by have := FU_big; omega)
        intro d
        induction d with
        | zero =>
          intro i acc fu ν3 hi hO3 hj3 hk3 ha0 ha1 he3 hf
          obtain ⟨f, rfl⟩ : ∃ f, fu = f + 1 := ⟨fu - 1, by omega⟩
          show Ev (Mo_voyage_66b 59 A (Mo_voyage_66 59 A (nI a) (nI b) (nI k) f) (nI a) (nI b) (nI k) (nI i) ν3) _
          unfold Mo_voyage_66b
          rw [gF_eq, hO3 59 (by simp), m1, if_pos (nI_le (by omega) (by omega)), nI_1]
          rw [List.drop_eq_nil_of_le (by omega)] at he3
          have he4 : acc = tabT q b k := by rw [← he3]; by_cases z : b = 0 <;> simp [z, inV, inF]
          refine ih ν3 hO3 (fun j h1 => ?_)
          by_cases z : j = k
          · subst z; rw [hk3, he4]
          · exact hj3 j (by omega)
        | succ d ihd =>
          intro i acc fu ν3 hi hO3 hj3 hk3 ha0 ha1 he3 hf
          obtain ⟨f, rfl⟩ : ∃ f, fu = f + 1 := ⟨fu - 1, by omega⟩
          have hiq : i < q.length := by omega
          have hmem : q.getD i 0 ∈ q := by
            rw [List.getD_eq_getElem?_getD, List.getElem?_eq_getElem hiq]; exact List.getElem_mem hiq
          obtain ⟨p1, p2⟩ := hp _ hmem
          rw [drop_at 0 hiq] at he3
          show Ev (Mo_voyage_66b 59 A (Mo_voyage_66 59 A (nI a) (nI b) (nI k) f) (nI a) (nI b) (nI k) (nI i) ν3) _
          unfold Mo_voyage_66b Mo_voyage_143 Mo_voyage_144
          simp only [Nat.reduceAdd]
          rw [gF_eq, hO3 59 (by simp), m1, if_neg (nI_ge (by omega) (by omega)), ldA_nI (by omega) (by omega), hO3 91 (by simp), m4 i (by omega), hgd, nI_1]
          by_cases c : q.getD i 0 ≤ k
          · rw [if_pos (nI_le c (by omega)), ldA_nI (by omega) (by omega), hO3 91 (by simp), m4 i (by omega), hgd, pk_sub c, ldA_nI (by omega) (by omega), hj3 _ (by omega)]
            rcases (show b = 0 ∨ b = 1 by omega) with rfl | rfl
            · have hT := tabV_lt q hq1 (k - q.getD i 0)
              have ha := ha0 rfl
              rw [if_pos (show nI 0 = 0 by decide), ldA_nI (by omega) (by omega), hk3, mo_added ha hT, cl_eq, stA_nI (by omega) (by omega)]
              rw [if_pos rfl] at he3
              have he5 : inV (tabT q 0) k (q.drop (i + 1)) (if q.getD i 0 ≤ k then (acc + tabT q 0 (k - q.getD i 0)) % pM else acc) = tabT q 0 k := he3
              rw [if_pos c] at he5
              exact ihd (i + 1) _ f _ (by omega) (off_trans hO3 (off_up List.mem_cons_self)) (fun j h1 => by rw [up2_off (Or.inr (by omega))]; exact hj3 j h1) (up2_same _ _ _ _) (fun _ => Nat.mod_lt _ (by unfold pM; omega)) (fun z => absurd z (by omega)) (by rw [if_pos rfl]; exact he5) (by omega)
            · have hT := tabF_rng q hq1 (k - q.getD i 0) (by omega)
              have ha := ha1 rfl
              rw [if_neg (show ¬ nI 1 = 0 by decide), ldA_nI (by omega) (by omega), hk3, mo_lesser, nI_1, jmin_nI (by omega) (by omega), cl_eq, stA_nI (by omega) (by omega)]
              rw [if_neg (show ¬ (1 : Nat) = 0 by omega)] at he3
              have he5 : inF (tabT q 1) k (q.drop (i + 1)) (if q.getD i 0 ≤ k then min acc (tabT q 1 (k - q.getD i 0) + 1) else acc) = tabT q 1 k := he3
              rw [if_pos c] at he5
              exact ihd (i + 1) _ f _ (by omega) (off_trans hO3 (off_up List.mem_cons_self)) (fun j h1 => by rw [up2_off (Or.inr (by omega))]; exact hj3 j h1) (up2_same _ _ _ _) (fun z => absurd z (by omega)) (fun _ => by omega) (by rw [if_neg (show ¬ (1 : Nat) = 0 by omega)]; exact he5) (by omega)
          · rw [if_neg (nI_ge (by omega) (by omega))]
            refine ihd (i + 1) acc f ν3 (by omega) hO3 hj3 hk3 ha0 ha1 ?_ (by omega)
            rcases (show b = 0 ∨ b = 1 by omega) with rfl | rfl
            · rw [if_pos rfl] at he3 ⊢
              have he5 : inV (tabT q 0) k (q.drop (i + 1)) (if q.getD i 0 ≤ k then (acc + tabT q 0 (k - q.getD i 0)) % pM else acc) = tabT q 0 k := he3
              rw [if_neg c] at he5
              exact he5
            · rw [if_neg (show ¬ (1 : Nat) = 0 by omega)] at he3 ⊢
              have he5 : inF (tabT q 1) k (q.drop (i + 1)) (if q.getD i 0 ≤ k then min acc (tabT q 1 (k - q.getD i 0) + 1) else acc) = tabT q 1 k := he3
              rw [if_neg c] at he5
              exact he5
      have stays : ∀ (r : List Nat) (x : Nat), (∀ s ∈ r, 1 ≤ s) → inV (tabT q 0) 0 r x = x ∧ inF (tabT q 1) 0 r x = x := by
        intro r
        induction r with
        | nil => exact fun x _ => ⟨rfl, rfl⟩
        | cons s r ihr =>
          intro x h1
          have s1 := h1 s List.mem_cons_self
          have := ihr x (fun y hy => h1 y (List.mem_cons_of_mem _ hy))
          constructor
          · show inV (tabT q 0) 0 r (if s ≤ 0 then _ else x) = x
            rw [if_neg (by omega)]; exact this.1
          · show inF (tabT q 1) 0 r (if s ≤ 0 then _ else x) = x
            rw [if_neg (by omega)]; exact this.2
      by_cases z : k = 0
      · subst z
        rw [if_pos (show nI 0 = 0 by decide)]
        refine start (1 - b) (by omega) (fun _ => by unfold pM; omega) (fun y => Or.inr (by omega)) ?_ _ ?_
        · rcases (show b = 0 ∨ b = 1 by omega) with rfl | rfl
          · rw [if_pos rfl, (stays q _ hq1).1, tabT_0, if_pos rfl]
          · rw [if_neg (show ¬ (1 : Nat) = 0 by omega), (stays q _ hq1).2, tabT_0, if_neg (by omega)]
        · exact pk_sub (a := 1) b2
      · rw [if_neg (nI_ne0 (by omega) (by omega))]
        obtain ⟨k', rfl⟩ : ∃ k', k = k' + 1 := ⟨k - 1, by omega⟩
        rcases (show b = 0 ∨ b = 1 by omega) with rfl | rfl
        · rw [if_pos (show nI 0 = 0 by decide)]
          exact start 0 (by omega) (fun _ => by unfold pM; omega) (fun y => absurd y (by omega)) (by rw [if_pos rfl, tabT_s q 0 k' hq1, if_pos rfl]) 0 rfl
        · rw [if_neg (show ¬ nI 1 = 0 by decide)]
          exact start FAR' (by omega) (fun y => absurd y (by omega)) (fun _ => Or.inl rfl) (by rw [if_neg (show ¬ (1 : Nat) = 0 by omega), tabT_s q 1 k' hq1, if_neg (by omega)]) 100000000 rfl
  refine same_ev ?_ hM
  rcases (show b = 0 ∨ b = 1 by omega) with rfl | rfl
  · rw [if_pos (show nI 0 = 0 by decide), hc', if_pos rfl]; exact voyV_c h hq hp a2
  · rw [if_neg (show ¬ nI 1 = 0 by decide), hc', if_neg (show ¬ (1 : Nat) = 0 by omega)]; exact voyF_c h hq hp a2
