/-! L3: THE REFERENCE READS A TOKEN -/
def WB : List Nat := 32 :: flatW KWr
theorem WB_len : WB.length = 132 := by decide +kernel
theorem kwr_no32 : ∀ w, w ∈ KWr → ∀ c, c ∈ w → c ≠ 32 ∧ c < 128 := by decide +kernel
def MoI (T : Nat → Nat) (n : Nat) (ν : Mu) : Prop := n ≤ 400 ∧ (∀ i, i < n → T i < 256) ∧ ν 59 9 = nI n ∧ (∀ i, i < n → ν 64 i = nI (T i)) ∧ ∀ i, i < 132 → ν 65 i = nI (WB.getD i 0)
def FrM (μ μ' : Mu) : Prop := (∀ k, k ≠ 59 → μ' k = μ k) ∧ ∀ j, j ∉ [10, 11, 12, 13] → μ' 59 j = μ 59 j
theorem frM_refl (μ : Mu) : FrM μ μ := ⟨fun _ _ => rfl, fun _ _ => rfl⟩
theorem frM_trans {a b c : Mu} (h1 : FrM a b) (h2 : FrM b c) : FrM a c := ⟨fun k h => (h2.1 k h).trans (h1.1 k h), fun j h => (h2.2 j h).trans (h1.2 j h)⟩
theorem frM_up {a b : Mu} {j : Nat} {v : Int32} (h1 : FrM a b) (h : j ∈ [10, 11, 12, 13]) : FrM a (up2 b 59 j v) := ⟨fun k hk => (up2_ne hk).trans (h1.1 k hk), fun i hi => (up2_off (Or.inr (fun z => hi (by rw [z]; exact h)))).trans (h1.2 i hi)⟩
theorem moI_fr {T : Nat → Nat} {n : Nat} {μ μ' : Mu} (h : FrM μ μ') (hI : MoI T n μ) : MoI T n μ' := ⟨hI.1, hI.2.1, (h.2 9 (by decide)).trans hI.2.2.1, fun i hi => by rw [h.1 64 (by decide)]; exact hI.2.2.2.1 i hi, fun i hi => by rw [h.1 65 (by decide)]; exact hI.2.2.2.2 i hi⟩
def tkM (k : Nat) : Nat := if k = 0 then 0 else if k = 31 then 1 else if k ≤ 24 then 2 else if k = 30 then 3 else 4
def TokM (T : Nat → Nat) (n p : Nat) (ν : Mu) : Prop := ν 59 12 = nI (tkM (tk T n p).1) ∧ (tkM (tk T n p).1 = 2 → ν 59 13 = nI (rwn (tk T n p).1)) ∧ (tkM (tk T n p).1 = 3 → ν 59 13 = nI (tk T n p).2.1) ∧ (tkM (tk T n p).1 = 4 → ν 59 13 = nI (tk T n p).1) ∧ ν 59 11 = nI (tk T n p).2.2.1 ∧ ν 59 10 = nI (tk T n p).2.2.2
theorem mo_raw_in {T : Nat → Nat} {n k : Nat} {ν : Mu} (hI : MoI T n ν) (hk : k < n) : Mo_raw 59 (nI k) ν = some (nI (T k), ν) := by
  obtain ⟨hn, hT, h9, hb, hw⟩ := hI
  unfold Mo_raw
  simp only [Nat.reduceAdd]
  rw [gF_eq, h9, if_neg (nI_ge hk (by omega)), ldA_nI (by omega) (by omega), hb k hk]
theorem mo_raw_out {T : Nat → Nat} {n k : Nat} {ν : Mu} (hI : MoI T n ν) (hk : n ≤ k) (hk2 : k < 2 ^ 31) : Mo_raw 59 (nI k) ν = some (-1, ν) := by
  obtain ⟨hn, hT, h9, hb, hw⟩ := hI
  unfold Mo_raw
  rw [gF_eq, h9, if_pos (nI_le hk hk2)]
theorem mo_isDigit {T : Nat → Nat} {i : Nat} (hc : T i < 256) (ν : Mu) : Mo_isDigit 59 (nI (T i)) ν = some (if dgt T i = true then 1 else 0, ν) := by
  unfold Mo_isDigit dgt
  simp only [decide_eq_true_eq]
  rw [isIn_eq, cl_eq, zg_eq (by split; exact Or.inl rfl; exact Or.inr rfl)]
  by_cases h : 48 ≤ T i ∧ T i ≤ 57
  · rw [if_neg, if_pos h]
    rintro (z | z)
    · exact nI_nlt (a := T i) (b := 48) h.1 (by omega) z
    · exact nI_nlt (a := 57) (b := T i) h.2 (by omega) z
  · rw [if_pos, if_neg h]
    by_cases h1 : T i < 48
    · exact Or.inl (show nI (T i) < nI 48 from nI_lt h1 (by omega))
    · exact Or.inr (show nI 57 < nI (T i) from nI_lt (by omega) (by omega))
theorem mo_isDigit_no (ν : Mu) : Mo_isDigit 59 (-1) ν = some (0, ν) := by
  unfold Mo_isDigit
  rw [isIn_eq, cl_eq, if_pos (by decide), zg_eq (Or.inl rfl)]
theorem mo_isLetter {T : Nat → Nat} {i : Nat} (hc : T i < 256) (ν : Mu) : Mo_isLetter 59 (nI (T i)) ν = some (if ltr T i = true then 1 else 0, ν) := by
  unfold Mo_isLetter Mo_isLetter_24 ltr
  simp only [decide_eq_true_eq]
  rw [isIn_eq, cl_eq, isIn_eq, cl_eq]
  have q1 : (nI (T i) < 97 ∨ 122 < nI (T i)) ↔ (T i < 97 ∨ 122 < T i) := by
    rw [show (nI (T i) < 97 ↔ T i < 97) from nI_ltI (b := 97) (by omega) (by omega), show (122 < nI (T i) ↔ 122 < T i) from nI_ltI (a := 122) (by omega) (by omega)]
  have q2 : (nI (T i) < 65 ∨ 90 < nI (T i)) ↔ (T i < 65 ∨ 90 < T i) := by
    rw [show (nI (T i) < 65 ↔ T i < 65) from nI_ltI (b := 65) (by omega) (by omega), show (90 < nI (T i) ↔ 90 < T i) from nI_ltI (a := 90) (by omega) (by omega)]
  by_cases c1 : T i < 97 ∨ 122 < T i
  · rw [if_pos (q1.mpr c1), if_pos rfl]
    by_cases c2 : T i < 65 ∨ 90 < T i
    · rw [if_pos (q2.mpr c2), if_pos rfl, if_neg (by omega)]
    · rw [if_neg (fun z => c2 (q2.mp z)), if_neg (by decide), if_pos (by omega)]
  · rw [if_neg (fun z => c1 (q1.mp z)), if_neg (by decide), if_pos (by omega)]
theorem mo_isLetter_no (ν : Mu) : Mo_isLetter 59 (-1) ν = some (0, ν) := by
  unfold Mo_isLetter
  rw [isIn_eq, cl_eq, if_pos (show (if ((-1 : Int32) < 97 ∨ (122 : Int32) < -1) then (0 : Int32) else 1) = 0 by decide), isIn_eq, cl_eq, if_pos (show (if ((-1 : Int32) < 65 ∨ (90 : Int32) < -1) then (0 : Int32) else 1) = 0 by decide)]
theorem mo_isMark {c : Nat} (hc : c < 256) (ν : Mu) : Mo_isMarkSign 59 (nI c) ν = some (if c ∈ sgL then 1 else 0, ν) := by
  unfold Mo_isMarkSign Mo_isMarkSign_60
  by_cases h : c ∈ sgL
  · rw [if_pos h]
    simp only [sgL, List.mem_cons, List.not_mem_nil, or_false] at h
    rcases h with rfl | rfl | rfl | rfl | rfl | rfl | rfl | rfl | rfl | rfl <;> rfl
  · rw [if_neg h]
    simp only [sgL, List.mem_cons, List.not_mem_nil, or_false, not_or] at h
    obtain ⟨h1, h2, h3, h4, h5, h6, h7, h8, h9, h10⟩ := h
    rw [if_neg (fun z : nI c = 59 => h1 ((nI_eq (b := 59) (by omega) (by omega)).mp z)), if_neg (fun z : nI c = 43 => h2 ((nI_eq (b := 43) (by omega) (by omega)).mp z)), if_neg (fun z : nI c = 45 => h3 ((nI_eq (b := 45) (by omega) (by omega)).mp z)), if_neg (fun z : nI c = 42 => h4 ((nI_eq (b := 42) (by omega) (by omega)).mp z)), if_neg (fun z : nI c = 47 => h5 ((nI_eq (b := 47) (by omega) (by omega)).mp z)), if_neg (fun z : nI c = 40 => h6 ((nI_eq (b := 40) (by omega) (by omega)).mp z)), if_neg (fun z : nI c = 41 => h7 ((nI_eq (b := 41) (by omega) (by omega)).mp z)), if_neg (fun z : nI c = 60 => h8 ((nI_eq (b := 60) (by omega) (by omega)).mp z)), if_neg (fun z : nI c = 61 => h9 ((nI_eq (b := 61) (by omega) (by omega)).mp z)), if_neg (fun z : nI c = 62 => h10 ((nI_eq (b := 62) (by omega) (by omega)).mp z))]
/-! words -/
theorem getD_drop (l : List Nat) (a j : Nat) : (l.drop a).getD j 0 = l.getD (a + j) 0 := by rw [List.getD_eq_getElem?_getD, List.getD_eq_getElem?_getD, List.getElem?_drop]
theorem drop_next {l : List Nat} {a c : Nat} {r : List Nat} (h : l.drop a = c :: r) : l.drop (a + 1) = r ∧ l.getD a 0 = c ∧ a < l.length := by
  have h3 : a < l.length := by
    by_cases z : a < l.length
    · exact z
    · rw [List.drop_eq_nil_of_le (by omega)] at h; cases h
  rw [drop_at 0 h3] at h
  injection h with h1 h2
  exact ⟨h2, h1, h3⟩
theorem mo_skip {T : Nat → Nat} {n : Nat} {ν : Mu} (hI : MoI T n ν) {kb5 : Int32 → Int32 → Mu → Option (Int32 × Mu)} {v1 v2 v3 : Int32} {r : List Nat} : ∀ (w : List Nat) (k fuel : Nat), WB.drop k = w ++ 32 :: r → (∀ c, c ∈ w → c ≠ 32 ∧ c < 128) → w.length < fuel → Mo_wordAt_94 59 kb5 v1 v2 v3 fuel (nI k) ν = kb5 v3 (nI (k + w.length)) ν := by
  obtain ⟨hn, hT, h9, hb, hw⟩ := id hI
  intro w
  induction w with
  | nil =>
    intro k fuel hd _ hfu
    obtain ⟨m, rfl⟩ : ∃ m, fuel = m + 1 := ⟨fuel - 1, by omega⟩
    obtain ⟨h1, h2, h3⟩ := drop_next hd
    rw [WB_len] at h3
    show Mo_wordAt_94b 59 kb5 (Mo_wordAt_94 59 kb5 v1 v2 v3 m) v1 v2 v3 (nI k) ν = _
    unfold Mo_wordAt_94b
    simp only [Nat.reduceAdd]
    rw [ldA_nI (by omega) (by omega), hw k h3, h2, if_pos (by rfl)]
    rfl
  | cons c w ih =>
    intro k fuel hd hc hfu
    obtain ⟨m, rfl⟩ : ∃ m, fuel = m + 1 := ⟨fuel - 1, by omega⟩
    obtain ⟨h1, h2, h3⟩ := drop_next hd
    rw [WB_len] at h3
    have hc1 := hc c List.mem_cons_self
    have hl : w.length + 1 < m + 1 := hfu
    show Mo_wordAt_94b 59 kb5 (Mo_wordAt_94 59 kb5 v1 v2 v3 m) v1 v2 v3 (nI k) ν = _
    unfold Mo_wordAt_94b
    simp only [Nat.reduceAdd]
    rw [ldA_nI (by omega) (by omega), hw k h3, h2, if_neg (fun z : nI c = 32 => hc1.1 ((nI_eq (b := 32) (by omega) (by omega)).mp z)), nI_1, ih (k + 1) m h1 (fun x hx => hc x (List.mem_cons_of_mem _ hx)) (by omega)]
    show _ = kb5 v3 (nI (k + (w.length + 1))) ν
    rw [show k + 1 + w.length = k + (w.length + 1) by omega]
theorem mo_inner {T : Nat → Nat} {n : Nat} {ν : Mu} (hI : MoI T n ν) {kb5 : Int32 → Int32 → Mu → Option (Int32 × Mu)} {v3 : Int32} {r : List Nat} {f e k : Nat} (he : e ≤ n) (hl : ∀ i, f ≤ i → i < e → T i ≠ 32) : ∀ (w : List Nat) (i fuel : Nat), WB.drop (k + 1 + i) = w ++ 32 :: r → (∀ c, c ∈ w → c ≠ 32 ∧ c < 128) → f + i ≤ e → w.length < fuel → Mo_wordAt_20 59 kb5 (nI f) (nI e) v3 (nI k) fuel (nI i) ν = if w = seg T (f + i) (e - (f + i)) then some (v3, ν) else Mo_wordAt_88 59 kb5 (nI f) (nI e) v3 (nI k) ν := by
  obtain ⟨hn, hT, h9, hb, hw⟩ := id hI
  intro w
  induction w with
  | nil =>
    intro i fuel hd _ hi hfu
    obtain ⟨m, rfl⟩ : ∃ m, fuel = m + 1 := ⟨fuel - 1, by omega⟩
    obtain ⟨h1, h2, h3⟩ := drop_next hd
    rw [WB_len] at h3
    show Mo_wordAt_20b 59 kb5 (Mo_wordAt_20 59 kb5 (nI f) (nI e) v3 (nI k) m) (nI f) (nI e) v3 (nI k) (nI i) ν = _
    unfold Mo_wordAt_20b Mo_wordAt_61
    simp only [Nat.reduceAdd]
    rw [nI_add, nI_1, nI_add]
    by_cases c : e ≤ f + i
    · have hz : e - (f + i) = 0 := by omega
      rw [if_pos (nI_le c (by omega)), if_pos (by rw [show f + i = e by omega]), ldA_nI (by omega) (by omega), hw _ h3, h2, if_pos (by rfl), hz, if_pos (show ([] : List Nat) = seg T (f + i) 0 from rfl)]
    · have hTi := hT (f + i) (by omega)
      have hne := hl (f + i) (by omega) (by omega)
      rw [if_neg (nI_ge (by omega) (by omega)), ldA_nI (by omega) (by omega), ldA_nI (by omega) (by omega), hw _ h3, h2, hb _ (by omega), if_neg (fun z : nI 32 = nI (T (f + i)) => hne ((nI_eq (a := 32) (by omega) (by omega)).mp z).symm), if_neg (fun z => c (by have := (nI_eq (by omega) (by omega)).mp z; omega)), if_neg]
      rw [show e - (f + i) = (e - (f + i) - 1) + 1 by omega]
      intro z; cases z
  | cons c w ih =>
    intro i fuel hd hc hi hfu
    obtain ⟨m, rfl⟩ : ∃ m, fuel = m + 1 := ⟨fuel - 1, by omega⟩
    obtain ⟨h1, h2, h3⟩ := drop_next hd
    rw [WB_len] at h3
    have hc1 := hc c List.mem_cons_self
    have hfu2 : w.length + 1 < m + 1 := hfu
    show Mo_wordAt_20b 59 kb5 (Mo_wordAt_20 59 kb5 (nI f) (nI e) v3 (nI k) m) (nI f) (nI e) v3 (nI k) (nI i) ν = _
    unfold Mo_wordAt_20b Mo_wordAt_61
    simp only [Nat.reduceAdd]
    rw [nI_add, nI_1, nI_add]
    by_cases q : e ≤ f + i
    · rw [if_pos (nI_le q (by omega)), if_pos (by rw [show f + i = e by omega]), ldA_nI (by omega) (by omega), hw _ h3, h2, if_neg (fun z : nI c = 32 => hc1.1 ((nI_eq (b := 32) (by omega) (by omega)).mp z)), if_neg]
      rw [show e - (f + i) = 0 by omega]
      intro z; cases z
    · have hTi := hT (f + i) (by omega)
      have hs : seg T (f + i) (e - (f + i)) = T (f + i) :: seg T (f + (i + 1)) (e - (f + (i + 1))) := by
        rw [show e - (f + i) = (e - (f + (i + 1))) + 1 by omega]; rfl
      rw [if_neg (nI_ge (by omega) (by omega)), ldA_nI (by omega) (by omega), ldA_nI (by omega) (by omega), hw _ h3, h2, hb _ (by omega), hs]
      by_cases y : c = T (f + i)
      · rw [if_pos (by rw [y]), nI_1, ih (i + 1) m h1 (fun x hx => hc x (List.mem_cons_of_mem _ hx)) (by omega) (by omega)]
        by_cases u : w = seg T (f + (i + 1)) (e - (f + (i + 1)))
        · rw [if_pos u, if_pos (by rw [y, u])]
        · rw [if_neg u, if_neg (fun z => u (by injection z))]
      · rw [if_neg (fun z => y ((nI_eq (by omega) (by omega)).mp z)), if_neg (fun z => q (by have := (nI_eq (by omega) (by omega)).mp z; omega)), if_neg (fun z => y (by injection z))]
theorem mo_wordLoop {T : Nat → Nat} {n : Nat} {ν : Mu} (hI : MoI T n ν) {f e : Nat} (he : e ≤ n) (hf : f ≤ e) (hl : ∀ i, f ≤ i → i < e → T i ≠ 32) : ∀ (ws : List (List Nat)) (k num fuel : Nat) (v : Int32), WB.drop (k + 1) = flatW ws → k ≤ 131 → (∀ w, w ∈ ws → ∀ c, c ∈ w → c ≠ 32 ∧ c < 128) → v + 1 = nI num → ws.length < fuel → Mo_wordAt_5 59 (nI f) (nI e) fuel v (nI k) ν = some (match wrdN (seg T f (e - f)) ws num with | some j => nI j | none => -1, ν) := by
  intro ws
  induction ws with
  | nil =>
    intro k num fuel v hd hk _ hv hfu
    obtain ⟨m, rfl⟩ : ∃ m, fuel = m + 1 := ⟨fuel - 1, by omega⟩
    have h3 : 132 ≤ k + 1 := by
      have := congrArg List.length hd
      rw [List.length_drop, WB_len] at this
      have h0 : (flatW ([] : List (List Nat))).length = 0 := rfl
      omega
    show Mo_wordAt_5b 59 (Mo_wordAt_5 59 (nI f) (nI e) m) (nI f) (nI e) v (nI k) ν = _
    unfold Mo_wordAt_5b
    rw [if_pos (show (131 : Int32) ≤ nI k from nI_le (a := 131) (by omega) (by omega))]
    rfl
  | cons w ws ih =>
    intro k num fuel v hd hk hc hv hfu
    obtain ⟨m, rfl⟩ : ∃ m, fuel = m + 1 := ⟨fuel - 1, by omega⟩
    have hfu2 : ws.length + 1 < m + 1 := hfu
    have h1 : flatW (w :: ws) = w ++ 32 :: flatW ws := by simp [flatW]
    rw [h1] at hd
    have hlen : w.length + 1 + (k + 1) ≤ 132 := by
      have := congrArg List.length hd
      rw [List.length_drop, WB_len, List.length_append, List.length_cons] at this
      omega
    have hw := hc w List.mem_cons_self
    show Mo_wordAt_5b 59 (Mo_wordAt_5 59 (nI f) (nI e) m) (nI f) (nI e) v (nI k) ν = _
    unfold Mo_wordAt_5b
    rw [if_neg (show ¬ (131 : Int32) ≤ nI k from nI_ge (b := 131) (by omega) (by omega)), hv]
    have hin := mo_inner (kb5 := Mo_wordAt_5 59 (nI f) (nI e) m) (v3 := nI num) hI he hl w 0 FU (k := k) hd hw (by omega) (by unfold FU; omega)
    rw [show (0 : Int32) = nI 0 from nI_0.symm, hin, Nat.add_zero]
    unfold wrdN
    by_cases c : w = seg T f (e - f)
    · rw [if_pos c, if_pos c]
    · rw [if_neg c, if_neg c]
      unfold Mo_wordAt_88
      rw [nI_1, mo_skip hI w (k + 1) FU hd hw (by unfold FU; omega)]
      refine ih (k + 1 + w.length) (num + 1) m (nI num) ?_ (by omega) (fun u hu => hc u (List.mem_cons_of_mem _ hu)) (nI_1 num) (by omega)
      have h2 := congrArg (List.drop (w.length + 1)) hd
      rw [List.drop_drop] at h2
      have h4 : (w ++ 32 :: flatW ws).drop (w.length + 1) = flatW ws := by
        rw [show w ++ 32 :: flatW ws = (w ++ [32]) ++ flatW ws by simp]
        exact List.drop_left' (by simp)
      rw [h4] at h2
      rw [← h2]; congr 1
theorem mo_wordAt {T : Nat → Nat} {n : Nat} {ν : Mu} (hI : MoI T n ν) {f e : Nat} (he : e ≤ n) (hf : f ≤ e) (hl : ∀ i, f ≤ i → i < e → T i ≠ 32) : Mo_wordAt 59 (nI f) (nI e) ν = some (if kwN T f e = 31 then -1 else nI (rwn (kwN T f e)), ν) := by
  have h := mo_wordLoop hI he hf hl KWr 0 0 FU (-1) rfl (by omega) kwr_no32 (by decide) (by unfold FU; decide)
  unfold Mo_wordAt
  rw [show (0 : Int32) = nI 0 from nI_0.symm, h, kw_ref]
  unfold kwN
  cases hk : wrdN (seg T f (e - f)) KW 1 with
  | none => rw [if_pos rfl]; rfl
  | some k =>
    obtain ⟨h1, h2, h3⟩ := wrdN_in hk
    have h4 : k < 1 + 24 := h2
    show some (nI (rwn k), ν) = some (if k = 31 then -1 else nI (rwn k), ν)
    rw [if_neg (by omega)]
/-! the token -/
theorem mo_reads {T : Nat → Nat} {n p : Nat} {ν : Mu} (hI : MoI T n ν) (hp : p ≤ n) (h10 : ν 59 10 = nI p) : Ev (Mo_reads 59 ν) (fun _ ν' => TokM T n p ν' ∧ FrM ν ν') := by
  have hf1 : p ≤ tkF T n p := rE_ge _ _ _
  have hf2 : tkF T n p ≤ n := rE_le hp
  have hn := hI.1
  unfold Mo_reads Mo_reads_0
  refine lp_fu (F := fun kb => Mo_reads_0b 59 kb) (z := fun _ => none) (tkF T n p) (fun k A => p ≤ k → ∀ μ1, FrM ν μ1 → μ1 59 10 = nI k → Ev (A μ1) (fun _ ν' => TokM T n p ν' ∧ FrM ν ν')) (by omega) ?_ ?_ p hf1 (Nat.le_refl _) _ (frM_refl ν) h10
  · intro A _ μ1 hF k10
    have hI1 := moI_fr hF hI
    obtain ⟨_, hT, h9, hb, hw⟩ := id hI1
    show Ev (Mo_reads_0b 59 A μ1) _
    have htk : tk T n p = if n ≤ tkF T n p then (0, 0, n, n)
      else if dgt T (tkF T n p) = true then (if rE (dgt T) n (tkF T n p + 1) - tkF T n p ≤ 4 then 30 else 31, valD T (tkF T n p) (rE (dgt T) n (tkF T n p + 1) - tkF T n p), tkF T n p, rE (dgt T) n (tkF T n p + 1))
      else if ltr T (tkF T n p) = true then (kwN T (tkF T n p) (rE (ltr T) n (tkF T n p + 1)), 0, tkF T n p, rE (ltr T) n (tkF T n p + 1))
      else (if T (tkF T n p) ∈ sgL then T (tkF T n p) else 31, 0, tkF T n p, tkF T n p + 1) := rfl
    have hbe : tkF T n p < n → blk T (tkF T n p) = false := fun z => rE_end z
    unfold TokM
    rw [htk]
    generalize tkF T n p = f at *
    unfold Mo_reads_0b
    rw [gF_eq, k10]
    by_cases hnf : n ≤ f
    · have e : f = n := by omega
      rw [mo_raw_out hI1 hnf (by omega), cl_eq, if_neg (by decide), gF_eq, k10, mo_raw_out hI1 hnf (by omega), cl_eq, if_neg (by decide), gF_eq, k10, pF_eq, pF_eq, gF_eq, up2_off (Or.inr (by decide)), up2_off (Or.inr (by decide)), k10]
      have hF3 : FrM ν (up2 (up2 μ1 59 11 (nI f)) 59 12 1) := frM_up (frM_up hF (by decide)) (by decide)
      rw [mo_raw_out (moI_fr hF3 hI) hnf (by omega), cl_eq, if_pos rfl, pF_eq, if_pos hnf]
      refine ev_some ⟨⟨up2_same _ _ _ _, fun z => (by cases z), fun z => (by cases z), fun z => (by cases z), ?_, ?_⟩, frM_up hF3 (by decide)⟩
      · rw [up2_off (Or.inr (by decide)), up2_off (Or.inr (by decide)), up2_same, e]
      · rw [up2_off (Or.inr (by decide)), up2_off (Or.inr (by decide)), up2_off (Or.inr (by decide)), k10, e]
    have hfn : f < n := Nat.not_le.mp hnf
    have hbl := hbe hfn
    have hTf := hT f hfn
    simp only [blk, decide_eq_false_iff_not, not_or] at hbl
    rw [mo_raw_in hI1 hfn, cl_eq, if_neg (fun z : nI (T f) = 32 => hbl.1 ((nI_eq (b := 32) (by omega) (by omega)).mp z)), gF_eq, k10, mo_raw_in hI1 hfn, cl_eq, if_neg (fun z : nI (T f) = 10 => hbl.2 ((nI_eq (b := 10) (by omega) (by omega)).mp z)), gF_eq, k10, pF_eq, pF_eq, gF_eq, up2_off (Or.inr (by decide)), up2_off (Or.inr (by decide)), k10]
    have hF2 : FrM ν (up2 (up2 μ1 59 11 (nI f)) 59 12 1) := frM_up (frM_up hF (by decide)) (by decide)
    have m10 : up2 (up2 μ1 59 11 (nI f)) 59 12 1 59 10 = nI f := by rw [up2_off (Or.inr (by decide)), up2_off (Or.inr (by decide)), k10]
    have m11 : up2 (up2 μ1 59 11 (nI f)) 59 12 1 59 11 = nI f := by rw [up2_off (Or.inr (by decide)), up2_same]
    have m12 : up2 (up2 μ1 59 11 (nI f)) 59 12 1 59 12 = 1 := up2_same _ _ _ _
    generalize up2 (up2 μ1 59 11 (nI f)) 59 12 1 = μ2 at hF2 m10 m11 m12 ⊢
    rw [mo_raw_in (moI_fr hF2 hI) hfn, cl_eq, if_neg (by rw [n1_ne (by omega)]; exact id), gF_eq, m10, pF_eq, pF_eq, nI_1]
    have hF3 : FrM ν (up2 (up2 μ2 59 10 (nI (f + 1))) 59 13 (nI (T f))) := frM_up (frM_up hF2 (by decide)) (by decide)
    have q10 : up2 (up2 μ2 59 10 (nI (f + 1))) 59 13 (nI (T f)) 59 10 = nI (f + 1) := by rw [up2_off (Or.inr (by decide)), up2_same]
    have q11 : up2 (up2 μ2 59 10 (nI (f + 1))) 59 13 (nI (T f)) 59 11 = nI f := by rw [up2_off (Or.inr (by decide)), up2_off (Or.inr (by decide)), m11]
    have q12 : up2 (up2 μ2 59 10 (nI (f + 1))) 59 13 (nI (T f)) 59 12 = 1 := by rw [up2_off (Or.inr (by decide)), up2_off (Or.inr (by decide)), m12]
    have q13 : up2 (up2 μ2 59 10 (nI (f + 1))) 59 13 (nI (T f)) 59 13 = nI (T f) := up2_same _ _ _ _
    generalize up2 (up2 μ2 59 10 (nI (f + 1))) 59 13 (nI (T f)) = μ3 at hF3 q10 q11 q12 q13 ⊢
    rw [mo_isLetter hTf, cl_eq, if_neg hnf]
    by_cases hd : dgt T f = true
    · have hdd := hd
      simp only [dgt, decide_eq_true_eq] at hdd
      have hnl : ¬ ltr T f = true := by simp only [ltr, decide_eq_true_eq]; omega
      rw [if_neg hnl, if_pos rfl, mo_isDigit hTf, cl_eq, if_pos hd, if_neg (by decide), pF_eq, if_pos hd]
      have he := rE_le (c := dgt T) (show f + 1 ≤ n by omega)
      have hge := rE_ge (dgt T) n (f + 1)
      unfold Mo_reads_171
      refine lp_fu (F := fun kb => Mo_reads_171b 59 kb) (z := fun _ => none) (rE (dgt T) n (f + 1)) (fun k A => f + 1 ≤ k → ∀ μ4, FrM ν μ4 → μ4 59 10 = nI k → μ4 59 11 = nI f → μ4 59 12 = 1 → (k - f ≤ 4 → μ4 59 13 = nI (valD T f (k - f))) → Ev (A μ4) _) (by omega) ?_ ?_ (f + 1) hge (Nat.le_refl _) _ (frM_up hF3 (by decide)) (by rw [up2_off (Or.inr (by decide)), q10]) (by rw [up2_off (Or.inr (by decide)), q11]) (by rw [up2_off (Or.inr (by decide)), q12]) ?_
      · intro A hk μ4 hF4 n10 n11 n12 n13
        have hI4 := moI_fr hF4 hI
        show Ev (Mo_reads_171b 59 A μ4) _
        unfold Mo_reads_171b
        rw [gF_eq, n10]
        have fin : Ev (gF μ4 59 10 (fun x6 => gF μ4 59 11 (fun x7 => (if 5 ≤ (x6 - x7) then some ((), μ4) else pF μ4 59 12 3 (fun μ8 => some ((), μ8)))))) (fun _ ν' => (ν' 59 12 = nI (tkM (if rE (dgt T) n (f + 1) - f ≤ 4 then 30 else 31)) ∧ (tkM (if rE (dgt T) n (f + 1) - f ≤ 4 then 30 else 31) = 2 → ν' 59 13 = nI (rwn (if rE (dgt T) n (f + 1) - f ≤ 4 then 30 else 31))) ∧ (tkM (if rE (dgt T) n (f + 1) - f ≤ 4 then 30 else 31) = 3 → ν' 59 13 = nI (valD T f (rE (dgt T) n (f + 1) - f))) ∧ (tkM (if rE (dgt T) n (f + 1) - f ≤ 4 then 30 else 31) = 4 → ν' 59 13 = nI (if rE (dgt T) n (f + 1) - f ≤ 4 then 30 else 31)) ∧ ν' 59 11 = nI f ∧ ν' 59 10 = nI (rE (dgt T) n (f + 1))) ∧ FrM ν ν') := by
          rw [gF_eq, gF_eq, n10, n11, pk_sub (by omega)]
          by_cases c4 : rE (dgt T) n (f + 1) - f ≤ 4
          · rw [if_neg (show ¬ (5 : Int32) ≤ nI (rE (dgt T) n (f + 1) - f) from nI_ge (b := 5) (by omega) (by omega)), if_pos c4, pF_eq]
            exact ev_some ⟨⟨up2_same _ _ _ _, fun z => (by cases z), fun _ => by rw [up2_off (Or.inr (by decide))]; exact n13 c4, fun z => (by cases z), by rw [up2_off (Or.inr (by decide))]; exact n11, by rw [up2_off (Or.inr (by decide))]; exact n10⟩, frM_up hF4 (by decide)⟩
          · rw [if_pos (show (5 : Int32) ≤ nI (rE (dgt T) n (f + 1) - f) from nI_le (a := 5) (by omega) (by omega)), if_neg c4]
            exact ev_some ⟨⟨n12, fun z => (by cases z), fun z => (by cases z), fun z => (by cases z), n11, n10⟩, hF4⟩
        by_cases hne : n ≤ rE (dgt T) n (f + 1)
        · rw [mo_raw_out hI4 hne (by omega), cl_eq, mo_isDigit_no, cl_eq, if_pos rfl]; exact fin
        · have hend := rE_end (c := dgt T) (n := n) (p := f + 1) (by omega)
          rw [mo_raw_in hI4 (by omega), cl_eq, mo_isDigit (hT _ (by omega)), cl_eq, hend, if_pos (show (if false = true then (1 : Int32) else 0) = 0 from rfl)]; exact fin
      · intro k A hke ih hk μ4 hF4 n10 n11 n12 n13
        have hI4 := moI_fr hF4 hI
        have hin : dgt T k = true := rE_in hk hke
        have hii := hin
        simp only [dgt, decide_eq_true_eq] at hii
        have go : ∀ v : Int32, (k + 1 - f ≤ 4 → v = nI (valD T f (k + 1 - f))) → Ev (Mo_reads_223 59 A v μ4) (fun _ ν' => (ν' 59 12 = nI (tkM (if rE (dgt T) n (f + 1) - f ≤ 4 then 30 else 31)) ∧ (tkM (if rE (dgt T) n (f + 1) - f ≤ 4 then 30 else 31) = 2 → ν' 59 13 = nI (rwn (if rE (dgt T) n (f + 1) - f ≤ 4 then 30 else 31))) ∧ (tkM (if rE (dgt T) n (f + 1) - f ≤ 4 then 30 else 31) = 3 → ν' 59 13 = nI (valD T f (rE (dgt T) n (f + 1) - f))) ∧ (tkM (if rE (dgt T) n (f + 1) - f ≤ 4 then 30 else 31) = 4 → ν' 59 13 = nI (if rE (dgt T) n (f + 1) - f ≤ 4 then 30 else 31)) ∧ ν' 59 11 = nI f ∧ ν' 59 10 = nI (rE (dgt T) n (f + 1))) ∧ FrM ν ν') := by
          intro v hv
          unfold Mo_reads_223
          rw [pF_eq, gF_eq, up2_off (Or.inr (by decide)), n10, pF_eq, nI_1]
          exact ih (by omega) _ (frM_up (frM_up hF4 (by decide)) (by decide)) (up2_same _ _ _ _) (by rw [up2_off (Or.inr (by decide)), up2_off (Or.inr (by decide)), n11]) (by rw [up2_off (Or.inr (by decide)), up2_off (Or.inr (by decide)), n12]) (fun z => by rw [up2_off (Or.inr (by decide)), up2_same]; exact hv z)
        show Ev (Mo_reads_171b 59 A μ4) _
        unfold Mo_reads_171b
        rw [gF_eq, n10, mo_raw_in hI4 (by omega), cl_eq, mo_isDigit (hT _ (by omega)), cl_eq, if_pos hin, if_neg (by decide), gF_eq]
        by_cases h4 : k - f ≤ 3
        · have hv := n13 (by omega)
          have hlt := valD_lt (T := T) (f := f) (k := k - f) (fun i hi => by
            by_cases z : i = 0
            · rw [z]; exact hd
            · exact rE_in (n := n) (p := f + 1) (by omega) (by omega))
          have hlt3 : valD T f (k - f) < 10 ^ 3 := Nat.lt_of_lt_of_le hlt (Nat.pow_le_pow_right (by decide) h4)
          rw [hv, if_neg (show ¬ (10000 : Int32) ≤ nI (valD T f (k - f)) from nI_ge (b := 10000) (by omega) (by omega)), gF_eq, gF_eq, n10, mo_raw_in hI4 (by omega), cl_eq, hv]
          refine go _ (fun _ => ?_)
          show nI 10 * nI (valD T f (k - f)) + nI (T k) - nI 48 = _
          rw [pk_mul, nI_add, pk_sub (by omega), show k + 1 - f = (k - f) + 1 by omega]
          show _ = nI (10 * valD T f (k - f) + (T (f + (k - f)) - 48))
          rw [show f + (k - f) = k by omega]
          congr 1; omega
        · by_cases h5 : 10000 ≤ μ4 59 13
          · rw [if_pos h5, gF_eq]; exact go _ (fun z => absurd z (by omega))
          · rw [if_neg h5, gF_eq, gF_eq, n10, mo_raw_in hI4 (by omega), cl_eq]; exact go _ (fun z => absurd z (by omega))
      · intro _
        rw [up2_same, show f + 1 - f = 1 by omega]
        show nI (T f) - nI 48 = nI (10 * 0 + (T (f + 0) - 48))
        rw [pk_sub (by omega)]; simp
    rw [if_neg hd]
    by_cases hl : ltr T f = true
    · rw [if_pos hl, if_neg (by decide), if_pos hl]
      have he := rE_le (c := ltr T) (show f + 1 ≤ n by omega)
      have hge := rE_ge (ltr T) n (f + 1)
      have hrun : ∀ i, f ≤ i → i < rE (ltr T) n (f + 1) → T i ≠ 32 := by
        intro i h1 h2
        have h3 : ltr T i = true := by
          by_cases z : i = f
          · rw [z]; exact hl
          · exact rE_in (n := n) (p := f + 1) (by omega) h2
        simp only [ltr, decide_eq_true_eq] at h3
        omega
      unfold Mo_reads_95
      refine lp_fu (F := fun kb => Mo_reads_95b 59 kb) (z := fun _ => none) (rE (ltr T) n (f + 1)) (fun k A => f + 1 ≤ k → ∀ μ4, FrM ν μ4 → μ4 59 10 = nI k → μ4 59 11 = nI f → μ4 59 12 = 1 → Ev (A μ4) _) (by omega) ?_ ?_ (f + 1) hge (Nat.le_refl _) _ hF3 q10 q11 q12
      · intro A hk μ4 hF4 n10 n11 n12
        have hI4 := moI_fr hF4 hI
        have hkr := kwN_rng T f (rE (ltr T) n (f + 1))
        have fin : Ev (gF μ4 59 11 (fun x6 => gF μ4 59 10 (fun x7 => cl (Mo_wordAt 59 x6 x7 μ4) (fun x9 μ8 => pF μ8 59 13 x9 (fun μ10 => gF μ10 59 13 (fun x11 => (if x11 = ((-1)) then some ((), μ10) else pF μ10 59 12 2 (fun μ12 => some ((), μ12))))))))) (fun _ ν' => (ν' 59 12 = nI (tkM (kwN T f (rE (ltr T) n (f + 1)))) ∧ (tkM (kwN T f (rE (ltr T) n (f + 1))) = 2 → ν' 59 13 = nI (rwn (kwN T f (rE (ltr T) n (f + 1))))) ∧ (tkM (kwN T f (rE (ltr T) n (f + 1))) = 3 → ν' 59 13 = nI 0) ∧ (tkM (kwN T f (rE (ltr T) n (f + 1))) = 4 → ν' 59 13 = nI (kwN T f (rE (ltr T) n (f + 1)))) ∧ ν' 59 11 = nI f ∧ ν' 59 10 = nI (rE (ltr T) n (f + 1))) ∧ FrM ν ν') := by
          rw [gF_eq, gF_eq, n10, n11, mo_wordAt hI4 he (by omega) hrun, cl_eq, pF_eq, gF_eq, up2_same]
          generalize kwN T f (rE (ltr T) n (f + 1)) = kk at hkr ⊢
          rcases hkr with ⟨a1, a2⟩ | a1
          · have hr24 : rwn kk < 100 := by
              have : ∀ j, j < 25 → rwn j < 100 := by decide
              exact this kk (by omega)
            have ht : tkM kk = 2 := by unfold tkM; rw [if_neg (by omega), if_neg (by omega), if_pos a2]
            rw [if_neg (show ¬ kk = 31 by omega), if_neg (by rw [n1_ne (by omega)]; exact id), pF_eq, ht]
            exact ev_some ⟨⟨up2_same _ _ _ _, fun _ => by rw [up2_off (Or.inr (by decide)), up2_same], fun z => (by cases z), fun z => (by cases z), by rw [up2_off (Or.inr (by decide)), up2_off (Or.inr (by decide))]; exact n11, by rw [up2_off (Or.inr (by decide)), up2_off (Or.inr (by decide))]; exact n10⟩, frM_up (frM_up hF4 (by decide)) (by decide)⟩
          · have ht : tkM kk = 1 := by unfold tkM; rw [if_neg (by omega), if_pos a1]
            rw [if_pos a1, if_pos rfl, ht]
            exact ev_some ⟨⟨by rw [up2_off (Or.inr (by decide))]; exact n12, fun z => (by cases z), fun z => (by cases z), fun z => (by cases z), by rw [up2_off (Or.inr (by decide))]; exact n11, by rw [up2_off (Or.inr (by decide))]; exact n10⟩, frM_up hF4 (by decide)⟩
        show Ev (Mo_reads_95b 59 A μ4) _
        unfold Mo_reads_95b
        rw [gF_eq, n10]
        by_cases hne : n ≤ rE (ltr T) n (f + 1)
        · rw [mo_raw_out hI4 hne (by omega), cl_eq, mo_isLetter_no, cl_eq, if_pos rfl]; exact fin
        · have hend := rE_end (c := ltr T) (n := n) (p := f + 1) (by omega)
          rw [mo_raw_in hI4 (by omega), cl_eq, mo_isLetter (hT _ (by omega)), cl_eq, hend, if_pos (show (if false = true then (1 : Int32) else 0) = 0 from rfl)]; exact fin
      · intro k A hke ih hk μ4 hF4 n10 n11 n12
        have hI4 := moI_fr hF4 hI
        have hin : ltr T k = true := rE_in hk hke
        show Ev (Mo_reads_95b 59 A μ4) _
        unfold Mo_reads_95b
        rw [gF_eq, n10, mo_raw_in hI4 (by omega), cl_eq, mo_isLetter (hT _ (by omega)), cl_eq, if_pos hin, if_neg (by decide), gF_eq, n10, pF_eq, nI_1]
        exact ih (by omega) _ (frM_up hF4 (by decide)) (up2_same _ _ _ _) (by rw [up2_off (Or.inr (by decide)), n11]) (by rw [up2_off (Or.inr (by decide)), n12])
    rw [if_neg hl, if_pos rfl, mo_isDigit hTf, cl_eq, if_neg hd, if_pos rfl, mo_isMark hTf, cl_eq, if_neg hl]
    by_cases hs : T f ∈ sgL
    · have key : ∀ c : Nat, c ∈ sgL → tkM c = 4 := by decide
      rw [if_pos hs, if_neg (by decide), pF_eq, if_pos hs]
      have ht := key _ hs
      refine ev_some ⟨⟨?_, fun z => ?_, fun z => ?_, fun _ => by rw [up2_off (Or.inr (by decide))]; exact q13, by rw [up2_off (Or.inr (by decide))]; exact q11, by rw [up2_off (Or.inr (by decide))]; exact q10⟩, frM_up hF3 (by decide)⟩
      · show _ = nI (tkM (T f)); rw [ht]; exact up2_same _ _ _ _
      · have z2 : tkM (T f) = 2 := z
        rw [ht] at z2; cases z2
      · have z2 : tkM (T f) = 3 := z
        rw [ht] at z2; cases z2
    · rw [if_neg hs, if_pos rfl, if_neg hs]
      exact ev_some ⟨⟨q12, fun z => (by cases z), fun z => (by cases z), fun z => (by cases z), q11, q10⟩, hF3⟩
  · intro k A hkf ih hpk μ1 hF k10
    have hI1 := moI_fr hF hI
    obtain ⟨_, hT, h9, hb, hw⟩ := id hI1
    have hbl : blk T k = true := rE_in hpk hkf
    have hTi := hT k (by omega)
    simp only [blk, decide_eq_true_eq] at hbl
    have go : Ev (Mo_reads_26 59 A μ1) (fun _ ν' => TokM T n p ν' ∧ FrM ν ν') := by
      unfold Mo_reads_26
      rw [gF_eq, pF_eq, k10]
      exact ih (by omega) _ (frM_up hF (by decide)) (by rw [up2_same, nI_1])
    show Ev (Mo_reads_0b 59 A μ1) _
    unfold Mo_reads_0b
    rw [gF_eq, k10, mo_raw_in hI1 (by omega), cl_eq]
    by_cases c1 : T k = 32
    · rw [if_pos (show nI (T k) = 32 by rw [c1]; rfl)]; exact go
    · have c2 : T k = 10 := by omega
      rw [if_neg (fun z : nI (T k) = 32 => c1 ((nI_eq (b := 32) (by omega) (by omega)).mp z)), gF_eq, k10, mo_raw_in hI1 (by omega), cl_eq, if_pos (show nI (T k) = 10 by rw [c2]; rfl)]
      exact go
