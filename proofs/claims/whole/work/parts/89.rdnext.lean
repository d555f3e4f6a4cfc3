/-! L3: THE CLASS READS A TOKEN -/
def RdI (T : Nat → Nat) (n : Nat) (μ : Mu) : Prop := n ≤ 400 ∧ (∀ i, i < n → T i < 256) ∧ μ 48 2 = nI n ∧ ∀ i, i < n → μ 49 i = nI (T i)
def FrT (μ μ' : Mu) : Prop := (∀ k, k ≠ 48 → μ' k = μ k) ∧ ∀ j, j ∉ [3, 4, 5, 6] → μ' 48 j = μ 48 j
theorem frT_refl (μ : Mu) : FrT μ μ := ⟨fun _ _ => rfl, fun _ _ => rfl⟩
theorem frT_trans {a b c : Mu} (h1 : FrT a b) (h2 : FrT b c) : FrT a c := ⟨fun k h => (h2.1 k h).trans (h1.1 k h), fun j h => (h2.2 j h).trans (h1.2 j h)⟩
theorem frT_up {a b : Mu} {j : Nat} {v : Int32} (h1 : FrT a b) (h : j ∈ [3, 4, 5, 6]) : FrT a (up2 b 48 j v) := ⟨fun k hk => (up2_ne hk).trans (h1.1 k hk), fun i hi => (up2_off (Or.inr (fun z => hi (by rw [z]; exact h)))).trans (h1.2 i hi)⟩
theorem rdI_fr {T : Nat → Nat} {n : Nat} {μ μ' : Mu} (h : FrT μ μ') (hI : RdI T n μ) : RdI T n μ' := ⟨hI.1, hI.2.1, (h.2 2 (by decide)).trans hI.2.2.1, fun i hi => by rw [h.1 49 (by decide)]; exact hI.2.2.2 i hi⟩
def TokC (T : Nat → Nat) (n p : Nat) (μ : Mu) : Prop := μ 48 3 = nI (tk T n p).1 ∧ ((tk T n p).1 = 30 → μ 48 4 = nI (tk T n p).2.1) ∧ μ 48 5 = nI (tk T n p).2.2.1 ∧ μ 48 6 = nI (tk T n p).2.2.2
theorem rd_isDigit {T : Nat → Nat} {i : Nat} (hc : T i < 256) (μ : Mu) : Rd_isDigit (nI (T i)) μ = some (if dgt T i = true then 1 else 0, μ) := by
  unfold Rd_isDigit dgt
  simp only [decide_eq_true_eq]
  by_cases h1 : T i < 48
  · rw [if_pos (show nI (T i) < (48 : Int32) from nI_lt (b := 48) h1 (by omega)), if_neg (by omega)]
  rw [if_neg (show ¬ nI (T i) < (48 : Int32) from nI_nlt (b := 48) (by omega) (by omega))]
  by_cases h2 : 57 < T i
  · rw [if_pos (show (57 : Int32) < nI (T i) from nI_lt (a := 57) h2 (by omega)), if_neg (by omega)]
  · rw [if_neg (show ¬ (57 : Int32) < nI (T i) from nI_nlt (a := 57) (by omega) (by omega)), if_pos (by omega)]
theorem rd_isLetter {T : Nat → Nat} {i : Nat} (hc : T i < 256) (μ : Mu) : Rd_isLetter (nI (T i)) μ = some (if ltr T i = true then 1 else 0, μ) := by
  unfold Rd_isLetter Rd_isLetter_12 Rd_isLetter_24 ltr
  simp only [decide_eq_true_eq]
  by_cases h1 : T i < 97
  · rw [if_pos (show nI (T i) < (97 : Int32) from nI_lt (b := 97) h1 (by omega))]
    by_cases h2 : T i < 65
    · rw [if_pos (show nI (T i) < (65 : Int32) from nI_lt (b := 65) h2 (by omega)), if_neg (by omega)]
    rw [if_neg (show ¬ nI (T i) < (65 : Int32) from nI_nlt (b := 65) (by omega) (by omega))]
    by_cases h3 : 90 < T i
    · rw [if_pos (show (90 : Int32) < nI (T i) from nI_lt (a := 90) h3 (by omega)), if_neg (by omega)]
    · rw [if_neg (show ¬ (90 : Int32) < nI (T i) from nI_nlt (a := 90) (by omega) (by omega)), if_pos (by omega)]
  rw [if_neg (show ¬ nI (T i) < (97 : Int32) from nI_nlt (b := 97) (by omega) (by omega))]
  by_cases h2 : T i ≤ 122
  · rw [if_pos (show nI (T i) ≤ (122 : Int32) from nI_le (b := 122) h2 (by omega)), if_pos (by omega)]
  rw [if_neg (show ¬ nI (T i) ≤ (122 : Int32) from nI_ge (a := 122) (by omega) (by omega)), if_neg (show ¬ nI (T i) < (65 : Int32) from nI_nlt (b := 65) (by omega) (by omega)), if_pos (show (90 : Int32) < nI (T i) from nI_lt (a := 90) (by omega) (by omega)), if_neg (by omega)]
/-! the signs -/
theorem js_lat (si : Nat) (μ : Mu) : Js_isLatin1 si μ = some (1, μ) := by
  unfold Js_isLatin1
  rw [if_neg (by decide), if_pos rfl]
theorem js_len0 (μ : Mu) : Js_length 0 μ = some (nI 131, μ) := by
  have h : jshr (Int32.ofNat (Zlen.getD 0 0)) 0 = nI 131 := by decide +kernel
  unfold Js_length Js_coder
  rw [if_neg (by decide), cl_eq, h]
theorem js_len1 (μ : Mu) : Js_length 1 μ = some (nI 10, μ) := by
  have h : jshr (Int32.ofNat (Zlen.getD 1 0)) 0 = nI 10 := by decide +kernel
  unfold Js_length Js_coder
  rw [if_neg (by decide), cl_eq, h]
theorem ioc_mu (bi : Nat) (v3 v4 : Int32) : ∀ (fu : Nat) (v5 : Int32) (μ : Mu), Jl_indexOfChar_7 bi v3 v4 fu v5 μ = (Jl_indexOfChar_7 bi v3 v4 fu v5 μ00).map (fun q => (q.1, μ)) := by
  intro fu
  induction fu with
  | zero => intros; rfl
  | succ m ih =>
    intro v5 μ
    show Jl_indexOfChar_7b bi (Jl_indexOfChar_7 bi v3 v4 m) v3 v4 v5 μ = (Jl_indexOfChar_7b bi (Jl_indexOfChar_7 bi v3 v4 m) v3 v4 v5 μ00).map (fun q => (q.1, μ))
    unfold Jl_indexOfChar_7b ldZ
    by_cases c1 : v3 ≤ v5
    · rw [if_pos c1, if_pos c1]; rfl
    rw [if_neg c1, if_neg c1]
    by_cases c2 : inB v5 (Zbyt.getD bi []).length = true
    · rw [if_pos c2, if_pos c2]
      show (if (Zbyt.getD bi []).getD v5.toNatClampNeg 0 = v4 then some (v5, μ) else Jl_indexOfChar_7 bi v3 v4 m (v5 + 1) μ) = Option.map (fun q => (q.1, μ)) (if (Zbyt.getD bi []).getD v5.toNatClampNeg 0 = v4 then some (v5, μ00) else Jl_indexOfChar_7 bi v3 v4 m (v5 + 1) μ00)
      by_cases c3 : (Zbyt.getD bi []).getD v5.toNatClampNeg 0 = v4
      · rw [if_pos c3, if_pos c3]; rfl
      · rw [if_neg c3, if_neg c3]; exact ih _ _
    · rw [if_neg c2, if_neg c2]; rfl
theorem jl_idx_mu (v : Int32) (μ : Mu) : Jl_indexOf 1 v 0 (nI 10) μ = (Jl_indexOf 1 v 0 (nI 10) μ00).map (fun q => (q.1, μ)) := by
  unfold Jl_indexOf Jl_canEncode Jl_indexOfChar
  by_cases c1 : v < 0
  · simp only [if_pos c1, cl_eq]; rfl
  by_cases c2 : 255 < v
  · simp only [if_neg c1, if_pos c2, cl_eq]; rfl
  simp only [if_neg c1, if_neg c2, cl_eq]
  rw [if_neg (show ¬ (1 : Int32) = 0 by decide), if_neg (show ¬ (1 : Int32) = 0 by decide)]
  by_cases c3 : jmax 0 0 < jmin (nI 10) (Int32.ofNat (Zlen.getD 1 0))
  · rw [if_pos c3, if_pos c3, ioc_mu 1 _ _ FU _ μ]
    cases Jl_indexOfChar_7 1 (jmin (nI 10) (Int32.ofNat (Zlen.getD 1 0))) (ji2b v) FU (jmax 0 0) μ00 with
    | none => rfl
    | some q => rfl
  · rw [if_neg c3, if_neg c3]; rfl
theorem js_idx0 : ∀ c, c < 256 → (match Jl_indexOf 1 (ji2c (nI c)) 0 (nI 10) μ00 with | some q => decide (q.1 < 0) == decide (c ∉ sgL) | none => false) = true := by decide +kernel
theorem js_idx {c : Nat} (hc : c < 256) (μ : Mu) : ∃ r, Js_indexOf1 1 (ji2c (nI c)) μ = some (r, μ) ∧ (r < 0 ↔ c ∉ sgL) := by
  have h0 := js_idx0 c hc
  have h1 := jl_idx_mu (ji2c (nI c)) μ
  unfold Js_indexOf1 Js_indexOf2
  rw [js_lat, cl_eq, if_neg (by decide), js_len1, cl_eq, h1]
  cases hq : Jl_indexOf 1 (ji2c (nI c)) 0 (nI 10) μ00 with
  | none => rw [hq] at h0; cases h0
  | some q =>
    rw [hq] at h0
    refine ⟨q.1, rfl, ?_⟩
    simp only [beq_iff_eq, decide_eq_decide] at h0
    exact h0
theorem ji2c_nI {c : Nat} (hc : c < 65536) : ji2c (nI c) = nI c := by
  unfold ji2c
  rw [pk_char, pk_tn (by omega), Nat.mod_eq_of_lt hc]
/-! keywords -/
def KB : List Nat := flatW KW
theorem KB_len : KB.length = 131 := by decide +kernel
theorem kb_chr : ∀ k, k < 131 → inB (nI k) (Zbyt.getD 0 []).length = true ∧ ji2c ((Zbyt.getD 0 []).getD (nI k).toNatClampNeg 0 &&& 255) = nI (KB.getD k 0) ∧ KB.getD k 0 < 128 := by decide +kernel
theorem js_chr {k : Nat} (hk : k < 131) (μ : Mu) : Js_charAt 0 (nI k) μ = some (nI (KB.getD k 0), μ) := by
  obtain ⟨h1, h2, h3⟩ := kb_chr k hk
  have hz : ¬ nI (KB.getD k 0) < 0 ∧ (nI (KB.getD k 0)).toNatClampNeg < 65536 := ⟨nI_pos (by omega), by rw [nI_clamp (by omega)]; omega⟩
  unfold Js_charAt Jl_charAt Js_checkIndex Jp_checkIndex
  rw [js_lat, cl_eq, if_neg (by decide), if_neg (nI_pos (by omega)), if_pos (show nI k < Int32.ofNat (Zlen.getD 0 0) from nI_lt (b := 131) hk (by omega)), cl_eq, cl_eq]
  unfold ldZ zgc
  simp only [if_pos h1, h2, if_pos hz, cl_eq]
def kwS (T : Nat → Nat) (f e : Nat) : List Nat → Nat → Nat → Bool → Nat
  | [], _, _, _ => 31
  | c :: r, tok, i, al => if c = 32 then (if al = true ∧ i = e then tok else kwS T f e r (tok + 1) f true) else kwS T f e r tok (i + 1) (al && decide (i < e) && decide (T i = c))
theorem kwS_cons (T : Nat → Nat) (f e c : Nat) (r : List Nat) (tok i : Nat) (al : Bool) : kwS T f e (c :: r) tok i al = if c = 32 then (if al = true ∧ i = e then tok else kwS T f e r (tok + 1) f true) else kwS T f e r tok (i + 1) (al && decide (i < e) && decide (T i = c)) := rfl
theorem kwS_word (T : Nat → Nat) (f e : Nat) (r : List Nat) (tok : Nat) : ∀ (w : List Nat) (i : Nat) (al : Bool), (∀ c, c ∈ w → c ≠ 32) → (al = true → i ≤ e) → kwS T f e (w ++ 32 :: r) tok i al = if al = true ∧ w = seg T i (e - i) then tok else kwS T f e r (tok + 1) f true := by
  intro w
  induction w with
  | nil =>
    intro i al _ hi
    show kwS T f e (32 :: r) tok i al = _
    rw [kwS_cons, if_pos rfl]
    by_cases c : al = true ∧ i = e
    · rw [if_pos c, if_pos ⟨c.1, by rw [c.2, Nat.sub_self]; rfl⟩]
    · rw [if_neg c, if_neg]
      rintro ⟨h1, h2⟩
      have h3 := hi h1
      refine c ⟨h1, ?_⟩
      cases hd : e - i with
      | zero => omega
      | succ m => rw [hd] at h2; cases h2
  | cons c w ih =>
    intro i al hw hi
    show kwS T f e (c :: (w ++ 32 :: r)) tok i al = _
    rw [kwS_cons, if_neg (hw c List.mem_cons_self), ih (i + 1) _ (fun x hx => hw x (List.mem_cons_of_mem _ hx)) (fun h => by
      simp only [Bool.and_eq_true, decide_eq_true_eq] at h; omega)]
    by_cases hie : i < e
    · have hs : seg T i (e - i) = T i :: seg T (i + 1) (e - (i + 1)) := by
        rw [show e - i = (e - (i + 1)) + 1 by omega]; rfl
      rw [hs]
      congr 1
      simp only [Bool.and_eq_true, decide_eq_true_eq, List.cons.injEq, eq_iff_iff]
      constructor
      · rintro ⟨⟨⟨a, _⟩, b⟩, d⟩; exact ⟨a, b.symm, d⟩
      · rintro ⟨a, b, d⟩; exact ⟨⟨⟨a, hie⟩, b.symm⟩, d⟩
    · have hs : seg T i (e - i) = [] := by rw [show e - i = 0 by omega]; rfl
      rw [hs, if_neg, if_neg]
      · rintro ⟨_, z⟩; cases z
      · rintro ⟨z, _⟩; simp only [Bool.and_eq_true, decide_eq_true_eq] at z; omega
theorem kwS_flat (T : Nat → Nat) {f e : Nat} (hf : f ≤ e) : ∀ (ws : List (List Nat)) (tok : Nat), (∀ w, w ∈ ws → ∀ c, c ∈ w → c ≠ 32) → kwS T f e (flatW ws) tok f true = match wrdN (seg T f (e - f)) ws tok with | some k => k | none => 31 := by
  intro ws
  induction ws with
  | nil => intro tok _; rfl
  | cons w r ih =>
    intro tok hw
    have h1 : flatW (w :: r) = w ++ 32 :: flatW r := by simp [flatW]
    rw [h1, kwS_word T f e (flatW r) tok w f true (hw w List.mem_cons_self) (fun _ => hf)]
    unfold wrdN
    by_cases c : w = seg T f (e - f)
    · rw [if_pos ⟨rfl, c⟩, if_pos c]
    · rw [if_neg (fun z => c z.2), if_neg c]
      exact ih (tok + 1) (fun u hu => hw u (List.mem_cons_of_mem _ hu))
theorem kw_no32 : ∀ w, w ∈ KW → ∀ c, c ∈ w → c ≠ 32 := by decide +kernel
theorem rd_kwLoop {T : Nat → Nat} {n : Nat} {μ : Mu} {f e : Nat} (hI : RdI T n μ) (h5 : μ 48 5 = nI f) (h6 : μ 48 6 = nI e) (he : e ≤ n) (hf : f ≤ e) : ∀ (cs : List Nat) (k tok i : Nat) (al : Bool) (fuel : Nat), KB.drop k = cs → k + cs.length = 131 → i ≤ 400 + k → tok ≤ k + 1 → cs.length < fuel → Rd_keyword_12 48 fuel (nI tok) (nI i) (if al = true then 1 else 0) (nI k) μ = some (nI (kwS T f e cs tok i al), μ) := by
  obtain ⟨hn, hT, h2, hb⟩ := id hI
  intro cs
  induction cs with
  | nil =>
    intro k tok i al fuel hd hk hi ht hfu
    obtain ⟨m, rfl⟩ : ∃ m, fuel = m + 1 := ⟨fuel - 1, by omega⟩
    show Rd_keyword_12b 48 (Rd_keyword_12 48 m) _ _ _ _ μ = _
    unfold Rd_keyword_12b
    have hk2 : k = 131 := hk
    rw [js_len0, cl_eq, if_pos (nI_le (by omega) (by omega))]
    rfl
  | cons c r ih =>
    intro k tok i al fuel hd hk hi ht hfu
    obtain ⟨m, rfl⟩ : ∃ m, fuel = m + 1 := ⟨fuel - 1, by omega⟩
    have hk2 : k + (r.length + 1) = 131 := hk
    have hfu2 : r.length + 1 < m + 1 := hfu
    have hk1 : k < 131 := by omega
    have hd2 := hd
    rw [drop_at 0 (by rw [KB_len]; exact hk1)] at hd2
    injection hd2 with hc hr
    have h128 := (kb_chr k hk1).2.2
    rw [hc] at h128
    show Rd_keyword_12b 48 (Rd_keyword_12 48 m) _ _ _ _ μ = _
    unfold Rd_keyword_12b
    simp only [Nat.reduceAdd]
    rw [js_len0, cl_eq, if_neg (nI_ge hk1 (by omega)), js_chr hk1, cl_eq, hc, kwS_cons]
    by_cases hs : c = 32
    · rw [if_pos (show nI c = 32 by rw [hs]; rfl), if_pos hs]
      have next : Rd_keyword_94 48 (Rd_keyword_12 48 m) (nI tok) (nI k) μ = some (nI (kwS T f e r (tok + 1) f true), μ) := by
        unfold Rd_keyword_94 Rd_keyword_104
        rw [gF_eq, h5, nI_1, nI_1]
        exact ih (k + 1) (tok + 1) f true m hr (by omega) (by omega) (by omega) (by omega)
      cases al with
      | false => rw [if_pos (show (if false = true then (1 : Int32) else 0) = 0 from rfl), if_neg (fun z => by cases z.1)]; exact next
      | true =>
        rw [if_neg (by decide), gF_eq, h6]
        by_cases hie : i = e
        · rw [if_pos (by rw [hie]), if_pos ⟨rfl, hie⟩]
        · rw [if_neg (fun z => hie ((nI_eq (by omega) (by omega)).mp z)), if_neg (fun z => hie z.2)]; exact next
    · rw [if_neg (fun z : nI c = 32 => hs ((nI_eq (b := 32) (by omega) (by omega)).mp z)), if_neg hs]
      have nx : ∀ (b : Bool), Rd_keyword_73 48 (Rd_keyword_12 48 m) (nI tok) (nI i) (nI k) (if b = true then 1 else 0) μ = some (nI (kwS T f e r tok (i + 1) b), μ) := by
        intro b
        unfold Rd_keyword_73 Rd_keyword_104
        rw [nI_1, nI_1]
        exact ih (k + 1) tok (i + 1) b m hr (by omega) (by omega) (by omega) (by omega)
      have nx0 : Rd_keyword_72 48 (Rd_keyword_12 48 m) (nI tok) (nI i) (nI k) μ = some (nI (kwS T f e r tok (i + 1) false), μ) := nx false
      cases al with
      | false => rw [if_pos (show (if false = true then (1 : Int32) else 0) = 0 from rfl)]; exact nx0
      | true =>
        rw [if_neg (by decide), gF_eq, h6]
        by_cases hie : i < e
        · rw [if_neg (nI_ge hie (by omega)), if_neg (show ¬ (400 : Int32) ≤ nI i from nI_ge (b := 400) (by omega) (by omega)), ldA_nI (by omega) (by omega), hb i (by omega)]
          have hTi := hT i (by omega)
          by_cases hx : T i = c
          · rw [if_pos (by rw [hx]), show (true && decide (i < e) && decide (T i = c)) = true by simp [hie, hx]]; exact nx true
          · rw [if_neg (fun z => hx ((nI_eq (by omega) (by omega)).mp z)), show (true && decide (i < e) && decide (T i = c)) = false by simp [hx]]; exact nx0
        · rw [if_pos (nI_le (by omega) (by omega)), show (true && decide (i < e) && decide (T i = c)) = false by simp [hie]]; exact nx0
theorem rd_keyword {T : Nat → Nat} {n : Nat} {μ : Mu} {f e : Nat} (hI : RdI T n μ) (h5 : μ 48 5 = nI f) (h6 : μ 48 6 = nI e) (he : e ≤ n) (hf : f ≤ e) : Rd_keyword 48 μ = some (nI (kwN T f e), μ) := by
  have hn := hI.1
  have h1 := rd_kwLoop hI h5 h6 he hf KB 0 1 f true FU rfl (by rw [KB_len]) (by omega) (by omega) (by rw [KB_len]; unfold FU; omega)
  unfold Rd_keyword
  rw [gF_eq, h5]
  have h2 : kwS T f e KB 1 f true = kwN T f e := kwS_flat T hf KW 1 kw_no32
  rw [h2] at h1
  exact h1
/-! the token -/
theorem rd_blanks {T : Nat → Nat} {n p : Nat} {μ : Mu} {Q : Unit → Mu → Prop} (hI : RdI T n μ) (hp : p ≤ n) (h6 : μ 48 6 = nI p) (hk : ∀ μ1, FrT μ μ1 → μ1 48 5 = nI (tkF T n p) → Ev (Rd_next_60 48 μ1) Q) : Ev (Rd_next 48 μ) Q := by
  have hf2 : tkF T n p ≤ n := rE_le hp
  have hn := hI.1
  unfold Rd_next Rd_next_8
  rw [gF_eq, pF_eq, h6]
  refine lp_fu (F := fun kb => Rd_next_8b 48 kb) (z := fun _ => none) (tkF T n p) (fun k A => p ≤ k → ∀ μ1, FrT μ μ1 → μ1 48 5 = nI k → Ev (A μ1) Q) (by omega) ?_ ?_ p (rE_ge _ _ _) (Nat.le_refl _) _ (frT_up (frT_refl μ) (by decide)) (up2_same _ _ _ _)
  · intro A _ μ1 hF h5
    obtain ⟨_, hT, h2, hb⟩ := rdI_fr hF hI
    show Ev (Rd_next_8b 48 A μ1) _
    unfold Rd_next_8b
    simp only [Nat.reduceAdd]
    rw [gF_eq, gF_eq, h5, h2]
    by_cases hnf : n ≤ tkF T n p
    · rw [if_pos (nI_le hnf (by omega))]; exact hk μ1 hF h5
    · have he : blk T (tkF T n p) = false := rE_end (show rE (blk T) n p < n from Nat.not_le.mp hnf)
      have hTi := hT (tkF T n p) (by omega)
      simp only [blk, decide_eq_false_iff_not, not_or] at he
      rw [if_neg (nI_ge (by omega) (by omega)), gF_eq, h5, ldA_nI (by omega) (by omega), hb _ (by omega), if_neg (fun z : nI (T (tkF T n p)) = 32 => he.1 ((nI_eq (b := 32) (by omega) (by omega)).mp z)), gF_eq, h5, ldA_nI (by omega) (by omega), hb _ (by omega), if_neg (fun z : nI (T (tkF T n p)) = 10 => he.2 ((nI_eq (b := 10) (by omega) (by omega)).mp z))]
      exact hk μ1 hF h5
  · intro k A hkf ih hpk μ1 hF h5
    obtain ⟨_, hT, h2, hb⟩ := rdI_fr hF hI
    have hbl : blk T k = true := rE_in hpk hkf
    have hTi := hT k (by omega)
    simp only [blk, decide_eq_true_eq] at hbl
    have go : Ev (Rd_next_47 48 A μ1) Q := by
      unfold Rd_next_47
      rw [gF_eq, pF_eq, h5]
      exact ih (by omega) _ (frT_up hF (by decide)) (by rw [up2_same, nI_1])
    show Ev (Rd_next_8b 48 A μ1) _
    unfold Rd_next_8b
    simp only [Nat.reduceAdd]
    rw [gF_eq, gF_eq, h5, h2, if_neg (nI_ge (by omega) (by omega)), gF_eq, h5, ldA_nI (by omega) (by omega), hb _ (by omega)]
    by_cases c1 : T k = 32
    · rw [if_pos (show nI (T k) = 32 by rw [c1]; rfl)]; exact go
    · have c2 : T k = 10 := by omega
      rw [if_neg (fun z : nI (T k) = 32 => c1 ((nI_eq (b := 32) (by omega) (by omega)).mp z)), gF_eq, h5, ldA_nI (by omega) (by omega), hb _ (by omega), if_pos (show nI (T k) = 10 by rw [c2]; rfl)]
      exact go
theorem rd_next {T : Nat → Nat} {n p : Nat} {μ : Mu} (hI : RdI T n μ) (hp : p ≤ n) (h6 : μ 48 6 = nI p) (h8 : μ 48 8 = 0) : Ev (Rd_next 48 μ) (fun _ μ' => TokC T n p μ' ∧ FrT μ μ') := by
  have hn := hI.1
  have hf2 : tkF T n p ≤ n := rE_le hp
  refine rd_blanks hI hp h6 (fun μ1 hF h5 => ?_)
  unfold Rd_next_60
  simp only [Nat.reduceAdd]
  rw [gF_eq, pF_eq, h5]
  have hF2 : FrT μ (up2 μ1 48 6 (nI (tkF T n p))) := frT_up hF (by decide)
  have k5 : up2 μ1 48 6 (nI (tkF T n p)) 48 5 = nI (tkF T n p) := by rw [up2_off (Or.inr (by decide)), h5]
  have k6 : up2 μ1 48 6 (nI (tkF T n p)) 48 6 = nI (tkF T n p) := up2_same _ _ _ _
  generalize up2 μ1 48 6 (nI (tkF T n p)) = μ2 at hF2 k5 k6 ⊢
  obtain ⟨_, hT, h2, hb⟩ := rdI_fr hF2 hI
  have k8 : μ2 48 8 = 0 := (hF2.2 8 (by decide)).trans h8
  rw [gF_eq, gF_eq, k5, h2]
  by_cases hnf : n ≤ tkF T n p
  · rw [if_pos (nI_le hnf (by omega))]
    unfold Rd_next_86
    rw [pF_eq]
    refine ev_some ⟨?_, frT_up hF2 (by decide)⟩
    unfold TokC
    rw [tk_end hnf]
    have e : tkF T n p = n := by omega
    rw [e] at k5 k6
    exact ⟨up2_same _ _ _ _, fun z => (by cases z), by rw [up2_off (Or.inr (by decide))]; exact k5, by rw [up2_off (Or.inr (by decide))]; exact k6⟩
  have hTf := hT (tkF T n p) (by omega)
  rw [if_neg (nI_ge (by omega) (by omega)), gF_eq, k8, if_pos rfl, gF_eq, k5, ldA_nI (by omega) (by omega), hb _ (by omega), gF_eq, k6, pF_eq, nI_1]
  have hF3 : FrT μ (up2 μ2 48 6 (nI (tkF T n p + 1))) := frT_up hF2 (by decide)
  have m5 : up2 μ2 48 6 (nI (tkF T n p + 1)) 48 5 = nI (tkF T n p) := by rw [up2_off (Or.inr (by decide)), k5]
  have m6 : up2 μ2 48 6 (nI (tkF T n p + 1)) 48 6 = nI (tkF T n p + 1) := up2_same _ _ _ _
  generalize up2 μ2 48 6 (nI (tkF T n p + 1)) = μ3 at hF3 m5 m6 ⊢
  rw [rd_isDigit hTf, cl_eq]
  have htk : tk T n p = if dgt T (tkF T n p) = true then (if rE (dgt T) n (tkF T n p + 1) - tkF T n p ≤ 4 then 30 else 31, valD T (tkF T n p) (rE (dgt T) n (tkF T n p + 1) - tkF T n p), tkF T n p, rE (dgt T) n (tkF T n p + 1))
    else if ltr T (tkF T n p) = true then (kwN T (tkF T n p) (rE (ltr T) n (tkF T n p + 1)), 0, tkF T n p, rE (ltr T) n (tkF T n p + 1))
    else (if T (tkF T n p) ∈ sgL then T (tkF T n p) else 31, 0, tkF T n p, tkF T n p + 1) := if_neg hnf
  unfold TokC
  rw [htk]
  generalize tkF T n p = f at *
  by_cases hd : dgt T f = true
  · rw [if_pos hd, if_neg (by decide), if_pos hd, pF_eq]
    have hdd := hd
    simp only [dgt, decide_eq_true_eq] at hdd
    have he := rE_le (c := dgt T) (show f + 1 ≤ n by omega)
    have hge := rE_ge (dgt T) n (f + 1)
    unfold Rd_next_127
    refine lp_fu (F := fun kb => Rd_next_127b 48 kb) (z := fun _ => none) (rE (dgt T) n (f + 1)) (fun k A => f + 1 ≤ k → ∀ μ4, FrT μ μ4 → μ4 48 5 = nI f → μ4 48 6 = nI k → μ4 48 4 = nI (valD T f (k - f)) → Ev (A μ4) _) (by omega) ?_ ?_ (f + 1) hge (Nat.le_refl _) _ (frT_up hF3 (by decide)) (by rw [up2_off (Or.inr (by decide)), m5]) (by rw [up2_off (Or.inr (by decide)), m6]) ?_
    · intro A hk μ4 hF4 n5 n6 n4
      obtain ⟨_, hT4, q2, qb⟩ := rdI_fr hF4 hI
      have fin : Ev (Rd_next_190 48 μ4) (fun _ μ' => (μ' 48 3 = nI (if rE (dgt T) n (f + 1) - f ≤ 4 then 30 else 31) ∧ ((if rE (dgt T) n (f + 1) - f ≤ 4 then 30 else 31) = 30 → μ' 48 4 = nI (valD T f (rE (dgt T) n (f + 1) - f))) ∧ μ' 48 5 = nI f ∧ μ' 48 6 = nI (rE (dgt T) n (f + 1))) ∧ FrT μ μ') := by
        unfold Rd_next_190 Rd_next_211
        rw [gF_eq, gF_eq, n5, n6, pk_sub (by omega)]
        by_cases c4 : rE (dgt T) n (f + 1) - f ≤ 4
        · rw [if_pos (show nI (rE (dgt T) n (f + 1) - f) ≤ (4 : Int32) from nI_le (b := 4) c4 (by omega)), if_pos c4, pF_eq]
          exact ev_some ⟨⟨up2_same _ _ _ _, fun _ => by rw [up2_off (Or.inr (by decide))]; exact n4, by rw [up2_off (Or.inr (by decide))]; exact n5, by rw [up2_off (Or.inr (by decide))]; exact n6⟩, frT_up hF4 (by decide)⟩
        · rw [if_neg (show ¬ nI (rE (dgt T) n (f + 1) - f) ≤ (4 : Int32) from nI_ge (a := 4) (by omega) (by omega)), if_neg c4, pF_eq]
          exact ev_some ⟨⟨up2_same _ _ _ _, fun z => (by cases z), by rw [up2_off (Or.inr (by decide))]; exact n5, by rw [up2_off (Or.inr (by decide))]; exact n6⟩, frT_up hF4 (by decide)⟩
      show Ev (Rd_next_127b 48 A μ4) _
      unfold Rd_next_127b
      simp only [Nat.reduceAdd]
      rw [gF_eq, gF_eq, n6, q2]
      by_cases hne : n ≤ rE (dgt T) n (f + 1)
      · rw [if_pos (nI_le hne (by omega))]; exact fin
      · have hend := rE_end (c := dgt T) (n := n) (p := f + 1) (by omega)
        rw [if_neg (nI_ge (by omega) (by omega)), gF_eq, n6, ldA_nI (by omega) (by omega), qb _ (by omega), rd_isDigit (hT4 _ (by omega)), cl_eq, hend, if_pos (show (if false = true then (1 : Int32) else 0) = 0 from rfl)]; exact fin
    · intro k A hke ih hk μ4 hF4 n5 n6 n4
      obtain ⟨_, hT4, q2, qb⟩ := rdI_fr hF4 hI
      have hin : dgt T k = true := rE_in hk hke
      have hii := hin
      simp only [dgt, decide_eq_true_eq] at hii
      show Ev (Rd_next_127b 48 A μ4) _
      unfold Rd_next_127b
      simp only [Nat.reduceAdd]
      rw [gF_eq, gF_eq, n6, q2, if_neg (nI_ge (by omega) (by omega)), gF_eq, n6, ldA_nI (by omega) (by omega), qb _ (by omega), rd_isDigit (hT4 _ (by omega)), cl_eq, if_pos hin, if_neg (by decide), gF_eq, gF_eq, n6, n4, ldA_nI (by omega) (by omega), qb _ (by omega), pF_eq, gF_eq, up2_off (Or.inr (by decide)), n6, pF_eq, nI_1]
      refine ih (by omega) _ (frT_up (frT_up hF4 (by decide)) (by decide)) (by rw [up2_off (Or.inr (by decide)), up2_off (Or.inr (by decide)), n5]) (up2_same _ _ _ _) ?_
      rw [up2_off (Or.inr (by decide)), up2_same]
      show nI (valD T f (k - f)) * nI 10 + nI (T k) - nI 48 = _
      rw [pk_mul, nI_add, pk_sub (by omega), show k + 1 - f = (k - f) + 1 by omega]
      show _ = nI (10 * valD T f (k - f) + (T (f + (k - f)) - 48))
      rw [show f + (k - f) = k by omega]
      congr 1; omega
    · rw [up2_same, show f + 1 - f = 1 by omega]
      show nI (T f) - nI 48 = nI (10 * 0 + (T (f + 0) - 48))
      rw [pk_sub (by omega)]; simp
  rw [if_neg hd, if_pos rfl, if_neg hd, rd_isLetter hTf, cl_eq]
  by_cases hl : ltr T f = true
  · rw [if_pos hl, if_neg (by decide), if_pos hl]
    have he := rE_le (c := ltr T) (show f + 1 ≤ n by omega)
    have hge := rE_ge (ltr T) n (f + 1)
    unfold Rd_next_224
    refine lp_fu (F := fun kb => Rd_next_224b 48 kb) (z := fun _ => none) (rE (ltr T) n (f + 1)) (fun k A => f + 1 ≤ k → ∀ μ4, FrT μ μ4 → μ4 48 5 = nI f → μ4 48 6 = nI k → Ev (A μ4) _) (by omega) ?_ ?_ (f + 1) hge (Nat.le_refl _) _ hF3 m5 m6
    · intro A hk μ4 hF4 n5 n6
      obtain ⟨_, hT4, q2, qb⟩ := rdI_fr hF4 hI
      have fin : Ev (Rd_next_263 48 μ4) (fun _ μ' => (μ' 48 3 = nI (kwN T f (rE (ltr T) n (f + 1))) ∧ (kwN T f (rE (ltr T) n (f + 1)) = 30 → μ' 48 4 = nI 0) ∧ μ' 48 5 = nI f ∧ μ' 48 6 = nI (rE (ltr T) n (f + 1))) ∧ FrT μ μ') := by
        unfold Rd_next_263
        rw [rd_keyword (rdI_fr hF4 hI) n5 n6 he (by omega), cl_eq, pF_eq]
        refine ev_some ⟨⟨up2_same _ _ _ _, fun z => ?_, by rw [up2_off (Or.inr (by decide))]; exact n5, by rw [up2_off (Or.inr (by decide))]; exact n6⟩, frT_up hF4 (by decide)⟩
        have := kwN_rng T f (rE (ltr T) n (f + 1))
        omega
      show Ev (Rd_next_224b 48 A μ4) _
      unfold Rd_next_224b
      simp only [Nat.reduceAdd]
      rw [gF_eq, gF_eq, n6, q2]
      by_cases hne : n ≤ rE (ltr T) n (f + 1)
      · rw [if_pos (nI_le hne (by omega))]; exact fin
      · have hend := rE_end (c := ltr T) (n := n) (p := f + 1) (by omega)
        rw [if_neg (nI_ge (by omega) (by omega)), gF_eq, n6, ldA_nI (by omega) (by omega), qb _ (by omega), rd_isLetter (hT4 _ (by omega)), cl_eq, hend, if_pos (show (if false = true then (1 : Int32) else 0) = 0 from rfl)]; exact fin
    · intro k A hke ih hk μ4 hF4 n5 n6
      obtain ⟨_, hT4, q2, qb⟩ := rdI_fr hF4 hI
      have hin : ltr T k = true := rE_in hk hke
      show Ev (Rd_next_224b 48 A μ4) _
      unfold Rd_next_224b
      simp only [Nat.reduceAdd]
      rw [gF_eq, gF_eq, n6, q2, if_neg (nI_ge (by omega) (by omega)), gF_eq, n6, ldA_nI (by omega) (by omega), qb _ (by omega), rd_isLetter (hT4 _ (by omega)), cl_eq, if_pos hin, if_neg (by decide), gF_eq, n6, pF_eq, nI_1]
      exact ih (by omega) _ (frT_up hF4 (by decide)) (by rw [up2_off (Or.inr (by decide)), n5]) (up2_same _ _ _ _)
  rw [if_neg hl, if_pos rfl, if_neg hl]
  obtain ⟨r, hr, hr2⟩ := js_idx hTf μ3
  rw [hr, cl_eq]
  unfold Rd_next_291
  by_cases hs : T f ∈ sgL
  · rw [if_neg (fun z => hr2.mp z hs), if_pos hs, pF_eq]
    have key : ∀ c : Nat, c ∈ sgL → c ≠ 30 := by decide
    exact ev_some ⟨⟨up2_same _ _ _ _, fun z => absurd z (key _ hs), by rw [up2_off (Or.inr (by decide))]; exact m5, by rw [up2_off (Or.inr (by decide))]; exact m6⟩, frT_up hF3 (by decide)⟩
  · rw [if_pos (hr2.mpr hs), if_neg hs, pF_eq]
    exact ev_some ⟨⟨up2_same _ _ _ _, fun z => (by cases z), by rw [up2_off (Or.inr (by decide))]; exact m5, by rw [up2_off (Or.inr (by decide))]; exact m6⟩, frT_up hF3 (by decide)⟩
/-- behind a fault there is no token -/
theorem rd_next_bad {T : Nat → Nat} {n p : Nat} {μ : Mu} (hI : RdI T n μ) (hp : p ≤ n) (h6 : μ 48 6 = nI p) (h8 : μ 48 8 ≠ 0) : Ev (Rd_next 48 μ) (fun _ μ' => μ' 48 3 = 0 ∧ (∃ q, q ≤ n ∧ μ' 48 6 = nI q) ∧ FrT μ μ') := by
  have hn := hI.1
  have hf2 : tkF T n p ≤ n := rE_le hp
  refine rd_blanks hI hp h6 (fun μ1 hF h5 => ?_)
  unfold Rd_next_60
  simp only [Nat.reduceAdd]
  rw [gF_eq, pF_eq, h5]
  have hF2 : FrT μ (up2 μ1 48 6 (nI (tkF T n p))) := frT_up hF (by decide)
  have k5 : up2 μ1 48 6 (nI (tkF T n p)) 48 5 = nI (tkF T n p) := by rw [up2_off (Or.inr (by decide)), h5]
  have k6 : up2 μ1 48 6 (nI (tkF T n p)) 48 6 = nI (tkF T n p) := up2_same _ _ _ _
  generalize up2 μ1 48 6 (nI (tkF T n p)) = μ2 at hF2 k5 k6 ⊢
  obtain ⟨_, hT, h2, hb⟩ := rdI_fr hF2 hI
  have k8 : μ2 48 8 ≠ 0 := by rw [hF2.2 8 (by decide)]; exact h8
  have fin : Ev (Rd_next_86 48 μ2) (fun _ μ' => μ' 48 3 = 0 ∧ (∃ q, q ≤ n ∧ μ' 48 6 = nI q) ∧ FrT μ μ') := by
    unfold Rd_next_86
    rw [pF_eq]
    exact ev_some ⟨up2_same _ _ _ _, ⟨_, hf2, by rw [up2_off (Or.inr (by decide))]; exact k6⟩, frT_up hF2 (by decide)⟩
  rw [gF_eq, gF_eq, k5, h2]
  by_cases hnf : n ≤ tkF T n p
  · rw [if_pos (nI_le hnf (by omega))]; exact fin
  · rw [if_neg (nI_ge (by omega) (by omega)), gF_eq, if_neg k8]; exact fin
