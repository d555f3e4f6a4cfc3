/-! L3: WORDS OF A PERSON, both sides -/
def hcS (H : Nat → Int32) (n p : Nat) : Nat := fb_ct (fun q => decide (H q = nI (p + 1))) n
def besN (P : Nat) (N : Nat → Int32) (p : Nat) : Int32 := if N (102 + p) = 0 then -1 else whoN P N (N (102 + p)).toNatClampNeg
def wS (P : Nat) (N H : Nat → Int32) (p k : Nat) : Int32 := if k < 5 then N (6 + 16 * k + p) else if k = 5 then N (102 + p) - 1 else if k = 6 then N 3 else if k = 7 then (if besN P N p = -1 then 0 else N (22 + (besN P N p).toNatClampNeg)) else if k = 8 then nI (hcS H 16 p) else N 0
def HOk (P : Nat) (H : Nat → Int32) : Prop := ∀ q, q < 16 → H q = 0 ∨ (q < P ∧ ∃ h, h < P ∧ H q = nI (h + 1))
def HeirC (μ : Mu) (H : Nat → Int32) : Prop := ∀ q, q < 16 → μ 15 q = H q - 1 ∧ μ 16 q = nI (hcS H 16 q)
def CR (c : Nat) : List Nat := [c, c + 1, c + 2, 5, 13, 40, 41]
def RD : List Nat := [60, 63, 78, 79, 80]
def CtxC (P c : Nat) (th : Int32) (μ : Mu) (S : (Nat → Int32) × (Nat → Int32)) (L : List (Nat × List (Nat × Nat) × List (Nat × Nat))) (H : Nat → Int32) : Prop := FigC P c th μ S.1 ∧ (∀ k, k < 600 → μ 5 k = S.2 k) ∧ LawC 7 μ L ∧ HeirC μ H ∧ (c = 2 ∨ c = 42)
def CtxM (P : Nat) (th : Int32) (μ : Mu) (S : (Nat → Int32) × (Nat → Int32)) (L : List (Nat × List (Nat × Nat) × List (Nat × Nat))) (H : Nat → Int32) : Prop := μ 60 = S.1 ∧ μ 63 = S.2 ∧ μ 59 5 = th ∧ μ 59 6 = nI P ∧ LawM μ L ∧ (∀ k, k < 16 → μ 77 k = H k)
def SpOk (P : Nat) (N : Nat → Int32) (L : List (Nat × List (Nat × Nat) × List (Nat × Nat))) (H : Nat → Int32) : Prop := NOk P N ∧ LwOk L ∧ HOk P H
theorem lawC_off {a : Nat} {μ μ' : Mu} {L : List (Nat × List (Nat × Nat) × List (Nat × Nat))} (h : ∀ k, a ≤ k → k ≤ a + 5 → μ' k = μ k) (hL : LawC a μ L) : LawC a μ' L := by
  unfold LawC at *
  rw [h a (by omega) (by omega), h (a + 1) (by omega) (by omega), h (a + 2) (by omega) (by omega), h (a + 3) (by omega) (by omega), h (a + 4) (by omega) (by omega), h (a + 5) (by omega) (by omega)]
  exact hL
theorem lawM_off {μ μ' : Mu} {L : List (Nat × List (Nat × Nat) × List (Nat × Nat))} (h : ∀ k, 66 ≤ k → k ≤ 72 → μ' k = μ k) (hL : LawM μ L) : LawM μ' L := by
  unfold LawM at *
  rw [h 66 (by omega) (by omega), h 67 (by omega) (by omega), h 68 (by omega) (by omega), h 69 (by omega) (by omega), h 70 (by omega) (by omega), h 71 (by omega) (by omega), h 72 (by omega) (by omega)]
  exact hL
/-- a class's context on a new figures' row and book -/
theorem ctxC_of {P c : Nat} {th : Int32} {μ μ' : Mu} {S S' : (Nat → Int32) × (Nat → Int32)} {L : List (Nat × List (Nat × Nat) × List (Nat × Nat))} {H : Nat → Int32} (h : CtxC P c th μ S L H) (h1 : FigC P c th μ' S'.1) (h2 : ∀ k, k < 600 → μ' 5 k = S'.2 k) (h3 : Off (CR c) μ μ') : CtxC P c th μ' S' L H := by
  obtain ⟨-, -, g3, g4, g5⟩ := h
  have ho : ∀ k, k ≠ c → k ≠ c + 1 → k ≠ c + 2 → k ≠ 5 → k ≠ 13 → k ≠ 40 → k ≠ 41 → μ' k = μ k := fun k a1 a2 a3 a4 a5 a6 a7 => h3 k (by unfold CR; simp only [List.mem_cons, List.not_mem_nil, or_false]; omega)
  refine ⟨h1, h2, lawC_off (fun k a b => ho k (by omega) (by omega) (by omega) (by omega) (by omega) (by omega) (by omega)) g3, fun q hq => ?_, g5⟩
  rw [ho 15 (by omega) (by omega) (by omega) (by omega) (by omega) (by omega) (by omega), ho 16 (by omega) (by omega) (by omega) (by omega) (by omega) (by omega) (by omega)]
  exact g4 q hq
theorem ctxM_of {P : Nat} {th : Int32} {μ μ' : Mu} {S S' : (Nat → Int32) × (Nat → Int32)} {L : List (Nat × List (Nat × Nat) × List (Nat × Nat))} {H : Nat → Int32} (h : CtxM P th μ S L H) (h1 : μ' 60 = S'.1) (h2 : μ' 63 = S'.2) (h3 : Off RD μ μ') : CtxM P th μ' S' L H := by
  obtain ⟨-, -, g3, g4, g5, g6⟩ := h
  have ho : ∀ k, k ≠ 60 → k ≠ 63 → k ≠ 78 → k ≠ 79 → k ≠ 80 → μ' k = μ k := fun k a1 a2 a3 a4 a5 => h3 k (by unfold RD; simp only [List.mem_cons, List.not_mem_nil, or_false]; omega)
  refine ⟨h1, h2, by rw [ho 59 (by omega) (by omega) (by omega) (by omega) (by omega)]; exact g3, by rw [ho 59 (by omega) (by omega) (by omega) (by omega) (by omega)]; exact g4, lawM_off (fun k a b => ho k (by omega) (by omega) (by omega) (by omega) (by omega)) g5, fun k hk => ?_⟩
  rw [ho 77 (by omega) (by omega) (by omega) (by omega) (by omega)]; exact g6 k hk
theorem figC_off {P c : Nat} {th : Int32} {μ μ' : Mu} {N : Nat → Int32} {R : List Nat} (hO : Off R μ μ') (h0 : c ∉ R) (h1 : c + 1 ∉ R) (h2 : c + 2 ∉ R) (h : FigC P c th μ N) : FigC P c th μ' N := figC_congr (hO _ h0) (hO _ h1) (hO _ h2) h
theorem besN_eq {P : Nat} {N : Nat → Int32} {p t : Nat} (ht : t ≤ 16) (h : N (102 + p) = nI t) : besN P N p = if t = 0 then -1 else whoN P N t := by
  unfold besN
  rw [h, nI_clamp (by omega)]
  by_cases e : t = 0
  · subst e; rw [if_pos (by decide), if_pos rfl]
  · rw [if_neg (nI_ne0 (by omega) (by omega)), if_neg e]
theorem whoN_16 {P : Nat} {N : Nat → Int32} (h : NOk P N) : whoN P N 16 = -1 := by
  refine whoN_no (fun p hp z => ?_)
  obtain ⟨t, ht, e⟩ := h.2.2.2.1 p hp
  rw [e] at z
  have := (nI_eq (by omega) (by omega)).mp z
  omega
theorem hcS_le (H : Nat → Int32) (n p : Nat) : hcS H n p ≤ n := fb_ct_le _ _
set_option maxHeartbeats 1000000 in
theorem dy_readWords {P c : Nat} {th : Int32} {μ0 : Mu} {N H : Nat → Int32} {p : Nat} (h : FigC P c th μ0 N) (hN : NOk P N) (hH : HeirC μ0 H) (hc : c = 2 ∨ c = 42) (hp : p < P) : Ev (Dy_readWords 39 1 c (nI p) μ0) (fun _ μ' => (∀ k, k < 10 → μ' 40 k = wS P N H p k) ∧ Off [40] μ0 μ') := by
  have hP := hN.1
  obtain ⟨t, ht, hte⟩ := hN.2.2.2.1 p hp
  suffices K : ∀ μ, Off [40] μ0 μ → (∀ j, j < 0 → μ 40 j = N (6 + 16 * j + p)) → Ev (Dy_readWords_2 39 1 c (nI p) FU (nI 0) μ) (fun _ μ' => (∀ k, k < 10 → μ' 40 k = wS P N H p k) ∧ Off [40] μ0 μ') from K μ0 (off_refl _ _) (fun j hj => absurd hj (by omega))
  unfold Dy_readWords_2
  refine lp_fu (F := fun kb => Dy_readWords_2b 39 1 c kb (nI p)) (z := fun _ _ => none) 5 (fun k A => ∀ μ, Off [40] μ0 μ → (∀ j, j < k → μ 40 j = N (6 + 16 * j + p)) → Ev (A (nI k) μ) (fun _ μ' => (∀ k, k < 10 → μ' 40 k = wS P N H p k) ∧ Off [40] μ0 μ')) (by omega) ?_ ?_ 0 (by omega)
  · intro A μ hO hj
    have hf : FigC P c th μ N := figC_off hO (by simp; omega) (by simp; omega) (by simp; omega) h
    have h16 : ∀ μ1, Off [40] μ0 μ1 → μ1 16 p = nI (hcS H 16 p) := fun μ1 z => by rw [z 16 (by decide)]; exact (hH p (by omega)).2
    -- the end, from the salt beside on
    have fin : ∀ (v : Int32), v = (if besN P N p = -1 then 0 else N (22 + (besN P N p).toNatClampNeg)) → Ev (Dy_readWords_92 39 1 c (nI p) v 7 (up2 (up2 μ 40 5 (N (102 + p) - 1)) 40 6 (N 3))) (fun _ μ' => (∀ k, k < 10 → μ' 40 k = wS P N H p k) ∧ Off [40] μ0 μ') := by
      intro v hv
      unfold Dy_readWords_92 Tx_heirOfHowMany
      simp only [Nat.reduceAdd]
      rw [stA_li (by omega) (by omega), if_neg (nI_pos (by omega)), if_neg (by rw [show (16 : Int32) = nI 16 from rfl]; exact nI_ge (by omega) (by omega)), ldA_nI (by omega) (by omega), cl_eq, stA_li (by omega) (by omega), gF_eq, stA_li (by omega) (by omega)]
      have hO1 : Off [40] μ0 (up2 (up2 (up2 μ 40 5 (N (102 + p) - 1)) 40 6 (N 3)) 40 7 v) := off_trans hO (off_trans (off_trans (off_up List.mem_cons_self) (off_up List.mem_cons_self)) (off_up List.mem_cons_self))
      rw [h16 _ hO1]
      have hd : (up2 (up2 (up2 (up2 μ 40 5 (N (102 + p) - 1)) 40 6 (N 3)) 40 7 v) 40 8 (nI (hcS H 16 p))) c 7 = N 0 := by
        rw [up2_off (Or.inl (by omega)), up2_off (Or.inl (by omega)), up2_off (Or.inl (by omega)), up2_off (Or.inl (by omega))]
        exact hf.2.2.2.1 7 (by omega) (by omega)
      rw [hd]
      refine ev_some ⟨fun k hk => ?_, off_trans hO1 (off_trans (off_up List.mem_cons_self) (off_up List.mem_cons_self))⟩
      rcases (show k < 5 ∨ k = 5 ∨ k = 6 ∨ k = 7 ∨ k = 8 ∨ k = 9 by omega) with z | rfl | rfl | rfl | rfl | rfl
      · rw [up2_off (Or.inr (by omega)), up2_off (Or.inr (by omega)), up2_off (Or.inr (by omega)), up2_off (Or.inr (by omega)), up2_off (Or.inr (by omega)), hj k z]
        unfold wS; rw [if_pos z]
      · rw [up2_off (Or.inr (by omega)), up2_off (Or.inr (by omega)), up2_off (Or.inr (by omega)), up2_off (Or.inr (by omega)), up2_same]; rfl
      · rw [up2_off (Or.inr (by omega)), up2_off (Or.inr (by omega)), up2_off (Or.inr (by omega)), up2_same]; rfl
      · rw [up2_off (Or.inr (by omega)), up2_off (Or.inr (by omega)), up2_same, hv]; rfl
      · rw [up2_off (Or.inr (by omega)), up2_same]; rfl
      · rw [up2_same]; rfl
    have mid : ∀ b : Int32, b = besN P N p → Ev (Dy_readWords_49 39 1 c (nI p) (N (102 + p) - 1) b μ) (fun _ μ' => (∀ k, k < 10 → μ' 40 k = wS P N H p k) ∧ Off [40] μ0 μ') := by
      intro b hb
      unfold Dy_readWords_49
      simp only [Nat.reduceAdd]
      have hw : (up2 μ 40 5 (N (102 + p) - 1)) c 4 = N 3 := by
        rw [up2_off (Or.inl (by omega))]
        exact hf.2.2.2.1 4 (by omega) (by omega)
      rw [stA_li (by omega) (by omega), gF_eq, hw, stA_li (by omega) (by omega)]
      have hf2 : FigC P c th (up2 (up2 μ 40 5 (N (102 + p) - 1)) 40 6 (N 3)) N := figC_congr (by rw [up2_ne (by omega), up2_ne (by omega)]) (by rw [up2_ne (by omega), up2_ne (by omega)]) (by rw [up2_ne (by omega), up2_ne (by omega)]) hf
      by_cases e : b = -1
      · rw [if_pos e]
        exact fin 0 (by rw [← hb, if_pos e])
      · rw [if_neg e]
        have hq : ∃ q, q < P ∧ b = nI q := by
          rw [hb, besN_eq ht hte] at e ⊢
          by_cases z : t = 0
          · rw [if_pos z] at e; exact absurd rfl e
          · rw [if_neg z] at e ⊢
            rcases whoN_is (P := P) (N := N) (s := t) with ⟨q, hq, h1, _, _⟩ | ⟨h1, _⟩
            · exact ⟨q, hq, h1⟩
            · exact absurd h1 e
        obtain ⟨q, hq, rfl⟩ := hq
        rw [fg_g1 hf2 hq, cl_eq]
        exact fin _ (by rw [← hb, if_neg e, nI_clamp (by omega)])
    show Ev (Dy_readWords_2b 39 1 c A (nI p) (nI 5) μ) _
    unfold Dy_readWords_2b
    rw [if_pos (by decide), fg_g6 hf hp, cl_eq]
    by_cases e : t = 0
    · subst e
      rw [if_pos (by rw [hte]; decide)]
      exact mid _ (by rw [besN_eq ht hte, if_pos rfl])
    · rw [if_neg (by rw [sub1_eq, hte]; exact nI_ne0 (by omega) (by omega))]
      have e1 : N (102 + p) - 1 + 1 = nI t := by rw [Int32.sub_add_cancel, hte]
      rw [e1]
      by_cases z : t < 16
      · rw [fg_holder hf z, cl_eq]
        exact mid _ (by rw [besN_eq ht hte, if_neg e])
      · rw [fg_holder_no (Or.inr (by rw [show (16 : Int32) = nI 16 from rfl]; exact nI_le (by omega) (by omega))), cl_eq]
        exact mid _ (by rw [besN_eq ht hte, if_neg e, show t = 16 by omega, whoN_16 hN])
  · intro k A hk ih μ hO hj
    have hf : FigC P c th μ N := figC_off hO (by simp; omega) (by simp; omega) (by simp; omega) h
    show Ev (Dy_readWords_2b 39 1 c A (nI p) (nI k) μ) _
    unfold Dy_readWords_2b
    simp only [Nat.reduceAdd]
    rw [if_neg (by rw [show (5 : Int32) = nI 5 from rfl]; exact nI_ge hk (by omega)), fg_get hf p k hp (by omega), cl_eq, stA_nI (by omega) (by omega), nI_1, hf.2.2.2.2.1 p k hp hk]
    refine ih _ (off_trans hO (off_up List.mem_cons_self)) (fun j h1 => ?_)
    by_cases e : j = k
    · subst e; rw [up2_same]
    · rw [up2_off (Or.inr e), hj j (by omega)]
theorem mo_heirsOf {P : Nat} {μ : Mu} {H : Nat → Int32} (h6 : μ 59 6 = nI P) (hP : P ≤ 16) (hH : ∀ k, k < 16 → μ 77 k = H k) (p : Nat) (hp : p < P) : Mo_heirsOf 59 (nI p) μ = some (nI (hcS H P p), μ) := by
  unfold Mo_heirsOf Mo_heirsOf_4
  suffices K : Mo_heirsOf_4 59 (nI p) FU (nI (hcS H 0 p)) (nI 0) μ = some (nI (hcS H P p), μ) from K
  unfold Mo_heirsOf_4
  refine lp_fu (F := fun kb => Mo_heirsOf_4b 59 kb (nI p)) (z := fun _ _ _ => none) P (fun k A => A (nI (hcS H k p)) (nI k) μ = some (nI (hcS H P p), μ)) (by omega) ?_ ?_ 0 (by omega)
  · intro A
    show Mo_heirsOf_4b 59 A (nI p) (nI (hcS H P p)) (nI P) μ = _
    unfold Mo_heirsOf_4b
    rw [gF_eq, h6, if_pos (nI_le (Nat.le_refl _) (by omega))]
  · intro k A hk ih
    show Mo_heirsOf_4b 59 A (nI p) (nI (hcS H k p)) (nI k) μ = _
    unfold Mo_heirsOf_4b Mo_heirsOf_28
    simp only [Nat.reduceAdd]
    have hs : hcS H (k + 1) p = hcS H k p + (if decide (H k = nI (p + 1)) then 1 else 0) := fb_ct_succ _ _
    rw [gF_eq, h6, if_neg (nI_ge hk (by omega)), ldA_nI (by omega) (by omega), hH k (by omega), nI_1, nI_1, nI_1]
    by_cases e : H k = nI (p + 1)
    · rw [if_pos e]
      rw [hs, decide_eq_true e, if_pos rfl] at ih
      exact ih
    · rw [if_neg e]
      rw [hs, decide_eq_false e, if_neg (by decide), Nat.add_zero] at ih
      exact ih
theorem hcS_P {P : Nat} {H : Nat → Int32} (hH : HOk P H) (hP : P ≤ 16) (p : Nat) (hp : p < P) : hcS H P p = hcS H 16 p := by
  unfold hcS
  have e := fb_ct_split (fun q => decide (H q = nI (p + 1))) P (16 - P)
  rw [show P + (16 - P) = 16 by omega] at e
  rw [e]
  have z : fb_ct (fun k => decide (H (P + k) = nI (p + 1))) (16 - P) = 0 := by
    refine fb_ct_zero.mpr (fun k hk => ?_)
    rcases hH (P + k) (by omega) with h | ⟨h, _⟩
    · rw [h]
      exact decide_eq_false (fun q => by have := (nI_eq (a := 0) (b := p + 1) (by omega) (by omega)).mp q; omega)
    · omega
  omega
set_option maxHeartbeats 1000000 in
theorem mo_asks {P : Nat} {μ : Mu} {H : Nat → Int32} (h6 : μ 59 6 = nI P) (hN : NOk P (μ 60)) (hH : ∀ k, k < 16 → μ 77 k = H k) (hok : HOk P H) {p : Nat} (hp : p < P) : Ev (Mo_asks 59 (nI p) μ) (fun _ μ' => (∀ k, k < 10 → μ' 78 (permW k) = wS P (μ 60) H p k) ∧ Off [78] μ μ') := by
  have hP := hN.1
  obtain ⟨t, ht, hte⟩ := hN.2.2.2.1 p hp
  unfold Mo_asks
  rw [mo_besideOf h6 hP hp ht hte, cl_eq, ← besN_eq ht hte]
  simp only [Nat.reduceAdd]
  simp (disch := omega) only [li_add, ldA_nI, stA_li, ldA_li]
  have up60 : ∀ (μ1 : Mu) (i : Nat) (v : Int32), (up2 μ1 78 i v) 60 = μ1 60 := fun μ1 i v => up2_ne (by omega)
  have up59 : ∀ (μ1 : Mu) (i : Nat) (v : Int32), (up2 μ1 78 i v) 59 = μ1 59 := fun μ1 i v => up2_ne (by omega)
  have up77 : ∀ (μ1 : Mu) (i : Nat) (v : Int32), (up2 μ1 78 i v) 77 = μ1 77 := fun μ1 i v => up2_ne (by omega)
  simp only [up60]
  rw [mo_seatOf hP hp, cl_eq]
  simp (disch := omega) only [li_add, ldA_nI, stA_li, ldA_li, up60]
  have hb : besN P (μ 60) p = -1 ∨ ∃ q, q < P ∧ besN P (μ 60) p = nI q := by
    rw [besN_eq ht hte]
    by_cases z : t = 0
    · rw [if_pos z]; exact Or.inl rfl
    · rw [if_neg z]
      rcases whoN_is (P := P) (N := μ 60) (s := t) with ⟨q, hq, h1, _, _⟩ | ⟨h1, _⟩
      · exact Or.inr ⟨q, hq, h1⟩
      · exact Or.inl h1
  -- the end
  have fin : ∀ (μ1 : Mu) (v : Int32), v = (if besN P (μ 60) p = -1 then 0 else (μ 60) (22 + (besN P (μ 60) p).toNatClampNeg)) → Off [78] μ μ1 → μ1 78 0 = μ 60 (6 + p) → μ1 78 1 = μ 60 (22 + p) → μ1 78 2 = μ 60 3 → μ1 78 3 = μ 60 (102 + p) - 1 → μ1 78 4 = μ 60 (38 + p) → μ1 78 5 = μ 60 (54 + p) → μ1 78 6 = μ 60 (70 + p) → Ev (Mo_asks_129 59 (nI p) v 7 μ1) (fun _ μ' => (∀ k, k < 10 → μ' 78 (permW k) = wS P (μ 60) H p k) ∧ Off [78] μ μ') := by
    intro μ1 v hv hO a0 a1 a2 a3 a4 a5 a6
    unfold Mo_asks_129
    simp only [Nat.reduceAdd]
    rw [stA_li (by omega) (by omega), mo_heirsOf (H := H) (by rw [up59, hO 59 (by decide)]; exact h6) hP (fun k hk => by rw [up77, hO 77 (by decide)]; exact hH k hk) p hp, cl_eq, stA_li (by omega) (by omega), ldA_li (by omega) (by omega), stA_li (by omega) (by omega), hcS_P hok hP p hp]
    simp only [up60]
    rw [hO 60 (by decide)]
    refine ev_some ⟨fun k hk => ?_, off_trans hO (off_trans (off_trans (off_up List.mem_cons_self) (off_up List.mem_cons_self)) (off_up List.mem_cons_self))⟩
    rcases (show k = 0 ∨ k = 1 ∨ k = 2 ∨ k = 3 ∨ k = 4 ∨ k = 5 ∨ k = 6 ∨ k = 7 ∨ k = 8 ∨ k = 9 by omega) with rfl | rfl | rfl | rfl | rfl | rfl | rfl | rfl | rfl | rfl
    · show up2 (up2 (up2 μ1 78 7 v) 78 8 _) 78 9 _ 78 0 = μ 60 (6 + 16 * 0 + p)
      rw [up2_off (Or.inr (by omega)), up2_off (Or.inr (by omega)), up2_off (Or.inr (by omega)), a0]
    · show up2 (up2 (up2 μ1 78 7 v) 78 8 _) 78 9 _ 78 1 = μ 60 (6 + 16 * 1 + p)
      rw [up2_off (Or.inr (by omega)), up2_off (Or.inr (by omega)), up2_off (Or.inr (by omega)), a1]
    · show up2 (up2 (up2 μ1 78 7 v) 78 8 _) 78 9 _ 78 4 = μ 60 (6 + 16 * 2 + p)
      rw [up2_off (Or.inr (by omega)), up2_off (Or.inr (by omega)), up2_off (Or.inr (by omega)), a4]
    · show up2 (up2 (up2 μ1 78 7 v) 78 8 _) 78 9 _ 78 5 = μ 60 (6 + 16 * 3 + p)
      rw [up2_off (Or.inr (by omega)), up2_off (Or.inr (by omega)), up2_off (Or.inr (by omega)), a5]
    · show up2 (up2 (up2 μ1 78 7 v) 78 8 _) 78 9 _ 78 6 = μ 60 (6 + 16 * 4 + p)
      rw [up2_off (Or.inr (by omega)), up2_off (Or.inr (by omega)), up2_off (Or.inr (by omega)), a6]
    · show up2 (up2 (up2 μ1 78 7 v) 78 8 _) 78 9 _ 78 3 = μ 60 (102 + p) - 1
      rw [up2_off (Or.inr (by omega)), up2_off (Or.inr (by omega)), up2_off (Or.inr (by omega)), a3]
    · show up2 (up2 (up2 μ1 78 7 v) 78 8 _) 78 9 _ 78 2 = μ 60 3
      rw [up2_off (Or.inr (by omega)), up2_off (Or.inr (by omega)), up2_off (Or.inr (by omega)), a2]
    · show up2 (up2 (up2 μ1 78 7 v) 78 8 _) 78 9 _ 78 7 = (if besN P (μ 60) p = -1 then 0 else (μ 60) (22 + (besN P (μ 60) p).toNatClampNeg))
      rw [up2_off (Or.inr (by omega)), up2_off (Or.inr (by omega)), up2_same, hv]
    · show up2 (up2 (up2 μ1 78 7 v) 78 8 _) 78 9 _ 78 8 = nI (hcS H 16 p)
      rw [up2_off (Or.inr (by omega)), up2_same]
    · show up2 (up2 (up2 μ1 78 7 v) 78 8 _) 78 9 _ 78 9 = μ 60 0
      rw [up2_same]
  rcases hb with hb | ⟨q, hq, hb⟩
  · rw [if_pos hb]
    refine fin _ 0 (by rw [if_pos hb]) ?_ ?_ ?_ ?_ ?_ ?_ ?_ ?_
    · intro k hk; simp only [List.mem_cons, List.not_mem_nil, or_false] at hk; rw [up2_ne hk, up2_ne hk, up2_ne hk, up2_ne hk, up2_ne hk, up2_ne hk, up2_ne hk]
    all_goals simp (disch := omega) only [up2_same, up2_off]
  · rw [if_neg (by rw [hb, n1_ne (by omega)]; exact id)]
    simp only [hb]
    rw [show (22 : Int32) + nI q = nI (22 + q) from nI_add 22 q, ldA_nI (by omega) (by omega)]
    simp only [up60]
    refine fin _ _ (by rw [hb, if_neg (by rw [n1_ne (by omega)]; exact id), nI_clamp (by omega)]) ?_ ?_ ?_ ?_ ?_ ?_ ?_ ?_
    · intro k hk; simp only [List.mem_cons, List.not_mem_nil, or_false] at hk; rw [up2_ne hk, up2_ne hk, up2_ne hk, up2_ne hk, up2_ne hk, up2_ne hk, up2_ne hk]
    all_goals simp (disch := omega) only [up2_same, up2_off]
theorem heldS_rng {v : Int32} {m : Nat} (hm : m < 2 ^ 31) : ∃ k, k ≤ m ∧ heldS v (nI m) = nI k := by
  unfold heldS
  by_cases c : (0 : Int32) ≤ v
  · rw [if_pos c]
    by_cases d : v ≤ nI m
    · rw [if_pos d]
      obtain ⟨k, hk, e⟩ := nI_between (v := v) hm (fun z => absurd c (fa_of_lt z).2.1) (fun z => absurd d (fa_of_lt z).2.1)
      exact ⟨k, hk, e⟩
    · rw [if_neg d]; exact ⟨m, Nat.le_refl _, rfl⟩
  · rw [if_neg c]; exact ⟨0, Nat.zero_le _, rfl⟩
/-- what the law tells of a word of a person: the value -/
def askN (P : Nat) (N : Nat → Int32) (L : List (Nat × List (Nat × Nat) × List (Nat × Nat))) (H : Nat → Int32) (p word : Nat) : Int32 := asksV L (wS P N H p) word
theorem askN_rng {P : Nat} {N H : Nat → Int32} {L : List (Nat × List (Nat × Nat) × List (Nat × Nat))} (hN : NOk P N) {p word : Nat} (hp : p < P) (hw : word ≤ 2) : ∃ k s, askN P N L H p word = nI k ∧ N (22 + p) = nI s ∧ s ≤ 9999 ∧ k ≤ 9999 ∧ (word = 0 → k ≤ 1000) ∧ (word = 1 → k ≤ 999) ∧ (word = 2 → k ≤ s) := by
  obtain ⟨s, hs, he⟩ := hN.2.1 p hp
  have e1 : wS P N H p 1 = nI s := he
  unfold askN asksV mostS
  rcases (show word = 0 ∨ word = 1 ∨ word = 2 by omega) with rfl | rfl | rfl
  · rw [if_pos rfl]
    obtain ⟨k, hk, e⟩ := heldS_rng (v := (lineS (wS P N H p) 0 L).getD (usualS (wS P N H p) 0)) (m := 1000) (by omega)
    exact ⟨k, s, e, he, hs, by omega, fun _ => hk, fun z => absurd z (by omega), fun z => absurd z (by omega)⟩
  · rw [if_neg (by omega), if_pos rfl]
    obtain ⟨k, hk, e⟩ := heldS_rng (v := (lineS (wS P N H p) 1 L).getD (usualS (wS P N H p) 1)) (m := 999) (by omega)
    exact ⟨k, s, e, he, hs, by omega, fun z => absurd z (by omega), fun _ => hk, fun z => absurd z (by omega)⟩
  · rw [if_neg (by omega), if_neg (by omega), e1]
    obtain ⟨k, hk, e⟩ := heldS_rng (v := (lineS (wS P N H p) 2 L).getD (usualS (wS P N H p) 2)) (m := s) (by omega)
    exact ⟨k, s, e, he, hs, by omega, fun z => absurd z (by omega), fun z => absurd z (by omega), fun _ => hk⟩
theorem c_asks {P c : Nat} {th : Int32} {μ : Mu} {S : (Nat → Int32) × (Nat → Int32)} {L : List (Nat × List (Nat × Nat) × List (Nat × Nat))} {H : Nat → Int32} (h : CtxC P c th μ S L H) (hs : SpOk P S.1 L H) {p word : Nat} (hp : p < P) (hw : word ≤ 2) : Ev (Dy_asks 39 1 c (nI p) (nI (word + 1)) μ) (fun r μ' => r = askN P S.1 L H p word ∧ Off [13, 40] μ μ') := by
  obtain ⟨h1, h2, h3, h4, h5⟩ := h
  obtain ⟨s, hs1, hse⟩ := hs.1.2.1 p hp
  unfold Dy_asks
  refine ev_cl (ev_mono (dy_readWords h1 hs.1 h4 h5 hp) ?_)
  rintro _ μ1 ⟨hw1, hO⟩
  have hO' : Off [13, 40] μ μ1 := off_mono (fun k hk => by simp only [List.mem_cons, List.not_mem_nil, or_false] at hk ⊢; omega) hO
  have e1 : wS P S.1 H p 1 = nI s := hse
  have hu : Dy_usual 39 1 (nI (word + 1)) μ1 = some (usualS (wS P S.1 H p) word, μ1) := by
    unfold Dy_usual usualS
    simp only [Nat.reduceAdd]
    rcases (show word = 0 ∨ word = 1 ∨ word = 2 by omega) with rfl | rfl | rfl
    · rw [if_pos (by decide), if_pos rfl]
    · rw [if_neg (by decide), if_pos (by decide), ldA_li (by omega) (by omega), hw1 0 (by omega), if_neg (by omega), if_pos rfl]
    · rw [if_neg (by decide), if_neg (by decide), ldA_li (by omega) (by omega), ldA_li (by omega) (by omega), hw1 6 (by omega), hw1 1 (by omega), if_neg (by omega), if_neg (by omega)]
  rw [hu, cl_eq]
  refine ev_mono (dy_asks_25 (c := c) (lawC_off (fun k a b => hO k (by simp; omega)) h3) hs.2.1 hw hw1 (fun _ => by rw [e1]; exact nI_pos' (by omega)) rfl) ?_
  rintro r μ2 ⟨rfl, h6⟩
  exact ⟨rfl, off_trans hO' (off_mono (fun k hk => by simp only [List.mem_cons, List.not_mem_nil, or_false] at hk ⊢; omega) h6)⟩
theorem m_tells {P : Nat} {th : Int32} {μ μ1 : Mu} {S : (Nat → Int32) × (Nat → Int32)} {L : List (Nat × List (Nat × Nat) × List (Nat × Nat))} {H : Nat → Int32} (h : CtxM P th μ S L H) (hs : SpOk P S.1 L H) {p word : Nat} (hw : word ≤ 2) {us most : Int32} (hO : Off [78] μ μ1) (hw1 : ∀ k, k < 10 → μ1 78 (permW k) = wS P S.1 H p k) (hu : us = usualS (wS P S.1 H p) word) (hm : most = mostS (wS P S.1 H p) word) : Ev (Mo_lawTells 59 (nI word) us most μ1) (fun r μ' => r = askN P S.1 L H p word ∧ Off [78, 79] μ μ') := by
  obtain ⟨h1, h2, h3, h4, h5, h6⟩ := h
  refine ev_mono (mo_lawTells (lawM_off (fun k a b => hO k (by simp; omega)) h5) hs.2.1 hw hw1 hu hm) ?_
  rintro r μ2 ⟨rfl, h7⟩
  exact ⟨rfl, off_trans (off_mono (fun k hk => by simp only [List.mem_cons, List.not_mem_nil, or_false] at hk ⊢; omega) hO) (off_mono (fun k hk => by simp only [List.mem_cons, List.not_mem_nil, or_false] at hk ⊢; omega) h7)⟩
theorem m_spills {P : Nat} {th : Int32} {μ : Mu} {S : (Nat → Int32) × (Nat → Int32)} {L : List (Nat × List (Nat × Nat) × List (Nat × Nat))} {H : Nat → Int32} (h : CtxM P th μ S L H) (hs : SpOk P S.1 L H) {p : Nat} (hp : p < P) : Ev (Mo_spillsOf 59 (nI p) μ) (fun r μ' => r = askN P S.1 L H p 0 ∧ Off [78, 79] μ μ') := by
  obtain ⟨h1, h2, h3, h4, h5, h6⟩ := id h
  unfold Mo_spillsOf
  refine ev_cl (ev_mono (mo_asks h4 (by rw [h1]; exact hs.1) h6 hs.2.2 hp) ?_)
  rintro _ μ1 ⟨hw1, hO⟩
  rw [h1] at hw1
  refine ev_cl (ev_mono (m_tells (word := 0) h hs (by omega) hO hw1 rfl rfl) ?_)
  rintro r μ2 hr
  exact ev_some hr
theorem m_throws {P : Nat} {th : Int32} {μ : Mu} {S : (Nat → Int32) × (Nat → Int32)} {L : List (Nat × List (Nat × Nat) × List (Nat × Nat))} {H : Nat → Int32} (h : CtxM P th μ S L H) (hs : SpOk P S.1 L H) {p : Nat} (hp : p < P) : Ev (Mo_throwsOf 59 (nI p) μ) (fun r μ' => r = askN P S.1 L H p 1 ∧ Off [78, 79] μ μ') := by
  obtain ⟨h1, h2, h3, h4, h5, h6⟩ := id h
  unfold Mo_throwsOf
  refine ev_cl (ev_mono (mo_asks h4 (by rw [h1]; exact hs.1) h6 hs.2.2 hp) ?_)
  rintro _ μ1 ⟨hw1, hO⟩
  rw [h1] at hw1
  simp only [Nat.reduceAdd]
  rw [ldA_li (by omega) (by omega), show μ1 78 0 = _ from hw1 0 (by omega)]
  refine ev_cl (ev_mono (m_tells (word := 1) h hs (by omega) hO hw1 rfl rfl) ?_)
  rintro r μ2 hr
  exact ev_some hr
theorem m_runs {P : Nat} {th : Int32} {μ : Mu} {S : (Nat → Int32) × (Nat → Int32)} {L : List (Nat × List (Nat × Nat) × List (Nat × Nat))} {H : Nat → Int32} (h : CtxM P th μ S L H) (hs : SpOk P S.1 L H) {p : Nat} (hp : p < P) : Ev (Mo_runsOf 59 (nI p) μ) (fun r μ' => r = askN P S.1 L H p 2 ∧ Off [78, 79] μ μ') := by
  obtain ⟨h1, h2, h3, h4, h5, h6⟩ := id h
  unfold Mo_runsOf
  refine ev_cl (ev_mono (mo_asks h4 (by rw [h1]; exact hs.1) h6 hs.2.2 hp) ?_)
  rintro _ μ1 ⟨hw1, hO⟩
  rw [h1] at hw1
  simp only [Nat.reduceAdd]
  rw [ldA_li (by omega) (by omega), ldA_li (by omega) (by omega), ldA_li (by omega) (by omega), show μ1 78 2 = _ from hw1 6 (by omega), show μ1 78 1 = _ from hw1 1 (by omega)]
  refine ev_cl (ev_mono (m_tells (word := 2) h hs (by omega) hO hw1 rfl rfl) ?_)
  rintro r μ2 hr
  exact ev_some hr
