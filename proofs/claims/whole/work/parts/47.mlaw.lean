/-! L3: THE LAW'S CODES IN THE REFERENCE -/
def permL : List Nat := [0, 1, 4, 5, 6, 3, 2, 7, 8, 9]
def permW (k : Nat) : Nat := permL.getD k 0
theorem permW_lt : ∀ k, k < 10 → permW k < 10 := by decide
def mop (op : Nat) : Nat := if op = 43 then 2 else if op = 45 then 3 else if op = 42 then 4 else if op = 60 then 6 else if op = 61 then 7 else if op = 62 then 8 else if op = 6 then 10 else 11
def exp1 (c : Nat × Nat) : List (Nat × Nat) := if c.1 = 30 then [(0, c.2)] else if 8 ≤ c.1 ∧ c.1 < 18 then [(1, permW (c.1 - 8))] else if c.1 = 7 then [(9, 0)] else if c.1 = 47 then [(0, c.2), (5, 0)] else [(mop c.1, 0)]
def expL : List (Nat × Nat) → List (Nat × Nat)
  | [] => []
  | c :: cs => exp1 c ++ expL cs
theorem expL_app (a b : List (Nat × Nat)) : expL (a ++ b) = expL a ++ expL b := by
  induction a with
  | nil => rfl
  | cons c cs ih => show exp1 c ++ expL (cs ++ b) = (exp1 c ++ expL cs) ++ expL b; rw [ih, List.append_assoc]
theorem mop_rng (op : Nat) : 2 ≤ mop op ∧ mop op < 12 ∧ mop op ≠ 9 := by
  unfold mop
  refine ⟨?_, ?_, ?_⟩ <;> (repeat' split) <;> omega
theorem le_ite (x y : Int32) (μ : Mu) : (if y ≤ x then some ((0 : Int32), μ) else some (1, μ)) = some (if x < y then 1 else 0, μ) := by
  by_cases q : y ≤ x
  · rw [if_pos q, if_neg (fun z => absurd q (fa_of_lt z).2.1)]
  · rw [if_neg q, if_pos (fa_of_nle q)]
theorem eq_ite (x y : Int32) (μ : Mu) : (if x = y then some ((1 : Int32), μ) else some (0, μ)) = some (if x = y then 1 else 0, μ) := by split <;> rfl
theorem mo_twoOf (op : Nat) (x y : Int32) (μ : Mu) (h : isAri op = true ∨ isCmp op = true ∨ (isLog op = true ∧ (x = 0 ∨ x = 1) ∧ (y = 0 ∨ y = 1))) : Mo_twoOf 59 (nI (mop op)) x y μ = some (binS op x y, μ) := by
  simp only [isAri, isCmp, isLog, Bool.or_eq_true, beq_iff_eq] at h
  rcases h with ((rfl | rfl) | rfl) | ((rfl | rfl) | rfl) | ⟨rfl | rfl, h1, h2⟩
  · rfl
  · rfl
  · rfl
  · exact le_ite x y μ
  · exact eq_ite x y μ
  · exact le_ite y x μ
  · rcases h1 with rfl | rfl <;> rcases h2 with rfl | rfl <;> rfl
  · rcases h1 with rfl | rfl <;> rcases h2 with rfl | rfl <;> rfl
theorem m400 (x : Int32) : (400 : Int32) * 0 + x = x := by rw [show (400 : Int32) * 0 = 0 by decide, Int32.zero_add]
theorem mo_push {v3 : Int32} {q e : Nat} {st : List Int32} {m : Nat} {μ : Mu} {op ar : Nat} {x : Int32} (hv : v3 = nI e) (hq : q < e) (he : e ≤ 1200) (hl : st.length < 420) (h1 : μ 71 q = nI op) (h2 : μ 72 q = nI ar) (ha : ar < 10000) (h3 : (op = 0 ∧ x = nI ar) ∨ (op = 1 ∧ ar < 10 ∧ x = μ 78 ar)) : Mo_runs_12 59 0 v3 (m + 1) (nI st.length) (nI q) μ = Mo_runs_12 59 0 v3 m (nI (st.length + 1)) (nI (q + 1)) (up2 μ 79 st.length x) := by
  subst hv
  show Mo_runs_12b 59 (Mo_runs_12 59 0 (nI e) m) 0 (nI e) (nI st.length) (nI q) μ = _
  unfold Mo_runs_12b
  rw [m400, if_neg (nI_ge hq (by omega)), ldA_nI (by omega) (by omega), h1]
  rcases h3 with ⟨rfl, rfl⟩ | ⟨rfl, h3, rfl⟩
  · rw [if_pos (by decide)]
    unfold Mo_runs_45 Mo_runs_83 Mo_runs_170
    rw [ldA_nI (by omega) (by omega), h1, if_pos (by decide), ldA_nI (by omega) (by omega), h2, stA_nI (by omega) (by omega), nI_1, nI_1]
  · rw [if_neg (by decide), ldA_nI (by omega) (by omega), h1, if_pos (by decide)]
    unfold Mo_runs_45 Mo_runs_83 Mo_runs_170
    rw [ldA_nI (by omega) (by omega), h1, if_neg (by decide), ldA_nI (by omega) (by omega), h2, ldA_nI h3 (by omega), stA_nI (by omega) (by omega), nI_1, nI_1]
theorem mo_bin {v3 : Int32} {q e : Nat} {k : Nat} {m : Nat} {μ : Mu} {op : Nat} {x y z : Int32} (hv : v3 = nI e) (hq : q < e) (he : e ≤ 1200) (hl : k < 400) (h1 : μ 71 q = nI op) (ho : 2 ≤ op ∧ op < 12 ∧ op ≠ 9) (hx : μ 79 k = x) (hy : μ 79 (k + 1) = y) (ht : ∀ μ1, Mo_twoOf 59 (nI op) x y μ1 = some (z, μ1)) : Mo_runs_12 59 0 v3 (m + 1) (nI (k + 1 + 1)) (nI q) μ = Mo_runs_12 59 0 v3 m (nI (k + 1)) (nI (q + 1)) (up2 μ 79 k z) := by
  subst hv
  show Mo_runs_12b 59 (Mo_runs_12 59 0 (nI e) m) 0 (nI e) (nI (k + 1 + 1)) (nI q) μ = _
  unfold Mo_runs_12b Mo_runs_170
  rw [m400, if_neg (nI_ge hq (by omega)), ldA_nI (by omega) (by omega), h1, if_neg (by rw [eq_li (by omega) (by omega)]; show ¬ op = 0; omega), ldA_nI (by omega) (by omega), h1, if_neg (by rw [eq_li (by omega) (by omega)]; show ¬ op = 1; omega), ldA_nI (by omega) (by omega), h1, if_neg (by rw [eq_li (by omega) (by omega)]; show ¬ op = 9; omega), ldA_nI (by omega) (by omega), h1, nI_pred, nI_pred, ldA_nI (by omega) (by omega), ldA_nI (by omega) (by omega), hx, hy, ht, cl_eq, stA_nI (by omega) (by omega), nI_1]
theorem mo_not {v3 : Int32} {q e : Nat} {k : Nat} {m : Nat} {μ : Mu} {x : Int32} (hv : v3 = nI e) (hq : q < e) (he : e ≤ 1200) (hl : k < 400) (h1 : μ 71 q = nI 9) (hx : μ 79 k = x) : Mo_runs_12 59 0 v3 (m + 1) (nI (k + 1)) (nI q) μ = Mo_runs_12 59 0 v3 m (nI (k + 1)) (nI (q + 1)) (up2 μ 79 k (1 - x)) := by
  subst hv
  show Mo_runs_12b 59 (Mo_runs_12 59 0 (nI e) m) 0 (nI e) (nI (k + 1)) (nI q) μ = _
  unfold Mo_runs_12b Mo_runs_170
  rw [m400, if_neg (nI_ge hq (by omega)), ldA_nI (by omega) (by omega), h1, if_neg (by decide), ldA_nI (by omega) (by omega), h1, if_neg (by decide), ldA_nI (by omega) (by omega), h1, if_pos (by decide), nI_pred, ldA_nI (by omega) (by omega), hx, stA_nI (by omega) (by omega), nI_1]
set_option maxHeartbeats 1000000 in
theorem mo_loop {w : Nat → Int32} {v3 : Int32} {e : Nat} (hv : v3 = nI e) (he : e ≤ 1200) : ∀ (cs : List (Nat × Nat)) (q : Nat) (st : List Int32) (ts : List Bool) (t0 : Bool) (fuel : Nat) (μ : Mu), (∀ i, i < (expL cs).length → μ 71 (q + i) = nI ((expL cs).getD i (0, 0)).1 ∧ μ 72 (q + i) = nI ((expL cs).getD i (0, 0)).2) → runT cs ts = some [t0] → TyR ts st → ts.length ≤ 32 → StR (μ 79) st → (expL cs).length < fuel → q + (expL cs).length = e → (∀ k, k < 10 → μ 78 (permW k) = w k) →
    Ev (Mo_runs_12 59 0 v3 fuel (nI st.length) (nI q) μ) (fun r μ' => r = (runS w cs st).headD 0 ∧ Off [79] μ μ') := by
  intro cs
  induction cs with
  | nil =>
    intro q st ts t0 fuel μ hc ht hr hl hs hf hq hw
    obtain ⟨m, rfl⟩ : ∃ m, fuel = m + 1 := ⟨fuel - 1, by simp [expL] at hf; omega⟩
    simp only [expL, List.length_nil, Nat.add_zero] at hq
    subst hq; subst hv
    unfold Mo_runs_12
    rw [lp_succ]
    generalize lp _ _ m = A
    unfold Mo_runs_12b
    rw [m400, if_pos (nI_le (Nat.le_refl _) (by omega)), ldA_at 0 nI_0.symm (by omega) (by omega)]
    have e1 : ts = [t0] := by cases ht; rfl
    subst e1
    match st, hr, hs with
    | [x], hr, hs => exact ev_some ⟨hs.1, off_refl _ _⟩
  | cons c cs ih =>
    intro q st ts t0 fuel μ hc ht hr hl hs hf hq hw
    have hlen := tyR_len hr
    have ht' : ∃ t, ty1 c ts = some t ∧ runT cs t = some [t0] := by
      have : (match ty1 c ts with | none => none | some t => runT cs t) = some [t0] := ht
      cases hty : ty1 c ts with
      | none => rw [hty] at this; cases this
      | some t => rw [hty] at this; exact ⟨t, rfl, this⟩
    obtain ⟨t, hty, ht2⟩ := ht'
    have hrs := ty_step (w := w) hty hr
    have hrun : runS w (c :: cs) st = runS w cs (lvS w c st) := rfl
    have hexp : expL (c :: cs) = exp1 c ++ expL cs := rfl
    have hle : (expL (c :: cs)).length = (exp1 c).length + (expL cs).length := by rw [hexp, List.length_append]
    rw [hle] at hf hq hc
    rw [hrun]
    have hc1 : ∀ i, i < (exp1 c).length → μ 71 (q + i) = nI ((exp1 c).getD i (0, 0)).1 ∧ μ 72 (q + i) = nI ((exp1 c).getD i (0, 0)).2 := by
      intro i hi
      have := hc i (by omega)
      rw [hexp, List.getD_eq_getElem?_getD, List.getElem?_append_left hi, ← List.getD_eq_getElem?_getD] at this
      exact this
    have hcn : ∀ μ1 : Mu, μ1 71 = μ 71 → μ1 72 = μ 72 → ∀ i, i < (expL cs).length → μ1 71 (q + (exp1 c).length + i) = nI ((expL cs).getD i (0, 0)).1 ∧ μ1 72 (q + (exp1 c).length + i) = nI ((expL cs).getD i (0, 0)).2 := by
      intro μ1 e1 e2 i hi
      rw [e1, e2]
      have := hc ((exp1 c).length + i) (by omega)
      rw [hexp, List.getD_eq_getElem?_getD, List.getElem?_append_right (by omega), ← List.getD_eq_getElem?_getD, show (exp1 c).length + i - (exp1 c).length = i by omega, ← Nat.add_assoc] at this
      exact this
    have go : ∀ (μ1 : Mu) (m : Nat), (expL cs).length < m → StR (μ1 79) (lvS w c st) → t.length ≤ 32 → Off [79] μ μ1 → Ev (Mo_runs_12 59 0 v3 m (nI (lvS w c st).length) (nI (q + (exp1 c).length)) μ1) (fun r μ' => r = (runS w cs (lvS w c st)).headD 0 ∧ Off [79] μ μ') := by
      intro μ1 m e1 e2 e3 e4
      have := ih (q + (exp1 c).length) (lvS w c st) t t0 m μ1 (hcn μ1 (e4 _ (by decide)) (e4 _ (by decide))) ht2 hrs e3 e2 e1 (by omega) (fun k hk => by rw [e4 _ (by decide)]; exact hw k hk)
      exact ev_mono this (fun r μ' z => ⟨z.1, off_trans e4 z.2⟩)
    have upO : ∀ (μ0 : Mu) (i : Nat) (v : Int32), Off [79] μ μ0 → Off [79] μ (up2 μ0 79 i v) := fun μ0 i v h => off_trans h (off_up List.mem_cons_self)
    rcases ty1_cases hty with ⟨a1, b1, d1, rfl⟩ | ⟨a1, b1, d1, e1, rfl⟩ | ⟨a1, b1, r, rfl, rfl⟩ | ⟨a1, b1, d1, r, rfl, rfl⟩ | ⟨b1, a1, r, rfl, rfl⟩ | ⟨b1, a1, r, rfl, rfl⟩ | ⟨b1, a1, r, rfl, rfl⟩
    · have el : lvS w c st = nI c.2 :: st := by unfold lvS; rw [if_pos a1]
      have ex : exp1 c = [(0, c.2)] := by unfold exp1; rw [if_pos a1]
      rw [ex] at hc1 hf hq go
      simp only [List.length_cons, List.length_nil, Nat.zero_add] at hc1 hf hq go
      obtain ⟨m, rfl⟩ : ∃ m, fuel = m + 1 := ⟨fuel - 1, by omega⟩
      rw [mo_push (q := q) (st := st) (m := m) (op := 0) (ar := c.2) (x := nI c.2) hv (by omega) he (by omega) (hc1 0 (by omega)).1 (hc1 0 (by omega)).2 b1 (Or.inl ⟨rfl, rfl⟩)]
      have := go (up2 μ 79 st.length (nI c.2)) m (by omega) (by rw [el, up2_row]; exact ⟨fu_same _ _ _, stR_up (Nat.le_refl _) hs⟩) (by simp; omega) (upO _ _ _ (off_refl _ _))
      rw [el] at this ⊢
      exact this
    · have el : lvS w c st = w (c.1 - 8) :: st := by unfold lvS; rw [if_neg (by omega), if_pos ⟨a1, b1⟩]
      have ex : exp1 c = [(1, permW (c.1 - 8))] := by unfold exp1; rw [if_neg (by omega), if_pos ⟨a1, b1⟩]
      have pl := permW_lt (c.1 - 8) (by omega)
      rw [ex] at hc1 hf hq go
      simp only [List.length_cons, List.length_nil, Nat.zero_add] at hc1 hf hq go
      obtain ⟨m, rfl⟩ : ∃ m, fuel = m + 1 := ⟨fuel - 1, by omega⟩
      rw [mo_push (q := q) (st := st) (m := m) (op := 1) (ar := permW (c.1 - 8)) (x := w (c.1 - 8)) hv (by omega) he (by omega) (hc1 0 (by omega)).1 (hc1 0 (by omega)).2 (by omega) (Or.inr ⟨rfl, pl, (hw _ (by omega)).symm⟩)]
      have := go (up2 μ 79 st.length (w (c.1 - 8))) m (by omega) (by rw [el, up2_row]; exact ⟨fu_same _ _ _, stR_up (Nat.le_refl _) hs⟩) (by simp; omega) (upO _ _ _ (off_refl _ _))
      rw [el] at this ⊢
      exact this
    · match st, hr, hs with
      | x :: k, hr, hs =>
        simp only [List.length_cons] at hlen hl ⊢
        have el : lvS w c (x :: k) = (if x = 0 then 1 else 0) :: k := by unfold lvS; rw [if_neg (by omega), if_neg (by omega), if_pos a1]
        have ex : exp1 c = [(9, 0)] := by unfold exp1; rw [if_neg (by omega), if_neg (by omega), if_pos a1]
        rw [ex] at hc1 hf hq go
        simp only [List.length_cons, List.length_nil, Nat.zero_add] at hc1 hf hq go
        obtain ⟨m, rfl⟩ : ∃ m, fuel = m + 1 := ⟨fuel - 1, by omega⟩
        rw [mo_not (q := q) (k := k.length) (m := m) (x := x) hv (by omega) he (by omega) (hc1 0 (by omega)).1 hs.1]
        have e2 : (1 : Int32) - x = if x = 0 then 1 else 0 := by rcases hr.1 rfl with rfl | rfl <;> decide
        rw [e2]
        have := go (up2 μ 79 k.length (if x = 0 then 1 else 0)) m (by omega) (by rw [el, up2_row]; exact ⟨fu_same _ _ _, stR_up (Nat.le_refl _) hs.2⟩) (by simp; omega) (upO _ _ _ (off_refl _ _))
        rw [el] at this ⊢
        exact this
    · match st, hr, hs with
      | x :: k, hr, hs =>
        simp only [List.length_cons] at hlen hl ⊢
        have el : lvS w c (x :: k) = x / nI c.2 :: k := by unfold lvS; rw [if_neg (by omega), if_neg (by omega), if_neg (by omega), if_pos a1]
        have ex : exp1 c = [(0, c.2), (5, 0)] := by unfold exp1; rw [if_neg (by omega), if_neg (by omega), if_neg (by omega), if_pos a1]
        rw [ex] at hc1 hf hq go
        simp only [List.length_cons, List.length_nil, Nat.zero_add] at hc1 hf hq go
        obtain ⟨m, rfl⟩ : ∃ m, fuel = m + 1 + 1 := ⟨fuel - 2, by omega⟩
        have e0 := mo_push (v3 := v3) (q := q) (st := x :: k) (m := m + 1) (op := 0) (ar := c.2) (x := nI c.2) hv (show q < e by omega) he (by simp; omega) (hc1 0 (by omega)).1 (hc1 0 (by omega)).2 d1 (Or.inl ⟨rfl, rfl⟩)
        simp only [List.length_cons] at e0
        rw [e0, mo_bin (q := q + 1) (k := k.length) (m := m) (op := 5) (x := x) (y := nI c.2) (z := x / nI c.2) hv (show q + 1 < e by omega) he (by omega) (by rw [up2_ne (by omega)]; exact (hc1 1 (by omega)).1) (by omega) (by rw [up2_off (Or.inr (by omega))]; exact hs.1) (up2_same _ _ _ _) (fun μ1 => by unfold Mo_twoOf; rw [if_neg (by decide), if_neg (by decide), if_neg (by decide), if_pos (by decide), nz_eq (nI_ne0 b1 (by omega))])]
        have := go (up2 (up2 μ 79 (k.length + 1) (nI c.2)) 79 k.length (x / nI c.2)) m (by omega) (by rw [el, up2_row, up2_row]; exact ⟨fu_same _ _ _, stR_up (Nat.le_refl _) (stR_up (by omega) hs.2)⟩) (by simp; omega) (upO _ _ _ (upO _ _ _ (off_refl _ _)))
        rw [el] at this ⊢
        exact this
    all_goals (
      match st, hr, hs with
      | y :: x :: k, hr, hs =>
        simp only [List.length_cons] at hlen hl ⊢
        have hk : isAri c.1 = true ∨ isCmp c.1 = true ∨ (isLog c.1 = true ∧ (x = 0 ∨ x = 1) ∧ (y = 0 ∨ y = 1)) := by first | exact Or.inl a1 | exact Or.inr (Or.inl a1) | exact Or.inr (Or.inr ⟨a1, hr.2.1 rfl, hr.1 rfl⟩)
        simp only [isAri, isCmp, isLog, Bool.or_eq_true, beq_iff_eq] at a1
        have el : lvS w c (y :: x :: k) = binS c.1 x y :: k := by unfold lvS; rw [if_neg (by omega), if_neg (by omega), if_neg (by omega), if_neg (by omega)]
        have ex : exp1 c = [(mop c.1, 0)] := by unfold exp1; rw [if_neg (by omega), if_neg (by omega), if_neg (by omega), if_neg (by omega)]
        have mb : 2 ≤ mop c.1 ∧ mop c.1 < 12 ∧ mop c.1 ≠ 9 := mop_rng _
        rw [ex] at hc1 hf hq go
        simp only [List.length_cons, List.length_nil, Nat.zero_add] at hc1 hf hq go
        obtain ⟨m, rfl⟩ : ∃ m, fuel = m + 1 := ⟨fuel - 1, by omega⟩
        rw [mo_bin (q := q) (k := k.length) (m := m) (op := mop c.1) (x := x) (y := y) (z := binS c.1 x y) hv (by omega) he (by omega) (hc1 0 (by omega)).1 mb hs.2.1 hs.1 (fun μ1 => mo_twoOf c.1 x y μ1 hk)]
        have := go (up2 μ 79 k.length (binS c.1 x y)) m (by omega) (by rw [el, up2_row]; exact ⟨fu_same _ _ _, stR_up (Nat.le_refl _) hs.2.2⟩) (by simp; omega) (upO _ _ _ (off_refl _ _))
        rw [el] at this ⊢
        exact this)
