/-! L3: THE LAW'S CODES AND WHAT THEY COME TO -/
/-- a code: operation and number; in the class operation * 10000 + number -/
def binS (op : Nat) (x y : Int32) : Int32 := if op = 43 then x + y else if op = 45 then x - y else if op = 42 then x * y else if op = 60 then (if x < y then 1 else 0) else if op = 61 then (if x = y then 1 else 0) else if op = 62 then (if y < x then 1 else 0) else if op = 6 then x &&& y else x ||| y
def lvS (w : Nat → Int32) (c : Nat × Nat) (st : List Int32) : List Int32 :=
  if c.1 = 30 then nI c.2 :: st
  else if 8 ≤ c.1 ∧ c.1 < 18 then w (c.1 - 8) :: st
  else if c.1 = 7 then (match st with | x :: r => (if x = 0 then 1 else 0) :: r | [] => [])
  else if c.1 = 47 then (match st with | x :: r => x / nI c.2 :: r | [] => [])
  else (match st with | y :: x :: r => binS c.1 x y :: r | _ => [])
def runS (w : Nat → Int32) : List (Nat × Nat) → List Int32 → List Int32
  | [], st => st
  | c :: cs, st => runS w cs (lvS w c st)
def isAri (op : Nat) : Bool := op == 43 || op == 45 || op == 42
def isCmp (op : Nat) : Bool := op == 60 || op == 61 || op == 62
def isLog (op : Nat) : Bool := op == 5 || op == 6
/-- which codes may come, by what lies on the stack (true: 0 or 1) -/
def ty1 (c : Nat × Nat) (ts : List Bool) : Option (List Bool) :=
  if c.1 = 30 then (if c.2 < 10000 ∧ ts.length < 32 then some (false :: ts) else none)
  else if 8 ≤ c.1 ∧ c.1 < 18 then (if c.2 = 0 ∧ ts.length < 32 then some (false :: ts) else none)
  else if c.1 = 7 then (match ts with | true :: r => if c.2 = 0 then some (true :: r) else none | _ => none)
  else if c.1 = 47 then (match ts with | false :: r => if 0 < c.2 ∧ c.2 < 10000 then some (false :: r) else none | _ => none)
  else if isAri c.1 then (match ts with | false :: false :: r => if c.2 = 0 then some (false :: r) else none | _ => none)
  else if isCmp c.1 then (match ts with | false :: false :: r => if c.2 = 0 then some (true :: r) else none | _ => none)
  else if isLog c.1 then (match ts with | true :: true :: r => if c.2 = 0 then some (true :: r) else none | _ => none)
  else none
def runT : List (Nat × Nat) → List Bool → Option (List Bool)
  | [], ts => some ts
  | c :: cs, ts => match ty1 c ts with | none => none | some t => runT cs t
theorem runT_app (a b : List (Nat × Nat)) (ts : List Bool) : runT (a ++ b) ts = match runT a ts with | none => none | some t => runT b t := by
  induction a generalizing ts with
  | nil => rfl
  | cons c cs ih =>
    show (match ty1 c ts with | none => none | some t => runT (cs ++ b) t) = _
    show _ = match (match ty1 c ts with | none => none | some t => runT cs t) with | none => none | some t => runT b t
    cases ty1 c ts with
    | none => rfl
    | some t => exact ih t
def TyR : List Bool → List Int32 → Prop
  | [], [] => True
  | t :: ts, x :: st => (t = true → x = 0 ∨ x = 1) ∧ TyR ts st
  | _, _ => False
theorem tyR_len : ∀ {ts : List Bool} {st : List Int32}, TyR ts st → ts.length = st.length
  | [], [], _ => rfl
  | _ :: ts, _ :: st, h => by simp [tyR_len (ts := ts) (st := st) h.2]
  | [], _ :: _, h => h.elim
  | _ :: _, [], h => h.elim
/-- the four shapes of a code that may come -/
theorem ty1_cases {c : Nat × Nat} {ts ts' : List Bool} (h : ty1 c ts = some ts') :
    (c.1 = 30 ∧ c.2 < 10000 ∧ ts.length < 32 ∧ ts' = false :: ts) ∨ (8 ≤ c.1 ∧ c.1 < 18 ∧ c.2 = 0 ∧ ts.length < 32 ∧ ts' = false :: ts) ∨ (c.1 = 7 ∧ c.2 = 0 ∧ ∃ r, ts = true :: r ∧ ts' = true :: r) ∨ (c.1 = 47 ∧ 0 < c.2 ∧ c.2 < 10000 ∧ ∃ r, ts = false :: r ∧ ts' = false :: r) ∨ (c.2 = 0 ∧ isAri c.1 = true ∧ ∃ r, ts = false :: false :: r ∧ ts' = false :: r) ∨ (c.2 = 0 ∧ isCmp c.1 = true ∧ ∃ r, ts = false :: false :: r ∧ ts' = true :: r) ∨ (c.2 = 0 ∧ isLog c.1 = true ∧ ∃ r, ts = true :: true :: r ∧ ts' = true :: r) := by
  unfold ty1 at h
  split at h
  · split at h
    · rename_i a b; cases h; exact Or.inl ⟨a, b.1, b.2, rfl⟩
    · cases h
  · split at h
    · split at h
      · rename_i a b; cases h; exact Or.inr (Or.inl ⟨a.1, a.2, b.1, b.2, rfl⟩)
      · cases h
    · split at h
      · split at h
        · split at h
          · rename_i a x r b; cases h; exact Or.inr (Or.inr (Or.inl ⟨a, b, r, rfl, rfl⟩))
          · cases h
        · cases h
      · split at h
        · split at h
          · split at h
            · rename_i a x r b; cases h; exact Or.inr (Or.inr (Or.inr (Or.inl ⟨a, b.1, b.2, r, rfl, rfl⟩)))
            · cases h
          · cases h
        · split at h
          · split at h
            · split at h
              · rename_i a x r b; cases h; exact Or.inr (Or.inr (Or.inr (Or.inr (Or.inl ⟨b, a, r, rfl, rfl⟩))))
              · cases h
            · cases h
          · split at h
            · split at h
              · split at h
                · rename_i a x r b; cases h; exact Or.inr (Or.inr (Or.inr (Or.inr (Or.inr (Or.inl ⟨b, a, r, rfl, rfl⟩)))))
                · cases h
              · cases h
            · split at h
              · split at h
                · split at h
                  · rename_i a x r b; cases h; exact Or.inr (Or.inr (Or.inr (Or.inr (Or.inr (Or.inr ⟨b, a, r, rfl, rfl⟩)))))
                  · cases h
                · cases h
              · cases h
/-- which rows stay -/
def Off (R : List Nat) (μ μ' : Mu) : Prop := ∀ k, k ∉ R → μ' k = μ k
theorem off_refl (R : List Nat) (μ : Mu) : Off R μ μ := fun _ _ => rfl
theorem off_trans {R : List Nat} {a b c : Mu} (h1 : Off R a b) (h2 : Off R b c) : Off R a c := fun k hk => (h2 k hk).trans (h1 k hk)
theorem off_up {R : List Nat} {μ : Mu} {a i : Nat} {v : Int32} (h : a ∈ R) : Off R μ (up2 μ a i v) := fun k hk => up2_ne (fun z => hk (z ▸ h))
theorem off_mono {R R' : List Nat} {μ μ' : Mu} (h : ∀ k, k ∈ R → k ∈ R') (h1 : Off R μ μ') : Off R' μ μ' := fun k hk => h1 k (fun z => hk (h k z))
/-- a stack in a row -/
def StR (row : Nat → Int32) : List Int32 → Prop
  | [] => True
  | x :: r => row r.length = x ∧ StR row r
theorem stR_up {row : Nat → Int32} {i : Nat} {v : Int32} : ∀ {st : List Int32}, st.length ≤ i → StR row st → StR (upd row i v) st
  | [], _, _ => trivial
  | x :: r, h, ⟨h1, h2⟩ => by
    simp only [List.length_cons] at h
    exact ⟨by rw [fu_off (by omega), h1], stR_up (by omega) h2⟩
theorem ite01 (c : Prop) [Decidable c] : (if c then (1 : Int32) else 0) = 0 ∨ (if c then (1 : Int32) else 0) = 1 := by
  by_cases h : c
  · rw [if_pos h]; exact Or.inr rfl
  · rw [if_neg h]; exact Or.inl rfl
theorem binS_ty {op : Nat} {x y : Int32} (h : isCmp op = true ∨ (isLog op = true ∧ (x = 0 ∨ x = 1) ∧ (y = 0 ∨ y = 1))) : binS op x y = 0 ∨ binS op x y = 1 := by
  rcases h with h | ⟨h, h1, h2⟩
  · simp only [isCmp, Bool.or_eq_true, beq_iff_eq] at h
    rcases h with (rfl | rfl) | rfl <;> exact ite01 _
  · simp only [isLog, Bool.or_eq_true, beq_iff_eq] at h
    rcases h with rfl | rfl <;> rcases h1 with rfl | rfl <;> rcases h2 with rfl | rfl <;> decide
theorem ty_step {c : Nat × Nat} {ts ts' : List Bool} {st : List Int32} {w : Nat → Int32} (h : ty1 c ts = some ts') (hr : TyR ts st) : TyR ts' (lvS w c st) := by
  rcases ty1_cases h with ⟨a, b, d, rfl⟩ | ⟨a, b, d, e, rfl⟩ | ⟨a, b, r, rfl, rfl⟩ | ⟨a, b, d, r, rfl, rfl⟩ | ⟨a, b, r, rfl, rfl⟩ | ⟨a, b, r, rfl, rfl⟩ | ⟨a, b, r, rfl, rfl⟩
  · unfold lvS; rw [if_pos a]; exact ⟨fun z => (by cases z), hr⟩
  · unfold lvS; rw [if_neg (by omega), if_pos ⟨a, b⟩]; exact ⟨fun z => (by cases z), hr⟩
  · match st, hr with
    | x :: q, hr =>
      unfold lvS; rw [if_neg (by omega), if_neg (by omega), if_pos a]
      refine ⟨fun _ => ?_, hr.2⟩
      split <;> simp
  · match st, hr with
    | x :: q, hr =>
      unfold lvS; rw [if_neg (by omega), if_neg (by omega), if_neg (by omega), if_pos a]
      exact ⟨fun z => (by cases z), hr.2⟩
  · match st, hr with
    | y :: x :: q, hr =>
      simp only [isAri, Bool.or_eq_true, beq_iff_eq] at b
      unfold lvS; rw [if_neg (by omega), if_neg (by omega), if_neg (by omega), if_neg (by omega)]
      exact ⟨fun z => (by cases z), hr.2.2⟩
  · match st, hr with
    | y :: x :: q, hr =>
      have b' := b
      simp only [isCmp, Bool.or_eq_true, beq_iff_eq] at b
      unfold lvS; rw [if_neg (by omega), if_neg (by omega), if_neg (by omega), if_neg (by omega)]
      exact ⟨fun _ => binS_ty (Or.inl b'), hr.2.2⟩
  · match st, hr with
    | y :: x :: q, hr =>
      have b' := b
      simp only [isLog, Bool.or_eq_true, beq_iff_eq] at b
      unfold lvS; rw [if_neg (by omega), if_neg (by omega), if_neg (by omega), if_neg (by omega)]
      exact ⟨fun _ => binS_ty (Or.inr ⟨b', hr.2.1 rfl, hr.1 rfl⟩), hr.2.2⟩
def encC (c : Nat × Nat) : Int32 := nI (c.1 * 10000 + c.2)
theorem lw_pair (op : Nat) (x y : Int32) (μ : Mu) (h : isAri op = true ∨ isCmp op = true ∨ isLog op = true) : Lw_pair (nI op) x y μ = some (binS op x y, μ) := by
  simp only [isAri, isCmp, isLog, Bool.or_eq_true, beq_iff_eq] at h
  rcases h with ((rfl | rfl) | rfl) | ((rfl | rfl) | rfl) | (rfl | rfl)
  all_goals (unfold Lw_pair binS; simp (disch := omega) only [eq_li])
  all_goals simp
  · by_cases q : y ≤ x
    · rw [if_pos q, if_neg (by intro z; exact absurd q (fa_of_lt z).2.1)]
    · rw [if_neg q, if_pos (fa_of_nle q)]
  · split <;> rfl
  · by_cases q : x ≤ y
    · rw [if_pos q, if_neg (by intro z; exact absurd q (fa_of_lt z).2.1)]
    · rw [if_neg q, if_pos (fa_of_nle q)]
theorem lp_succ {α : Type} (F : α → α) (z : α) (n : Nat) : lp F z (n + 1) = F (lp F z n) := rfl
set_option maxHeartbeats 1000000 in
/-- the class's value -/
theorem lw_loop {a r3 : Nat} {w : Nat → Int32} {size : Nat} (h3 : r3 ≠ a + 6) (hsz : size ≤ 400) : ∀ (cs : List (Nat × Nat)) (q : Nat) (st : List Int32) (ts ts' : List Bool) (fuel : Nat) (μ : Mu), (∀ i, i < cs.length → μ (a + 5) (q + i) = encC (cs.getD i (0, 0))) → runT cs ts = some ts' → TyR ts st → ts.length ≤ 32 → StR (μ (a + 6)) st → cs.length < fuel → q + cs.length ≤ size → μ a 1 = nI size → (∀ k, k < 10 → μ r3 k = w k) →
    Ev (Lw_value_10 a r3 10 (nI (q + cs.length)) fuel (nI st.length) (nI q) μ) (fun r μ' => r = (runS w cs st).headD 0 ∧ Off [a + 6] μ μ') := by
  intro cs
  induction cs with
  | nil =>
    intro q st ts ts' fuel μ hc ht hr hl hs hf hq h1 hw
    obtain ⟨m, rfl⟩ : ∃ m, fuel = m + 1 := ⟨fuel - 1, by simp at hf; omega⟩
    have hlen := tyR_len hr
    unfold Lw_value_10
    rw [lp_succ]
    generalize lp _ _ m = A
    unfold Lw_value_10b Lw_value_205
    simp only [List.length_nil, Nat.add_zero] at hq ⊢
    rw [if_pos (nI_le (Nat.le_refl _) (by omega))]
    match st, hs with
    | [], _ => rw [if_pos (by decide)]; exact ev_some ⟨rfl, off_refl _ _⟩
    | x :: r, hs =>
      simp only [List.length_cons] at hlen ⊢
      rw [if_neg (nI_nle (by omega) (by omega)), nI_pred, ldA_nI (by omega) (by omega)]
      exact ev_some ⟨hs.1, off_refl _ _⟩
  | cons c cs ih =>
    intro q st ts ts' fuel μ hc ht hr hl hs hf hq h1 hw
    obtain ⟨m, rfl⟩ : ∃ m, fuel = m + 1 := ⟨fuel - 1, by simp at hf; omega⟩
    have hlen := tyR_len hr
    have ht' : ∃ t, ty1 c ts = some t ∧ runT cs t = some ts' := by
      have : (match ty1 c ts with | none => none | some t => runT cs t) = some ts' := ht
      cases hty : ty1 c ts with
      | none => rw [hty] at this; cases this
      | some t => rw [hty] at this; exact ⟨t, rfl, this⟩
    obtain ⟨t, hty, ht2⟩ := ht'
    have hrs := ty_step (w := w) hty hr
    have hrun : runS w (c :: cs) st = runS w cs (lvS w c st) := rfl
    have hlc : (c :: cs).length = cs.length + 1 := rfl
    rw [hlc] at hf hq hc ⊢
    rw [hrun]
    have hc0 : μ (a + 5) q = encC c := hc 0 (by omega)
    have hcn : ∀ μ1 : Mu, μ1 (a + 5) = μ (a + 5) → ∀ i, i < cs.length → μ1 (a + 5) (q + 1 + i) = encC (cs.getD i (0, 0)) := by
      intro μ1 e i hi
      rw [e]
      have := hc (i + 1) (by omega)
      rw [show q + (i + 1) = q + 1 + i by omega] at this
      rw [this]; rfl
    -- the step goes on with a new stack
    have go : ∀ (μ1 : Mu), μ1 (a + 5) = μ (a + 5) → StR (μ1 (a + 6)) (lvS w c st) → μ1 a 1 = nI size → (∀ k, k < 10 → μ1 r3 k = w k) → t.length ≤ 32 → Off [a + 6] μ μ1 → Ev (Lw_value_10 a r3 10 (nI (q + (cs.length + 1))) m (nI (lvS w c st).length) (nI (q + 1)) μ1) (fun r μ' => r = (runS w cs (lvS w c st)).headD 0 ∧ Off [a + 6] μ μ') := by
      intro μ1 e1 e2 e3 e4 e5 e6
      have := ih (q + 1) (lvS w c st) t ts' m μ1 (hcn μ1 e1) ht2 hrs e5 e2 (by omega) (by omega) e3 e4
      rw [show q + 1 + cs.length = q + (cs.length + 1) by omega] at this
      exact ev_mono this (fun r μ' z => ⟨z.1, off_trans e6 z.2⟩)
    have hn : c.2 < 10000 ∧ c.1 < 100 := by
      rcases ty1_cases hty with ⟨a, b, d, rfl⟩ | ⟨a, b, d, e, rfl⟩ | ⟨a, b, r, rfl, rfl⟩ | ⟨a, b, d, r, rfl, rfl⟩ | ⟨a, b, r, rfl, rfl⟩ | ⟨a, b, r, rfl, rfl⟩ | ⟨a, b, r, rfl, rfl⟩ <;> (try simp only [isAri, isCmp, isLog, Bool.or_eq_true, beq_iff_eq] at b) <;> omega
    obtain ⟨hn2, hn1⟩ := hn
    have ed : encC c / 10000 = nI c.1 := by
      unfold encC
      rw [show (10000 : Int32) = nI 10000 from rfl, pk_div (by omega) (by omega) (by omega)]; congr 1; omega
    have er : jrem (encC c) 10000 = nI c.2 := by
      unfold encC
      rw [show (10000 : Int32) = nI 10000 from rfl, jrem_nI (by omega) (by omega) (by omega)]; congr 1; omega
    have up5 : ∀ (i : Nat) (v : Int32), (up2 μ (a + 6) i v) (a + 5) = μ (a + 5) := fun i v => up2_ne (by omega)
    have up1 : ∀ (i : Nat) (v : Int32), (up2 μ (a + 6) i v) a 1 = nI size := fun i v => by rw [up2_ne (by omega)]; exact h1
    have up3 : ∀ (i : Nat) (v : Int32), ∀ k, k < 10 → (up2 μ (a + 6) i v) r3 k = w k := fun i v k hk => by rw [up2_ne h3]; exact hw k hk
    have upO : ∀ (i : Nat) (v : Int32), Off [a + 6] μ (up2 μ (a + 6) i v) := fun i v => off_up List.mem_cons_self
    unfold Lw_value_10
    rw [lp_succ]
    show Ev (Lw_value_10b a r3 10 (Lw_value_10 a r3 10 (nI (q + (cs.length + 1))) m) (nI (q + (cs.length + 1))) (nI st.length) (nI q) μ) _
    unfold Lw_value_10b
    rw [if_neg (nI_ge (by omega) (by omega)), gF_eq, h1, if_neg (nI_ge (by omega) (by omega)), ldA_nI (by omega) (by omega), ldA_nI (by omega) (by omega), hc0, ed, er, show Int32.ofNat 10 = nI 10 from rfl]
    rcases ty1_cases hty with ⟨a1, b1, d1, rfl⟩ | ⟨a1, b1, d1, e1, rfl⟩ | ⟨a1, b1, r, rfl, rfl⟩ | ⟨a1, b1, d1, r, rfl, rfl⟩ | ⟨b1, a1, r, rfl, rfl⟩ | ⟨b1, a1, r, rfl, rfl⟩ | ⟨b1, a1, r, rfl, rfl⟩
    · -- a number
      have el : lvS w c st = nI c.2 :: st := by unfold lvS; rw [if_pos a1]
      rw [a1, if_pos (by decide)]
      unfold Lw_value_77 Lw_value_106 Lw_value_199
      rw [if_neg (by rw [show (32 : Int32) = nI 32 from rfl]; exact nI_ge (by omega) (by omega)), if_pos (by decide), stA_nI (by omega) (by omega), nI_1, nI_1]
      have := go (up2 μ (a + 6) st.length (nI c.2)) (up5 _ _) (by rw [el, up2_row]; exact ⟨fu_same _ _ _, stR_up (Nat.le_refl _) hs⟩) (up1 _ _) (up3 _ _) (by simp; omega) (upO _ _)
      rw [el] at this ⊢
      exact this
    · -- a word
      have el : lvS w c st = w (c.1 - 8) :: st := by unfold lvS; rw [if_neg (by omega), if_pos ⟨a1, b1⟩]
      have e8 : nI c.1 - 8 = nI (c.1 - 8) := pk_sub (b := 8) a1
      rw [if_neg (by rw [show (30 : Int32) = nI 30 from rfl, nI_eq (by omega) (by omega)]; omega), e8, if_neg (nI_pos (by omega)), if_neg (nI_ge (by omega) (by omega))]
      unfold Lw_value_77 Lw_value_106 Lw_value_199
      rw [if_neg (by rw [show (32 : Int32) = nI 32 from rfl]; exact nI_ge (by omega) (by omega)), if_neg (by rw [show (30 : Int32) = nI 30 from rfl, nI_eq (by omega) (by omega)]; omega), ldA_nI (by omega) (by omega), stA_nI (by omega) (by omega), nI_1, nI_1, hw _ (by omega)]
      have := go (up2 μ (a + 6) st.length (w (c.1 - 8))) (up5 _ _) (by rw [el, up2_row]; exact ⟨fu_same _ _ _, stR_up (Nat.le_refl _) hs⟩) (up1 _ _) (up3 _ _) (by simp; omega) (upO _ _)
      rw [el] at this ⊢
      exact this
    · -- not
      match st, hr, hs with
      | x :: k, hr, hs =>
        simp only [List.length_cons] at hlen hl ⊢
        have el : lvS w c (x :: k) = (if x = 0 then 1 else 0) :: k := by unfold lvS; rw [if_neg (by omega), if_neg (by omega), if_pos a1]
        rw [a1, if_neg (by decide), if_pos (by decide)]
        unfold Lw_value_113 Lw_value_127 Lw_value_199
        rw [if_pos (by decide), if_neg (nI_nle (by omega) (by omega)), nI_pred, ldA_nI (by omega) (by omega), hs.1]
        unfold Lw_single
        rw [if_pos (by decide)]
        have e2 : (if x = 0 then some ((1 : Int32), μ) else some (0, μ)) = some (if x = 0 then 1 else 0, μ) := by split <;> rfl
        rw [e2, cl_eq, stA_nI (by omega) (by omega), nI_1]
        have := go (up2 μ (a + 6) k.length (if x = 0 then 1 else 0)) (up5 _ _) (by rw [el, up2_row]; exact ⟨fu_same _ _ _, stR_up (Nat.le_refl _) hs.2⟩) (up1 _ _) (up3 _ _) (by simp; omega) (upO _ _)
        rw [el] at this ⊢
        exact this
    · -- part
      match st, hr, hs with
      | x :: k, hr, hs =>
        simp only [List.length_cons] at hlen hl ⊢
        have el : lvS w c (x :: k) = x / nI c.2 :: k := by unfold lvS; rw [if_neg (by omega), if_neg (by omega), if_neg (by omega), if_pos a1]
        rw [a1, if_neg (by decide), if_neg (by decide), if_pos (by decide)]
        unfold Lw_value_113 Lw_value_127 Lw_value_199
        rw [if_neg (by decide), if_pos (by decide), if_neg (nI_nle (by omega) (by omega)), nI_pred, ldA_nI (by omega) (by omega), hs.1]
        unfold Lw_single
        rw [if_neg (by decide), if_neg (nI_ne0 b1 (by omega)), nz_eq (nI_ne0 b1 (by omega)), cl_eq, stA_nI (by omega) (by omega), nI_1]
        have := go (up2 μ (a + 6) k.length (x / nI c.2)) (up5 _ _) (by rw [el, up2_row]; exact ⟨fu_same _ _ _, stR_up (Nat.le_refl _) hs.2⟩) (up1 _ _) (up3 _ _) (by simp; omega) (upO _ _)
        rw [el] at this ⊢
        exact this
    all_goals (
      match st, hr, hs with
      | y :: x :: k, hr, hs =>
        simp only [List.length_cons] at hlen hl ⊢
        have hk : isAri c.1 = true ∨ isCmp c.1 = true ∨ isLog c.1 = true := by first | exact Or.inl a1 | exact Or.inr (Or.inl a1) | exact Or.inr (Or.inr a1)
        simp only [isAri, isCmp, isLog, Bool.or_eq_true, beq_iff_eq] at a1
        have el : lvS w c (y :: x :: k) = binS c.1 x y :: k := by unfold lvS; rw [if_neg (by omega), if_neg (by omega), if_neg (by omega), if_neg (by omega)]
        have ho : nI c.1 - 8 < 0 ∨ (¬ nI c.1 - 8 < 0 ∧ nI 10 ≤ nI c.1 - 8) := by
          rcases (show c.1 < 8 ∨ 18 ≤ c.1 by omega) with z | z
          · exact Or.inl (pk_sneg (b := 8) (by omega) z)
          · refine Or.inr ?_
            rw [show nI c.1 - 8 = nI (c.1 - 8) from pk_sub (b := 8) (by omega)]
            exact ⟨nI_pos (by omega), nI_le (by omega) (by omega)⟩
        have e113 : (if nI c.1 - 8 < 0 then Lw_value_113 a r3 10 (Lw_value_10 a r3 10 (nI (q + (cs.length + 1))) m) (nI (q + (cs.length + 1))) (nI (k.length + 1 + 1)) (nI q) (nI c.1) (nI c.2) μ else if nI 10 ≤ nI c.1 - 8 then Lw_value_113 a r3 10 (Lw_value_10 a r3 10 (nI (q + (cs.length + 1))) m) (nI (q + (cs.length + 1))) (nI (k.length + 1 + 1)) (nI q) (nI c.1) (nI c.2) μ else Lw_value_77 a r3 10 (Lw_value_10 a r3 10 (nI (q + (cs.length + 1))) m) (nI (q + (cs.length + 1))) (nI (k.length + 1 + 1)) (nI q) (nI c.1) (nI c.2) (nI c.1 - 8) μ) = Lw_value_113 a r3 10 (Lw_value_10 a r3 10 (nI (q + (cs.length + 1))) m) (nI (q + (cs.length + 1))) (nI (k.length + 1 + 1)) (nI q) (nI c.1) (nI c.2) μ := by
          rcases ho with z | ⟨z1, z2⟩
          · rw [if_pos z]
          · rw [if_neg z1, if_pos z2]
        rw [if_neg (by rw [show (30 : Int32) = nI 30 from rfl, nI_eq (by omega) (by omega)]; omega), e113]
        unfold Lw_value_113 Lw_value_199
        rw [if_neg (by rw [show (7 : Int32) = nI 7 from rfl, nI_eq (by omega) (by omega)]; omega), if_neg (by rw [show (47 : Int32) = nI 47 from rfl, nI_eq (by omega) (by omega)]; omega), if_neg (by rw [show (1 : Int32) = nI 1 from rfl]; exact nI_ge (by omega) (by omega)), pk_m1, nI_pred, ldA_nI (by omega) (by omega), ldA_nI (by omega) (by omega)]
        have e1 : μ (a + 6) k.length = x := hs.2.1
        have e2 : μ (a + 6) (k.length + 1) = y := hs.1
        rw [e1, e2, lw_pair _ _ _ _ hk, cl_eq, stA_nI (by omega) (by omega), nI_1]
        have := go (up2 μ (a + 6) k.length (binS c.1 x y)) (up5 _ _) (by rw [el, up2_row]; exact ⟨fu_same _ _ _, stR_up (Nat.le_refl _) hs.2.2⟩) (up1 _ _) (up3 _ _) (by simp; omega) (upO _ _)
        rw [el] at this ⊢
        exact this)
