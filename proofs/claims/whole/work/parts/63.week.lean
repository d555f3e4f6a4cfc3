/-! L3: WEEK: dates -/
def leapB (y : Nat) : Bool := y % 4 == 0 && (y % 100 != 0 || y % 400 == 0)
def monN : List Nat := [31, 28, 31, 30, 31, 30, 31, 31, 30, 31, 30, 31]
def mlN (y m : Nat) : Nat := if m = 2 ∧ leapB y = true then 29 else monN.getD (m - 1) 0
def msN (y : Nat) : Nat → Nat
  | 0 => 0
  | k + 1 => msN y k + mlN y (k + 1)
def ysN : Nat → Nat
  | 0 => 0
  | k + 1 => ysN k + (if leapB (1600 + k) then 366 else 365)
def dnN (y m d : Nat) : Nat := (d - 1) + msN y (m - 1) + ysN (y - 1600)
theorem mlN_m : ∀ m, 1 ≤ m → m ≤ 12 → ∀ y, 28 ≤ mlN y m ∧ mlN y m ≤ 31 := by
  intro m h1 h2 y
  unfold mlN
  by_cases c : m = 2 ∧ leapB y = true
  · rw [if_pos c]; omega
  · rw [if_neg c]
    have : ∀ m, m < 13 → 1 ≤ m → 28 ≤ monN.getD (m - 1) 0 ∧ monN.getD (m - 1) 0 ≤ 31 := by decide
    exact this m (by omega) h1
theorem msN_le (y : Nat) : ∀ k, k ≤ 12 → msN y k ≤ 31 * k := by
  intro k
  induction k with
  | zero => intro _; exact Nat.le_refl _
  | succ k ih =>
    intro h
    have := ih (by omega)
    have := (mlN_m (k + 1) (by omega) h y).2
    show msN y k + mlN y (k + 1) ≤ _
    omega
theorem ysN_eq : ∀ k, ysN k + ((1600 - 1) / 4 - (1600 - 1) / 100 + (1600 - 1) / 400) = 365 * k + ((1600 + k - 1) / 4 - (1600 + k - 1) / 100 + (1600 + k - 1) / 400) := by
  intro k
  induction k with
  | zero => rfl
  | succ k ih =>
    show ysN k + (if leapB (1600 + k) then 366 else 365) + _ = _
    have hl : (if leapB (1600 + k) = true then 366 else 365) = 365 + ((1600 + k) / 4 - (1600 + k) / 100 + (1600 + k) / 400) - ((1600 + k - 1) / 4 - (1600 + k - 1) / 100 + (1600 + k - 1) / 400) := by
      unfold leapB
      by_cases a : (1600 + k) % 4 = 0
      · by_cases b : (1600 + k) % 100 = 0
        · by_cases c : (1600 + k) % 400 = 0
          · simp [a, b, c]; omega
          · simp [a, b, c]; omega
        · simp [a, b]; omega
      · simp [a]; omega
    rw [hl]
    have e : 1600 + (k + 1) - 1 = 1600 + k := by omega
    rw [e]
    omega
theorem ysN_le (k : Nat) (h : k ≤ 800) : ysN k ≤ 300000 := by
  have := ysN_eq k
  omega
theorem dnN_le {y m d : Nat} (h1 : y ≤ 2400) (h2 : m ≤ 12) (h3 : d ≤ 31) : dnN y m d ≤ 300500 := by
  unfold dnN
  have := ysN_le (y - 1600) (by omega)
  have := msN_le y (m - 1) (by omega)
  omega
theorem leap_c {y : Nat} (hy : y < 2 ^ 31) {α : Type} (A B : α) : (if jrem (nI y) 4 = 0 then (if jrem (nI y) 100 = 0 then (if jrem (nI y) 400 = 0 then A else B) else A) else B) = if leapB y then A else B := by
  rw [rem_li hy (by omega) (by omega), rem_li hy (by omega) (by omega), rem_li hy (by omega) (by omega)]
  have z : ∀ n : Nat, 0 < n → n < 500 → (nI (y % n) = 0 ↔ y % n = 0) := fun n h0 h => nI_eq (b := 0) (by have := Nat.mod_lt y h0; omega) (by omega)
  unfold leapB
  by_cases a : y % 4 = 0
  · rw [if_pos ((z 4 (by omega) (by omega)).mpr a)]
    by_cases b : y % 100 = 0
    · rw [if_pos ((z 100 (by omega) (by omega)).mpr b)]
      by_cases c : y % 400 = 0
      · rw [if_pos ((z 400 (by omega) (by omega)).mpr c)]; simp [a, b, c]
      · rw [if_neg (fun q => c ((z 400 (by omega) (by omega)).mp q))]; simp [a, b, c]
    · rw [if_neg (fun q => b ((z 100 (by omega) (by omega)).mp q))]; simp [a, b]
  · rw [if_neg (fun q => a ((z 4 (by omega) (by omega)).mp q))]; simp [a]
theorem monL_at : ∀ k, k < 12 → monL.getD k 0 = nI (monN.getD k 0) := by decide
theorem ml_c (μ : Mu) {y m : Nat} (hy : y < 2 ^ 31) (h1 : 1 ≤ m) (h2 : m ≤ 12) : Sm_monthLength (nI y) (nI m) μ = some (nI (mlN y m), μ) := by
  unfold Sm_monthLength
  rw [if_neg (show ¬ nI m < 1 from nI_nlt (b := 1) h1 (by omega)), if_pos (show nI m ≤ 12 from nI_le (b := 12) h2 (by omega))]
  rw [leap_c hy]
  have h56 : Sm_monthLength_56 (nI m) μ = some (nI (monN.getD (m - 1) 0), μ) := by
    unfold Sm_monthLength_56 ldZ
    rw [show nI m - 1 = nI (m - 1) from pk_sub (b := 1) h1, if_pos ((inB_nI (by omega)).mpr (show m - 1 < monL.length from (show m - 1 < 12 by omega))), nI_clamp (by omega), monL_at _ (by omega)]
  unfold Sm_monthLength_36 Sm_monthLength_40 Sm_monthLength_41 mlN
  by_cases c : leapB y = true
  · rw [if_pos c]
    by_cases d : m = 2
    · subst d; rw [if_pos (by decide), if_neg (by decide), if_pos ⟨rfl, c⟩]; rfl
    · rw [if_neg (fun z : nI m = 2 => d ((nI_eq (b := 2) (by omega) (by omega)).mp z)), if_neg (show ¬ (m = 2 ∧ leapB y = true) from fun z => d z.1)]; exact h56
  · rw [if_neg c]
    by_cases d : m = 2
    · subst d; rw [if_pos (by decide), if_pos rfl, if_neg (fun z => c z.2)]; exact h56
    · rw [if_neg (fun z : nI m = 2 => d ((nI_eq (b := 2) (by omega) (by omega)).mp z)), if_neg (show ¬ (m = 2 ∧ leapB y = true) from fun z => d z.1)]; exact h56
theorem ml_m (ν : Mu) {y m : Nat} (hy : y < 2 ^ 31) (h1 : 1 ≤ m) (h2 : m ≤ 12) : Mo_daysOfMonth 59 (nI y) (nI m) ν = some (nI (mlN y m), ν) := by
  have hl : Mo_isLeap 59 (nI y) ν = some (if leapB y then 1 else 0, ν) := by
    unfold Mo_isLeap Mo_isLeap_21
    rw [leap_c hy]
    split <;> rfl
  unfold Mo_daysOfMonth Mo_daysOfMonth_44 mlN
  rw [hl, cl_eq]
  by_cases d : m = 2
  · subst d
    rw [if_pos (by decide)]
    by_cases c : leapB y = true
    · rw [if_pos c, if_neg (by decide), if_pos ⟨rfl, c⟩]; rfl
    · rw [if_neg c, if_pos rfl, if_neg (fun z => c z.2)]; rfl
  · rw [if_neg (fun z : nI m = 2 => d ((nI_eq (b := 2) (by omega) (by omega)).mp z)), if_neg (show ¬ (m = 2 ∧ leapB y = true) from fun z => d z.1)]
    have : ∀ m, m < 13 → 1 ≤ m → m ≠ 2 → (if nI m = 4 then some ((30 : Int32), ()) else if nI m = 6 then some (30, ()) else if nI m = 9 then some (30, ()) else if nI m = 11 then some (30, ()) else some (31, ())) = some (nI (monN.getD (m - 1) 0), ()) := by decide
    have t := this m (by omega) h1 d
    by_cases a4 : nI m = 4
    · rw [if_pos a4] at t ⊢; injection t with t; injection t with t1 t2; rw [t1]
    rw [if_neg a4] at t ⊢
    by_cases a6 : nI m = 6
    · rw [if_pos a6] at t ⊢; injection t with t; injection t with t1 t2; rw [t1]
    rw [if_neg a6] at t ⊢
    by_cases a9 : nI m = 9
    · rw [if_pos a9] at t ⊢; injection t with t; injection t with t1 t2; rw [t1]
    rw [if_neg a9] at t ⊢
    by_cases a11 : nI m = 11
    · rw [if_pos a11] at t ⊢; injection t with t; injection t with t1 t2; rw [t1]
    rw [if_neg a11] at t ⊢
    injection t with t; injection t with t1 t2; rw [t1]
theorem dn_c (μ : Mu) {y m d : Nat} (y1 : 1600 ≤ y) (y2 : y ≤ 2400) (m1 : 1 ≤ m) (m2 : m ≤ 12) (d1 : 1 ≤ d) (d2 : d ≤ 31) : Sm_dayNumber (nI y) (nI m) (nI d) μ = some (nI (dnN y m d), μ) := by
  have hle := dnN_le (y := y) (m := m) (d := d) y2 m2 d2
  unfold Sm_dayNumber
  rw [show nI d - 1 = nI (d - 1) from pk_sub (b := 1) d1]
  have fin : ∀ A : Int32, A = nI (d - 1 + msN y (m - 1)) → Sm_dayNumber_37 (nI y) A μ = some (nI (dnN y m d), μ) := by
    rintro A rfl
    unfold Sm_dayNumber_37 Sm_leapYearsTo
    rw [show nI y - 1 = nI (y - 1) from pk_sub (b := 1) (by omega), show nI y - 1600 = nI (y - 1600) from pk_sub (b := 1600) y1]
    have e4 : nI (y - 1) / 4 = nI ((y - 1) / 4) := pk_div (d := 4) (by omega) (by omega) (by omega)
    have e100 : nI (y - 1) / 100 = nI ((y - 1) / 100) := pk_div (d := 100) (by omega) (by omega) (by omega)
    have e400 : nI (y - 1) / 400 = nI ((y - 1) / 400) := pk_div (d := 400) (by omega) (by omega) (by omega)
    rw [cl_eq, cl_eq, e4, e100, e400, pk_sub (by omega), nI_add, show (365 : Int32) * nI (y - 1600) = nI (365 * (y - 1600)) from pk_mul 365 _, nI_add, nI_add, show ((1599 : Int32) / 4 - 1599 / 100 + 1599 / 400) = nI 387 by decide, pk_sub (by omega)]
    have := ysN_eq (y - 1600)
    rw [show 1600 + (y - 1600) - 1 = y - 1 by omega] at this
    unfold dnN
    refine congrArg (fun n => some (nI n, μ)) ?_
    omega
  have e0 : d - 1 = d - 1 + msN y (1 - 1) := by rw [show msN y (1 - 1) = 0 from rfl, Nat.add_zero]
  rw [e0]
  show Sm_dayNumber_7 (nI y) (nI m) FU (nI (d - 1 + msN y (1 - 1))) (nI 1) μ = some (nI (dnN y m d), μ)
  unfold Sm_dayNumber_7
  refine lp_fu (F := fun kb => Sm_dayNumber_7b kb (nI y) (nI m)) (z := fun _ _ _ => none) m (fun k A => 1 ≤ k → A (nI (d - 1 + msN y (k - 1))) (nI k) μ = some (nI (dnN y m d), μ)) (by omega) ?_ ?_ 1 m1 (Nat.le_refl _)
  · intro A _
    show Sm_dayNumber_7b A (nI y) (nI m) _ (nI m) μ = _
    unfold Sm_dayNumber_7b
    rw [if_pos (nI_le (Nat.le_refl _) (by omega))]
    exact fin _ rfl
  · intro k A hk ih hk1
    show Sm_dayNumber_7b A (nI y) (nI m) _ (nI k) μ = _
    unfold Sm_dayNumber_7b
    have e : msN y (k + 1 - 1) = msN y (k - 1) + mlN y k := by
      obtain ⟨j, rfl⟩ : ∃ j, k = j + 1 := ⟨k - 1, by omega⟩
      rfl
    rw [if_neg (nI_ge hk (by omega)), if_neg (show ¬ (12 : Int32) < nI k from nI_nlt (a := 12) (by omega) (by omega)), ml_c μ (by omega) hk1 (by omega), cl_eq, nI_add, nI_1]
    have := ih (by omega)
    rw [e, ← Nat.add_assoc] at this
    exact this
theorem dn_m (ν : Mu) {y m d : Nat} (y1 : 1600 ≤ y) (y2 : y ≤ 2400) (m1 : 1 ≤ m) (m2 : m ≤ 12) (d1 : 1 ≤ d) (d2 : d ≤ 31) : Mo_dayNumber 59 (nI y) (nI m) (nI d) ν = some (nI (dnN y m d), ν) := by
  have months : Mo_dayNumber_48 59 (nI y) (nI m) FU (nI (d - 1 + ysN (y - 1600))) 1 ν = some (nI (dnN y m d), ν) := by
    have e0 : d - 1 + ysN (y - 1600) = d - 1 + ysN (y - 1600) + msN y (1 - 1) := by rw [show msN y (1 - 1) = 0 from rfl, Nat.add_zero]
    rw [e0]
    show Mo_dayNumber_48 59 (nI y) (nI m) FU (nI (d - 1 + ysN (y - 1600) + msN y (1 - 1))) (nI 1) ν = some (nI (dnN y m d), ν)
    unfold Mo_dayNumber_48
    refine lp_fu (F := fun kb => Mo_dayNumber_48b 59 kb (nI y) (nI m)) (z := fun _ _ _ => none) m (fun k A => 1 ≤ k → A (nI (d - 1 + ysN (y - 1600) + msN y (k - 1))) (nI k) ν = some (nI (dnN y m d), ν)) (by omega) ?_ ?_ 1 m1 (Nat.le_refl _)
    · intro A _
      show Mo_dayNumber_48b 59 A (nI y) (nI m) _ (nI m) ν = _
      unfold Mo_dayNumber_48b
      rw [if_pos (nI_le (Nat.le_refl _) (by omega))]
      unfold dnN
      refine congrArg (fun n => some (nI n, ν)) ?_
      omega
    · intro k A hk ih hk1
      show Mo_dayNumber_48b 59 A (nI y) (nI m) _ (nI k) ν = _
      unfold Mo_dayNumber_48b
      have e : msN y (k + 1 - 1) = msN y (k - 1) + mlN y k := by
        obtain ⟨j, rfl⟩ : ∃ j, k = j + 1 := ⟨k - 1, by omega⟩
        rfl
      rw [if_neg (nI_ge hk (by omega)), ml_m ν (by omega) hk1 (by omega), cl_eq, nI_add, nI_1]
      have := ih (by omega)
      rw [e, ← Nat.add_assoc] at this
      exact this
  unfold Mo_dayNumber
  rw [show nI d - 1 = nI (d - 1) from pk_sub (b := 1) d1]
  have e0 : d - 1 = d - 1 + ysN (1600 - 1600) := by rw [show ysN (1600 - 1600) = 0 from rfl, Nat.add_zero]
  rw [e0]
  show Mo_dayNumber_10 59 (nI y) (nI m) FU (nI (d - 1 + ysN (1600 - 1600))) (nI 1600) ν = some (nI (dnN y m d), ν)
  unfold Mo_dayNumber_10
  refine lp_fu (F := fun kb => Mo_dayNumber_10b 59 kb (nI y) (nI m)) (z := fun _ _ _ => none) y (fun k A => 1600 ≤ k → A (nI (d - 1 + ysN (k - 1600))) (nI k) ν = some (nI (dnN y m d), ν)) (by omega) ?_ ?_ 1600 y1 (Nat.le_refl _)
  · intro A _
    show Mo_dayNumber_10b 59 A (nI y) (nI m) _ (nI y) ν = _
    unfold Mo_dayNumber_10b
    rw [if_pos (nI_le (Nat.le_refl _) (by omega))]
    exact months
  · intro k A hk ih hk1
    show Mo_dayNumber_10b 59 A (nI y) (nI m) _ (nI k) ν = _
    unfold Mo_dayNumber_10b Mo_dayNumber_36 Mo_isLeap Mo_isLeap_21
    have e : ysN (k + 1 - 1600) = ysN (k - 1600) + (if leapB k then 366 else 365) := by
      obtain ⟨j, rfl⟩ : ∃ j, k = 1600 + j := ⟨k - 1600, by omega⟩
      rw [show 1600 + j + 1 - 1600 = j + 1 by omega, show 1600 + j - 1600 = j by omega]; rfl
    have := ih (by omega)
    rw [e] at this
    rw [if_neg (nI_ge hk (by omega)), leap_c (by omega), nI_1]
    by_cases c : leapB k = true
    · rw [if_pos c, cl_eq, if_neg (by decide), show (366 : Int32) = nI 366 from rfl, nI_add]
      rw [if_pos c, ← Nat.add_assoc] at this
      exact this
    · rw [if_neg c, cl_eq, if_pos rfl, show (365 : Int32) = nI 365 from rfl, nI_add]
      rw [if_neg c, ← Nat.add_assoc] at this
      exact this
/-- a date: both know it alike -/
def okD (y m d : Int32) : Prop := ∃ a b c, y = nI a ∧ m = nI b ∧ d = nI c ∧ 1600 ≤ a ∧ a ≤ 2400 ∧ 1 ≤ b ∧ b ≤ 12 ∧ 1 ≤ c ∧ c ≤ mlN a b
theorem is_both (μ ν : Mu) (y m d : Int32) : (okD y m d ∧ Sm_isDate y m d μ = some (1, μ) ∧ Mo_isDate 59 y m d ν = some (1, ν)) ∨ (¬ okD y m d ∧ Sm_isDate y m d μ = some (0, μ) ∧ Mo_isDate 59 y m d ν = some (0, ν)) := by
  unfold Sm_isDate Mo_isDate
  rw [isIn_eq, cl_eq]
  have nok : ∀ (a : Nat) (lo : Nat) (hi : Nat) (v : Int32), v = nI a → lo ≤ a → a ≤ hi → hi < 2 ^ 31 → (¬ v < nI lo) ∧ ¬ nI hi < v := by
    rintro a lo hi v rfl h1 h2 h3
    exact ⟨nI_nlt h1 (by omega), nI_nlt h2 (by omega)⟩
  by_cases c1 : y < 1600
  · rw [if_pos c1, if_pos (Or.inl c1), if_pos rfl]
    exact Or.inr ⟨by rintro ⟨a, b, c, e, -, -, h1, h2, -⟩; exact (nok a 1600 2400 y e h1 h2 (by omega)).1 c1, rfl, rfl⟩
  by_cases c2 : 2400 < y
  · rw [if_neg c1, if_pos c2, if_pos (Or.inr c2), if_pos rfl]
    exact Or.inr ⟨by rintro ⟨a, b, c, e, -, -, h1, h2, -⟩; exact (nok a 1600 2400 y e h1 h2 (by omega)).2 c2, rfl, rfl⟩
  rw [if_neg c1, if_neg c2, if_neg (show ¬ (y < 1600 ∨ 2400 < y) from fun z => z.elim c1 c2), if_neg (show ¬ (1 : Int32) = 0 by decide), isIn_eq, cl_eq]
  obtain ⟨a, a1, a2, rfl⟩ := nI_rng (lo := 1600) (n := 2400) (by omega) (by omega) c1 c2
  by_cases cm : m < 1 ∨ 12 < m
  · rw [if_pos cm, if_pos rfl]
    have hno : ¬ okD (nI a) m d := by
      rintro ⟨a', b, c, -, e, -, -, -, h1, h2, -⟩
      have := nok b 1 12 m e h1 h2 (by omega)
      exact cm.elim this.1 this.2
    refine Or.inr ⟨hno, ?_, rfl⟩
    by_cases cd : d < 1
    · rw [if_pos cd]
    · rw [if_neg cd]
      have hml : Sm_monthLength (nI a) m μ = some (0, μ) := by
        unfold Sm_monthLength
        rcases cm with z | z
        · rw [if_pos z]
        · by_cases z1 : m < 1
          · rw [if_pos z1]
          · rw [if_neg z1, if_neg (fun y => absurd y (fa_of_lt z).2.1)]
      rw [hml, cl_eq, if_pos]
      have : ¬ d < nI 1 := cd
      rw [fa_lt, nI_toInt (by omega)] at this
      rw [fa_lt, show (0 : Int32).toInt = 0 by decide]; omega
  · rw [if_neg cm, if_neg (show ¬ (1 : Int32) = 0 by decide)]
    obtain ⟨b, b1, b2, rfl⟩ := nI_rng (lo := 1) (n := 12) (by omega) (by omega) (fun z => cm (Or.inl z)) (fun z => cm (Or.inr z))
    have hm := mlN_m b b1 b2 a
    rw [ml_m ν (by omega) b1 b2, cl_eq, isIn_eq, cl_eq]
    by_cases cd : d < 1
    · rw [if_pos cd, if_pos (Or.inl cd), if_pos rfl]
      refine Or.inr ⟨?_, rfl, rfl⟩
      rintro ⟨a', b', c, e1, e2, e, -, -, q3, q4, h1, h2⟩
      exact nI_nlt (a := c) (b := 1) h1 (by
        have := (nI_eq (by omega) (by omega)).mp e2
        rcases Nat.lt_or_ge c (2 ^ 31) with z | z
        · exact z
        · have hb' := mlN_m b' (by omega) (by omega) a'
          omega) (by rw [← e]; exact cd)
    · rw [if_neg cd, ml_c μ (by omega) b1 b2, cl_eq]
      by_cases ce : nI (mlN a b) < d
      · rw [if_pos ce, if_pos (Or.inr ce), if_pos rfl]
        refine Or.inr ⟨?_, rfl, rfl⟩
        rintro ⟨a', b', c, e1, e2, e, q1, q2, q3, q4, h1, h2⟩
        have f1 := (nI_eq (by omega) (by omega)).mp e1
        have f2 := (nI_eq (by omega) (by omega)).mp e2
        subst f1; subst f2
        rw [e] at ce
        exact nI_nlt h2 (by omega) ce
      · rw [if_neg ce, if_neg (show ¬ (d < 1 ∨ nI (mlN a b) < d) from fun z => z.elim cd ce), if_neg (show ¬ (1 : Int32) = 0 by decide)]
        obtain ⟨c, c1, c2, rfl⟩ := nI_rng (lo := 1) (n := mlN a b) (by omega) (by omega) cd ce
        exact Or.inl ⟨⟨a, b, c, rfl, rfl, rfl, a1, a2, b1, b2, c1, c2⟩, rfl, rfl⟩
theorem dn_both (μ ν : Mu) {y m d : Int32} (h : okD y m d) : ∃ n, n ≤ 300500 ∧ Sm_dayNumber y m d μ = some (nI n, μ) ∧ Mo_dayNumber 59 y m d ν = some (nI n, ν) := by
  obtain ⟨a, b, c, rfl, rfl, rfl, a1, a2, b1, b2, c1, c2⟩ := h
  have hm := mlN_m b b1 b2 a
  exact ⟨dnN a b c, dnN_le a2 b2 (by omega), dn_c μ a1 a2 b1 b2 c1 (by omega), dn_m ν a1 a2 b1 b2 c1 (by omega)⟩
theorem wd_c (μ : Mu) {n : Nat} (h : n ≤ 300500) : Sm_weekday (nI n) μ = some (nI ((n + 6) % 7), μ) := by
  unfold Sm_weekday Jm_floorMod
  have e : nI n + 6 = nI (n + 6) := nI_add n 6
  have e7 : jrem (nI (n + 6)) 7 = nI ((n + 6) % 7) := jrem_nI (b := 7) (by omega) (by omega) (by omega)
  have ex : (0 : Int32) ≤ nI (n + 6) ^^^ 7 := by
    rw [show nI (n + 6) ^^^ 7 = nI ((n + 6) ^^^ 7) from fb_xorI _ 7]
    exact nI_pos' (Nat.lt_of_lt_of_le (Nat.xor_lt_two_pow (n := 20) (by omega) (by omega)) (by omega))
  rw [e, nz_eq (show ¬ (7 : Int32) = 0 by decide), if_pos ex, e7, cl_eq]
theorem wd_m (ν : Mu) {n : Nat} (h : n ≤ 300500) : Mo_dayOfWeek 59 (nI n) ν = some (nI ((n + 6) % 7), ν) := by
  unfold Mo_dayOfWeek
  rw [show nI n + 6 = nI (n + 6) from nI_add n 6, show jrem (nI (n + 6)) 7 = nI ((n + 6) % 7) from jrem_nI (b := 7) (by omega) (by omega) (by omega)]
def friN (y : Nat) : Nat → Nat
  | 0 => 0
  | k + 1 => friN y k + (if (dnN y (k + 1) 13 + 6) % 7 = 5 then 1 else 0)
theorem th_week {μ ν : Mu} {s : Int32} (h1 : μ 18 0 = s) (h2 : ν 59 41 = s) (y m d w : Int32) : Same (Sf_week 0 y m d w μ) (Mo_week 59 y m d w ν) := by
  unfold Sf_week Mo_week Sf_week_19 Mo_week_26
  rw [pF_eq]
  have h2' : (up2 ν 59 0 0) 59 41 = s := by rw [up2_off (Or.inr (by omega)), h2]
  generalize up2 ν 59 0 0 = ν1 at h2'
  rcases is_both μ ν1 y m d with ⟨ho, e1, e2⟩ | ⟨ho, e1, e2⟩
  · rw [e1, e2, cl_eq, cl_eq, if_neg (show ¬ (1 : Int32) = 0 by decide), if_neg (show ¬ (1 : Int32) = 0 by decide), within_eq, isIn_eq, cl_eq, cl_eq]
    by_cases c2 : w < 0 ∨ 2 < w
    · rw [if_pos c2, if_pos rfl, if_pos rfl]; exact same_i rfl rfl
    rw [if_neg c2, if_neg (show ¬ (1 : Int32) = 0 by decide), if_neg (show ¬ (1 : Int32) = 0 by decide)]
    obtain ⟨b, b1, b2, rfl⟩ := nI_rng (lo := 0) (n := 2) (by omega) (by omega) (fun z => c2 (Or.inl z)) (fun z => c2 (Or.inr z))
    obtain ⟨n, hn, f1, f2⟩ := dn_both μ ν1 ho
    rw [f1, cl_eq, f2, cl_eq, cl_eq]
    rcases (show b = 0 ∨ b = 1 ∨ b = 2 by omega) with rfl | rfl | rfl
    · rw [if_pos (by decide), if_pos (by decide), wd_c μ hn, wd_m ν1 hn, cl_eq, cl_eq]; exact same_i rfl rfl
    · obtain ⟨a, b, c, rfl, rfl, rfl, a1, a2, q1, q2, q3, q4⟩ := ho
      rw [if_neg (show ¬ nI 1 = 0 by decide), if_neg (show ¬ nI 1 = 0 by decide), if_pos (show nI 1 = 1 by decide), if_neg (show ¬ nI 1 = 2 by decide)]
      have hc : ∀ o : Option (Int32 × Mu), cl o (fun x2 μ1 => some (x2, μ1)) = o := fun o => by cases o <;> rfl
      rw [hc]
      have kc : Sm_fridays (nI a) μ = some (nI (friN a 12), μ) := by
        suffices K : Sm_fridays_4 (nI a) FU (nI (friN a 0)) (nI (0 + 1)) μ = some (nI (friN a 12), μ) from K
        unfold Sm_fridays_4
        refine lp_fu (F := fun kb => Sm_fridays_4b kb (nI a)) (z := fun _ _ _ => none) 12 (fun k A => A (nI (friN a k)) (nI (k + 1)) μ = some (nI (friN a 12), μ)) (by omega) ?_ ?_ 0 (by omega)
        · intro A
          show Sm_fridays_4b A (nI a) _ (nI (12 + 1)) μ = _
          unfold Sm_fridays_4b
          rw [if_pos (by decide)]
        · intro k A hk ih
          show Sm_fridays_4b A (nI a) _ (nI (k + 1)) μ = _
          unfold Sm_fridays_4b Sm_fridays_29
          rw [if_neg (show ¬ (12 : Int32) < nI (k + 1) from nI_nlt (a := 12) (by omega) (by omega)), show (13 : Int32) = nI 13 from rfl, dn_c μ a1 a2 (by omega) (by omega) (by omega) (by omega), cl_eq, wd_c μ (dnN_le a2 (by omega) (by omega)), cl_eq, nI_1, nI_1]
          have e : friN a (k + 1) = friN a k + (if (dnN a (k + 1) 13 + 6) % 7 = 5 then 1 else 0) := rfl
          rw [e] at ih
          by_cases z : (dnN a (k + 1) 13 + 6) % 7 = 5
          · rw [if_pos (by rw [z]; rfl)]; rw [if_pos z] at ih; exact ih
          · rw [if_neg (fun q : nI ((dnN a (k + 1) 13 + 6) % 7) = 5 => z ((nI_eq (b := 5) (by omega) (by omega)).mp q))]; rw [if_neg z] at ih; exact ih
      have km : Mo_week_72 59 (nI a) FU 0 1 ν1 = some (nI (friN a 12), ν1) := by
        suffices K : Mo_week_72 59 (nI a) FU (nI (friN a 0)) (nI (0 + 1)) ν1 = some (nI (friN a 12), ν1) from K
        unfold Mo_week_72
        refine lp_fu (F := fun kb => Mo_week_72b 59 kb (nI a)) (z := fun _ _ _ => none) 12 (fun k A => A (nI (friN a k)) (nI (k + 1)) ν1 = some (nI (friN a 12), ν1)) (by omega) ?_ ?_ 0 (by omega)
        · intro A
          show Mo_week_72b 59 A (nI a) _ (nI (12 + 1)) ν1 = _
          unfold Mo_week_72b
          rw [if_pos (by decide)]
        · intro k A hk ih
          show Mo_week_72b 59 A (nI a) _ (nI (k + 1)) ν1 = _
          unfold Mo_week_72b Mo_week_102
          rw [if_neg (show ¬ (12 : Int32) < nI (k + 1) from nI_nlt (a := 12) (by omega) (by omega)), show (13 : Int32) = nI 13 from rfl, dn_m ν1 a1 a2 (by omega) (by omega) (by omega) (by omega), cl_eq, wd_m ν1 (dnN_le a2 (by omega) (by omega)), cl_eq, nI_1, nI_1]
          have e : friN a (k + 1) = friN a k + (if (dnN a (k + 1) 13 + 6) % 7 = 5 then 1 else 0) := rfl
          rw [e] at ih
          by_cases z : (dnN a (k + 1) 13 + 6) % 7 = 5
          · rw [if_pos (by rw [z]; rfl)]; rw [if_pos z] at ih; exact ih
          · rw [if_neg (fun q : nI ((dnN a (k + 1) 13 + 6) % 7) = 5 => z ((nI_eq (b := 5) (by omega) (by omega)).mp q))]; rw [if_neg z] at ih; exact ih
      exact same_i kc km
    · rw [if_neg (show ¬ nI 2 = 0 by decide), if_neg (show ¬ nI 2 = 0 by decide), if_neg (show ¬ nI 2 = 1 by decide), if_pos (show nI 2 = 2 by decide), gF_eq, gF_eq, h2']
      simp only [Nat.reduceAdd]
      rw [h1]; exact same_i rfl rfl
  · rw [e1, e2, cl_eq, cl_eq, if_pos rfl, if_pos rfl]; exact same_i rfl rfl
