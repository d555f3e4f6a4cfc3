/-! L3: HEAPED -/
def blw (h : Nat → Nat) : Nat → Nat
  | 0 => 0
  | j + 1 => h j
def tpH (h : Nat → Nat) (k : Nat) : Nat → Nat := fun i => if i = k then h k - 1 else if i + 1 = k then h i + 1 else h i
def spH (h : Nat → Nat) : Nat → Nat
  | 0 => 0
  | k + 1 => if blw h k + 3 ≤ h k then k + 1 else spH h k
def phH (h : Nat → Nat) : Nat → Nat
  | 0 => 0
  | k + 1 => phH h k + (k + 1) * h k
def hpF (n : Nat) : Nat → (Nat → Nat) → Nat → Nat × (Nat → Nat)
  | 0, h, c => (c, h)
  | f + 1, h, c => if spH h n = 0 then (c, h) else hpF n f (tpH h (spH h n - 1)) (c + 1)
theorem ph_top (h : Nat → Nat) (k : Nat) (hk : 1 ≤ h k) : ∀ m, phH (tpH h k) m + (if k < m then 1 else 0) = phH h m + (if m = k then k else 0) := by
  intro m
  induction m with
  | zero =>
    show 0 + (if k < 0 then 1 else 0) = 0 + (if 0 = k then k else 0)
    rw [if_neg (by omega)]
    by_cases c : 0 = k
    · rw [if_pos c]; omega
    · rw [if_neg c]
  | succ m ih =>
    show phH (tpH h k) m + (m + 1) * tpH h k m + _ = phH h m + (m + 1) * h m + _
    rcases Nat.lt_trichotomy m k with c | c | c
    · rw [if_neg (by omega), if_neg (by omega)] at ih
      rw [if_neg (show ¬ k < m + 1 by omega)]
      by_cases d : m + 1 = k
      · have e : tpH h k m = h m + 1 := by unfold tpH; rw [if_neg (by omega), if_pos d]
        rw [e, if_pos d, Nat.mul_add]; omega
      · have e : tpH h k m = h m := by unfold tpH; rw [if_neg (by omega), if_neg d]
        rw [e, if_neg d]; omega
    · subst c
      rw [if_neg (by omega), if_pos rfl] at ih
      rw [if_pos (by omega), if_neg (by omega)]
      have e : tpH h m m = h m - 1 := by unfold tpH; rw [if_pos rfl]
      obtain ⟨t, ht⟩ : ∃ t, h m = t + 1 := ⟨h m - 1, by omega⟩
      rw [e, ht, Nat.add_sub_cancel, Nat.mul_add]; omega
    · rw [if_pos c, if_neg (by omega)] at ih
      have e : tpH h k m = h m := by unfold tpH; rw [if_neg (by omega), if_neg (by omega)]
      rw [e, if_pos (by omega), if_neg (by omega)]; omega
theorem sp_le (h : Nat → Nat) : ∀ m, spH h m ≤ m := by
  intro m
  induction m with
  | zero => exact Nat.le_refl _
  | succ m ih =>
    have e : spH h (m + 1) = if blw h m + 3 ≤ h m then m + 1 else spH h m := rfl
    rw [e]
    split <;> omega
theorem sp_hit (h : Nat → Nat) : ∀ m, spH h m = 0 ∨ (blw h (spH h m - 1) + 3 ≤ h (spH h m - 1)) := by
  intro m
  induction m with
  | zero => exact Or.inl rfl
  | succ m ih =>
    show (if _ then m + 1 else spH h m) = 0 ∨ _
    by_cases c : blw h m + 3 ≤ h m
    · right
      show blw h ((if _ then m + 1 else spH h m) - 1) + 3 ≤ h ((if _ then m + 1 else spH h m) - 1)
      rw [if_pos c]; exact c
    · have e : spH h (m + 1) = spH h m := by show (if _ then m + 1 else spH h m) = _; rw [if_neg c]
      rw [e, if_neg c]; exact ih
theorem sp_top (h : Nat → Nat) : ∀ m j, spH h m ≤ j → j < m → ¬ blw h j + 3 ≤ h j := by
  intro m
  induction m with
  | zero => intro j _ h2; omega
  | succ m ih =>
    intro j h1 h2 h3
    have e : spH h (m + 1) = if blw h m + 3 ≤ h m then m + 1 else spH h m := rfl
    rw [e] at h1
    by_cases c : blw h m + 3 ≤ h m
    · rw [if_pos c] at h1; omega
    · rw [if_neg c] at h1
      by_cases d : j = m
      · subst d; exact c h3
      · exact ih j h1 (by omega) h3
theorem sp_cut (h : Nat → Nat) (q : Nat) : ∀ n, q ≤ n → (∀ j, q ≤ j → j < n → ¬ blw h j + 3 ≤ h j) → spH h n = spH h q := by
  intro n
  induction n with
  | zero => intro h1 _; rw [show q = 0 by omega]
  | succ n ih =>
    intro h1 h2
    by_cases c : q = n + 1
    · rw [c]
    · have e : spH h (n + 1) = if blw h n + 3 ≤ h n then n + 1 else spH h n := rfl
      rw [e, if_neg (h2 n (by omega) (by omega))]
      exact ih (by omega) (fun j a b => h2 j a (by omega))
theorem ph_le (h : Nat → Nat) : ∀ n j, j < n → h j ≤ phH h n := by
  intro n
  induction n with
  | zero => intro j h1; omega
  | succ n ih =>
    intro j h1
    show h j ≤ phH h n + (n + 1) * h n
    by_cases c : j = n
    · subst c
      have : h j ≤ (j + 1) * h j := Nat.le_mul_of_pos_left _ (by omega)
      omega
    · have := ih j (by omega); omega
theorem ph_99 (h : Nat → Nat) : ∀ n, n ≤ 8 → (∀ j, j < n → h j ≤ 99) → phH h n ≤ 792 * n := by
  intro n
  induction n with
  | zero => intros; exact Nat.zero_le _
  | succ n ih =>
    intro h1 h2
    show phH h n + (n + 1) * h n ≤ _
    have a := ih (by omega) (fun j hj => h2 j (by omega))
    have b : (n + 1) * h n ≤ 8 * 99 := Nat.mul_le_mul h1 (h2 n (by omega))
    omega
theorem blw_at {h : Nat → Nat} {k : Nat} (hk : k ≠ 0) : blw h k = h (k - 1) := by
  obtain ⟨j, rfl⟩ : ∃ j, k = j + 1 := ⟨k - 1, by omega⟩
  rfl
theorem tp_mem {μ : Mu} {r n k : Nat} {h : Nat → Nat} (hm : ∀ j, j < n → μ r j = nI (h j)) (hk : k < n) (h3 : 3 ≤ h k) : (k = 0 → ∀ j, j < n → (up2 μ r k (nI (h k - 1))) r j = nI (tpH h k j)) ∧ (k ≠ 0 → ∀ j, j < n → (up2 (up2 μ r k (nI (h k - 1))) r (k - 1) (nI (h (k - 1) + 1))) r j = nI (tpH h k j)) := by
  constructor
  · intro k0 j hj
    unfold tpH
    by_cases c : j = k
    · subst c; rw [up2_same, if_pos rfl]
    · rw [up2_off (Or.inr c), if_neg c, if_neg (by omega)]; exact hm j hj
  · intro k0 j hj
    unfold tpH
    by_cases c : j = k
    · subst c; rw [up2_off (Or.inr (by omega)), up2_same, if_pos rfl]
    · rw [if_neg c]
      by_cases d : j + 1 = k
      · rw [if_pos d, show k - 1 = j by omega, up2_same]
      · rw [if_neg d, up2_off (Or.inr (by omega)), up2_off (Or.inr c)]; exact hm j hj
theorem tp_calm {h : Nat → Nat} {k n : Nat} (hc : ∀ j, k + 1 ≤ j → j < n → ¬ blw h j + 3 ≤ h j) : ∀ j, min (k + 2) n ≤ j → j < n → ¬ blw (tpH h k) j + 3 ≤ tpH h k j := by
  intro j h1 h2
  have h3 : k + 2 ≤ j := by omega
  rw [blw_at (by omega)]
  have e1 : tpH h k j = h j := by unfold tpH; rw [if_neg (by omega), if_neg (by omega)]
  have e2 : tpH h k (j - 1) = h (j - 1) := by unfold tpH; rw [if_neg (by omega), if_neg (by omega)]
  have := hc j (by omega) h2
  rw [blw_at (by omega)] at this
  rw [e1, e2]; exact this
theorem settle_c (n : Nat) (hn : n ≤ 8) (f : Nat) (hf : f ≤ 6400) (h : Nat → Nat) (hp : phH h n ≤ f) (μ : Mu) (hm : ∀ j, j < n → μ 46 j = nI (h j)) : Ev (Th_settle_57 45 18 (nI n) FU (nI 0) (tI n) (nI 0) μ) (fun r μ' => r = nI (hpF n f h 0).1 ∧ (∀ j, j < n → μ' 46 j = nI ((hpF n f h 0).2 j)) ∧ (hpF n f h 0).1 ≤ 6400 ∧ Off [46] μ μ') := by
  unfold Th_settle_57
  refine lp_fm (F := fun kb => Th_settle_57b 45 18 kb (nI n)) (z := fun _ _ _ _ => none) (fun s : Nat × Nat => 2 * s.1 + s.2) (fun s A => ∀ (h : Nat → Nat) (c i : Nat) (μ : Mu), s.2 ≤ n → phH h n ≤ s.1 → c + s.1 ≤ 6400 → i + 2 * s.1 + s.2 < 20000 → (∀ j, s.2 ≤ j → j < n → ¬ blw h j + 3 ≤ h j) → (∀ j, j < n → μ 46 j = nI (h j)) → Ev (A (nI c) (tI s.2) (nI i) μ) (fun r μ' => r = nI (hpF n s.1 h c).1 ∧ (∀ j, j < n → μ' 46 j = nI ((hpF n s.1 h c).2 j)) ∧ (hpF n s.1 h c).1 ≤ 6400 ∧ Off [46] μ μ')) ?_ (f, n) (by show 2 * f + n ≤ 100000; omega) h 0 0 μ (Nat.le_refl _) hp (by show 0 + f ≤ 6400; omega) (by show 0 + 2 * f + n < 20000; omega) (fun j a b => absurd b (by have : n ≤ j := a; omega)) hm
  rintro ⟨f, q⟩ A ih h c i μ hq hp hc hi hs hm
  show Ev (Th_settle_57b 45 18 A (nI n) (nI c) (tI q) (nI i) μ) _
  have hq' : q ≤ n := hq
  have hp' : phH h n ≤ f := hp
  have hc' : c + f ≤ 6400 := hc
  have hi' : i + 2 * f + q < 20000 := hi
  have hs' : ∀ j, q ≤ j → j < n → ¬ blw h j + 3 ≤ h j := hs
  have hcut := sp_cut h q n hq' hs'
  unfold Th_settle_57b
  rw [if_neg (show ¬ (20000 : Int32) ≤ nI i by rw [li_le (by omega) (by omega)]; exact Nat.not_le.mpr (by omega))]
  match q, hq', hi', hs', hcut, ih with
  | 0, hq', hi', hs', hcut, ih =>
    rw [tI_0, if_pos (by decide)]
    have e : hpF n f h c = (c, h) := by
      match f with
      | 0 => rfl
      | f + 1 => show (if spH h n = 0 then (c, h) else _) = _; rw [if_pos (show spH h n = 0 from hcut)]
    refine ev_some ⟨?_, ?_, ?_, off_refl _ _⟩
    · show nI c = nI (hpF n f h c).1; rw [e]
    · show ∀ j, j < n → μ 46 j = nI ((hpF n f h c).2 j); rw [e]; exact hm
    · show (hpF n f h c).1 ≤ 6400; rw [e]; show c ≤ 6400; omega
  | k + 1, hq', hi', hs', hcut, ih =>
    have hk : k < n := by omega
    have hb : ∀ j, j < n → h j ≤ 6400 := fun j hj => by have := ph_le h n j hj; omega
    rw [tI_succ, if_neg (nI_pos (by omega)), if_neg (show ¬ (361 : Int32) ≤ nI k by rw [li_le (by omega) (by omega)]; exact Nat.not_le.mpr (by omega))]
    have hbl : blw h k ≤ 6400 := by
      by_cases z : k = 0
      · subst z; exact Nat.zero_le _
      · rw [blw_at z]; exact hb _ (by omega)
    have step : Ev (Th_settle_92 45 18 A (nI n) (nI c) (nI k) (nI i) (nI (blw h k)) μ) (fun r μ' => r = nI (hpF n f h c).1 ∧ (∀ j, j < n → μ' 46 j = nI ((hpF n f h c).2 j)) ∧ (hpF n f h c).1 ≤ 6400 ∧ Off [46] μ μ') := by
      unfold Th_settle_92 Th_settle_133 Th_settle_152
      simp only [Nat.reduceAdd]
      rw [ldA_nI (by omega) (by omega), hm k hk, show nI (blw h k) + 3 = nI (blw h k + 3) from nI_add (blw h k) 3, show nI i + 1 = nI (i + 1) from nI_add i 1, show nI c + 1 = nI (c + 1) from nI_add c 1]
      have hbk := hb k hk
      by_cases d : h k < blw h k + 3
      · rw [if_pos (nI_lt d (by omega)), show nI k + -1 = tI k by unfold tI; grind]
        exact ih (f, k) (by show 2 * f + k < 2 * f + (k + 1); omega) h c (i + 1) μ (by show k ≤ n; omega) hp' hc' (by show i + 1 + 2 * f + k < 20000; omega) (fun j a b => by
          have a' : k ≤ j := a
          by_cases y : j = k
          · subst y; omega
          · exact hs' j (by omega) b) hm
      · have h3 : 3 ≤ h k := by omega
        have hpt := ph_top h k (by omega) n
        rw [if_pos hk, if_neg (by omega)] at hpt
        obtain ⟨g, rfl⟩ : ∃ g, f = g + 1 := ⟨f - 1, by omega⟩
        have esp : spH h n = k + 1 := by
          rw [hcut]; show (if blw h k + 3 ≤ h k then k + 1 else _) = _; rw [if_pos (by omega)]
        have eF : hpF n (g + 1) h c = hpF n g (tpH h k) (c + 1) := by
          show (if spH h n = 0 then (c, h) else hpF n g (tpH h (spH h n - 1)) (c + 1)) = _
          rw [esp, if_neg (by omega)]; rfl
        have emin : jmin (nI k + 1) (nI n - 1) = tI (min (k + 2) n) := by
          rw [show nI k + 1 = nI (k + 1) from nI_add k 1, show nI n - 1 = nI (n - 1) from pk_sub (b := 1) (by omega), jmin_nI (by omega) (by omega), show min (k + 2) n = min (k + 1) (n - 1) + 1 by omega, tI_succ]
        have go : ∀ μ2 : Mu, Off [46] μ μ2 → (∀ j, j < n → μ2 46 j = nI (tpH h k j)) → Ev (A (nI (c + 1)) (tI (min (k + 2) n)) (nI (i + 1)) μ2) (fun r μ' => r = nI (hpF n (g + 1) h c).1 ∧ (∀ j, j < n → μ' 46 j = nI ((hpF n (g + 1) h c).2 j)) ∧ (hpF n (g + 1) h c).1 ≤ 6400 ∧ Off [46] μ μ') := by
          intro μ2 ho hm2
          rw [eF]
          refine ev_mono (ih (g, min (k + 2) n) (by show 2 * g + min (k + 2) n < 2 * (g + 1) + (k + 1); omega) (tpH h k) (c + 1) (i + 1) μ2 (by show min (k + 2) n ≤ n; omega) (by show phH (tpH h k) n ≤ g; omega) (by show c + 1 + g ≤ 6400; omega) (by show i + 1 + 2 * g + min (k + 2) n < 20000; omega) (tp_calm hs') hm2) ?_
          rintro r μ' ⟨r1, r2, r3, r4⟩
          exact ⟨r1, r2, r3, off_trans ho r4⟩
        rw [if_neg (nI_nlt (by omega) (by omega)), ldA_nI (by omega) (by omega), hm k hk, show nI (h k) - 1 = nI (h k - 1) from pk_sub (b := 1) (by omega), stA_nI (by omega) (by omega), emin]
        by_cases z : k = 0
        · subst z
          rw [if_pos (show nI 0 ≤ 0 by decide)]
          exact go _ (off_up List.mem_cons_self) ((tp_mem hm hk h3).1 rfl)
        · rw [if_neg (show ¬ nI k ≤ 0 from fun y => by rw [fa_le, nI_toInt (by omega), show (0 : Int32).toInt = 0 by decide] at y; omega), show nI k - 1 = nI (k - 1) from pk_sub (b := 1) (by omega), ldA_nI (by omega) (by omega), up2_off (Or.inr (by omega)), hm (k - 1) (by omega), show nI (h (k - 1)) + 1 = nI (h (k - 1) + 1) from nI_add (h (k - 1)) 1, stA_nI (by omega) (by omega)]
          exact go _ (off_trans (off_up List.mem_cons_self) (off_up List.mem_cons_self)) ((tp_mem hm hk h3).2 z)
    by_cases z : k = 0
    · subst z
      rw [if_pos (show nI 0 = 0 by decide)]; exact step
    · rw [if_neg (fun y : nI k = 0 => z (by have := (nI_eq (b := 0) (by omega) (by omega)).mp (y.trans (nI_0.symm)); omega)), show nI k - 1 = nI (k - 1) from pk_sub (b := 1) (by omega)]
      simp only [Nat.reduceAdd]
      rw [ldA_nI (by omega) (by omega), hm (k - 1) (by omega)]
      rw [blw_at z] at step; exact step
