/-! L3: HEAPED, both -/
theorem steep_m (n : Nat) (hn : n ≤ 8) (h : Nat → Nat) (hb : ∀ j, j < n → h j ≤ 6400) (ν : Mu) (h61 : ν 59 61 = nI n) (hm : ∀ j, j < n → ν 96 j = nI (h j)) : Mo_steepPlace 59 ν = some (tI (spH h n), ν) := by
  unfold Mo_steepPlace Mo_steepPlace_7
  rw [gF_eq, h61, show nI n - 1 = tI n from rfl]
  refine lp_fm (F := fun kb => Mo_steepPlace_7b 59 kb) (z := fun _ _ => none) (fun q : Nat => q) (fun q A => q ≤ n → A (tI q) ν = some (tI (spH h q), ν)) ?_ n (by omega) (Nat.le_refl _)
  intro q A ih hq
  show Mo_steepPlace_7b 59 A (tI q) ν = _
  unfold Mo_steepPlace_7b
  match q, hq, ih with
  | 0, hq, ih => rw [tI_0, if_pos (by decide)]; rfl
  | k + 1, hq, ih =>
    have hk : k < n := by omega
    have e : spH h (k + 1) = if blw h k + 3 ≤ h k then k + 1 else spH h k := rfl
    have hbk := hb k hk
    have hbl : blw h k ≤ 6400 := by
      by_cases z : k = 0
      · subst z; exact Nat.zero_le _
      · rw [blw_at z]; exact hb _ (by omega)
    have step : Mo_steepPlace_33 59 A (nI k) (nI (blw h k)) (nI (h k)) ν = some (tI (spH h (k + 1)), ν) := by
      unfold Mo_steepPlace_33
      have hlt : nI (h k) - nI (blw h k) < 3 ↔ ¬ blw h k + 3 ≤ h k := by
        rw [fa_lt, pk_sub_toInt (by omega) (by omega), show (3 : Int32).toInt = 3 by decide]; omega
      by_cases d : blw h k + 3 ≤ h k
      · rw [if_neg (fun y => hlt.mp y d), e, if_pos d, tI_succ]
      · rw [if_pos (hlt.mpr d), e, if_neg d, show nI k + -1 = tI k by unfold tI; grind]
        exact ih k (by omega) (by omega)
    simp only [Nat.reduceAdd]
    rw [tI_succ, if_neg (nI_pos (by omega)), ldA_nI (by omega) (by omega), hm k hk]
    by_cases z : k = 0
    · subst z
      rw [if_pos (show nI 0 = 0 by decide)]; exact step
    · rw [if_neg (fun y : nI k = 0 => z (by have := (nI_eq (b := 0) (by omega) (by omega)).mp (y.trans (nI_0.symm)); omega)), show nI k - 1 = nI (k - 1) from pk_sub (b := 1) (by omega), ldA_nI (by omega) (by omega), hm (k - 1) (by omega)]
      rw [blw_at z] at step; exact step
theorem settle_m (n : Nat) (hn : n ≤ 8) (w : Nat) (hw : w ≤ n) (f : Nat) (hf : f ≤ 6400) (h : Nat → Nat) (hp : phH h n ≤ f) (ν : Mu) (h61 : ν 59 61 = nI n) (hm : ∀ j, j < n → ν 96 j = nI (h j)) : Ev (Mo_heaped_55 59 (nI w) FU (nI 0) (tI (spH h n)) ν) (fun r _ => r = if w = 0 then nI (hpF n f h 0).1 else nI ((hpF n f h 0).2 (w - 1))) := by
  unfold Mo_heaped_55
  refine lp_fm (F := fun kb => Mo_heaped_55b 59 kb (nI w)) (z := fun _ _ _ => none) (fun f : Nat => f) (fun f A => ∀ (h : Nat → Nat) (c : Nat) (ν : Mu), phH h n ≤ f → c + f ≤ 6400 → ν 59 61 = nI n → (∀ j, j < n → ν 96 j = nI (h j)) → Ev (A (nI c) (tI (spH h n)) ν) (fun r _ => r = if w = 0 then nI (hpF n f h c).1 else nI ((hpF n f h c).2 (w - 1)))) ?_ f (by show f ≤ 100000; omega) h 0 ν hp (by omega) h61 hm
  intro f A ih h c ν hp hc h61 hm
  show Ev (Mo_heaped_55b 59 A (nI w) (nI c) (tI (spH h n)) ν) _
  have hb : ∀ j, j < n → h j ≤ 6400 := fun j hj => by have := ph_le h n j hj; omega
  unfold Mo_heaped_55b
  simp only [Nat.reduceAdd]
  have hle := sp_le h n
  have hhit := sp_hit h n
  have hes : ∀ q, spH h n = q → Ev (if tI q = (-1) then (if nI w = 0 then some (nI c, ν) else ldA ν 96 8 (nI w - 1) (fun x1 => some (x1, ν))) else ldA ν 96 8 (tI q) (fun x2 => stA ν 96 8 (tI q) (x2 - 1) (fun μ3 => (if tI q ≤ 0 then Mo_heaped_96 59 A (nI w) (nI c) μ3 else ldA μ3 96 8 (tI q - 1) (fun x4 => stA μ3 96 8 (tI q - 1) (x4 + 1) (fun μ5 => Mo_heaped_96 59 A (nI w) (nI c) μ5)))))) (fun r _ => r = if w = 0 then nI (hpF n f h c).1 else nI ((hpF n f h c).2 (w - 1))) := by
    intro q hq
    match q, hq with
    | 0, hq =>
      have e : hpF n f h c = (c, h) := by
        match f with
        | 0 => rfl
        | f + 1 => show (if spH h n = 0 then (c, h) else _) = _; rw [if_pos hq]
      rw [tI_0, if_pos rfl, e]
      by_cases z : w = 0
      · subst z
        rw [if_pos (show nI 0 = 0 by decide), if_pos rfl]; exact ev_some rfl
      · rw [if_neg (fun y : nI w = 0 => z (by have := (nI_eq (b := 0) (by omega) (by omega)).mp (y.trans (nI_0.symm)); omega)), if_neg z, show nI w - 1 = nI (w - 1) from pk_sub (b := 1) (by omega), ldA_nI (by omega) (by omega), hm (w - 1) (by omega)]
        exact ev_some rfl
    | k + 1, hq =>
      rw [hq] at hhit hle
      have hk : k < n := by omega
      have h3 : blw h k + 3 ≤ h k := by
        rcases hhit with y | y
        · omega
        · exact y
      have hpt := ph_top h k (by omega) n
      rw [if_pos hk, if_neg (by omega)] at hpt
      have hbk := hb k hk
      obtain ⟨g, rfl⟩ : ∃ g, f = g + 1 := ⟨f - 1, by omega⟩
      have eF : hpF n (g + 1) h c = hpF n g (tpH h k) (c + 1) := by
        show (if spH h n = 0 then (c, h) else hpF n g (tpH h (spH h n - 1)) (c + 1)) = _
        rw [hq, if_neg (by omega)]; rfl
      rw [eF]
      have go : ∀ μ2 : Mu, μ2 59 61 = nI n → (∀ j, j < n → μ2 96 j = nI (tpH h k j)) → Ev (Mo_heaped_96 59 A (nI w) (nI c) μ2) (fun r _ => r = if w = 0 then nI (hpF n g (tpH h k) (c + 1)).1 else nI ((hpF n g (tpH h k) (c + 1)).2 (w - 1))) := by
        intro μ2 h2 hm2
        unfold Mo_heaped_96
        rw [steep_m n hn (tpH h k) (fun j hj => by have := ph_le (tpH h k) n j hj; omega) μ2 h2 hm2, cl_eq, show nI c + 1 = nI (c + 1) from nI_add c 1]
        exact ih g (by omega) (tpH h k) (c + 1) μ2 (by omega) (by omega) h2 hm2
      rw [tI_succ, if_neg (show ¬ nI k = (-1) by rw [n1_ne (by omega)]; exact id), ldA_nI (by omega) (by omega), hm k hk, show nI (h k) - 1 = nI (h k - 1) from pk_sub (b := 1) (by omega), stA_nI (by omega) (by omega)]
      by_cases z : k = 0
      · subst z
        rw [if_pos (show nI 0 ≤ 0 by decide)]
        exact go _ (by rw [up2_off (Or.inl (by omega))]; exact h61) ((tp_mem hm hk (by omega)).1 rfl)
      · rw [if_neg (show ¬ nI k ≤ 0 from fun y => by rw [fa_le, nI_toInt (by omega), show (0 : Int32).toInt = 0 by decide] at y; omega), show nI k - 1 = nI (k - 1) from pk_sub (b := 1) (by omega), ldA_nI (by omega) (by omega), up2_off (Or.inr (by omega)), hm (k - 1) (by omega), show nI (h (k - 1)) + 1 = nI (h (k - 1) + 1) from nI_add (h (k - 1)) 1, stA_nI (by omega) (by omega)]
        exact go _ (by rw [up2_off (Or.inl (by omega)), up2_off (Or.inl (by omega))]; exact h61) ((tp_mem hm hk (by omega)).2 z)
  exact hes _ rfl
theorem th_heaped {μ ν : Mu} {l : List Int32} (hc : RwC μ 37 8 0 99 l) (hm : RwM ν 59 61 95 8 l) (ok : RwOk 0 99 l) (w : Int32) : Same (Sf_heaped 0 w μ) (Mo_heaped 59 w ν) := by
  have l8 : l.length ≤ 8 := hc.2.2.2.1
  have hv : ∃ h : Nat → Nat, ∀ j, j < l.length → l.getD j 0 = nI (h j) ∧ h j ≤ 99 := by
    refine ⟨fun j => (l.getD j 0).toInt.toNat, fun j hj => ?_⟩
    have g : l.getD j 0 ∈ l := by rw [List.getD_eq_getElem?_getD, List.getElem?_eq_getElem hj]; exact List.getElem_mem hj
    obtain ⟨x, x1, x2, ex⟩ := nI_rng (lo := 0) (n := 99) (by omega) (by omega) (ok _ g).1 (ok _ g).2
    show l.getD j 0 = nI (l.getD j 0).toInt.toNat ∧ (l.getD j 0).toInt.toNat ≤ 99
    rw [ex, nI_toInt (by omega), Int.toNat_natCast]
    exact ⟨rfl, x2⟩
  obtain ⟨h, hh⟩ := hv
  have hp : phH h l.length ≤ 6400 := by have := ph_99 h l.length l8 (fun j hj => (hh j hj).2); omega
  unfold Sf_heaped Mo_heaped
  rw [pF_eq]
  have hm1 : RwM (up2 ν 59 0 0) 59 61 95 8 l := rwM_congr (up2_off (Or.inr (by omega))) (up2_ne (by omega)) hm
  generalize up2 ν 59 0 0 = ν1 at hm1
  obtain ⟨m0, -, -, vm⟩ := hm1
  have hS : Ev (Th_settle 45 18 μ) (fun r μ' => r = nI (hpF l.length 6400 h 0).1 ∧ (∀ j, j < l.length → μ' 46 j = nI ((hpF l.length 6400 h 0).2 j)) ∧ Off [46] μ μ') := by
    unfold Th_settle
    simp only [Nat.reduceAdd]
    rw [gF_eq, hc.2.2.1]
    unfold Th_settle_13
    refine lp_fu (F := fun kb => Th_settle_13b 45 18 kb (nI l.length)) (z := fun _ _ => none) l.length (fun k A => ∀ μ1 : Mu, Off [46] μ μ1 → (∀ j, j < k → μ1 46 j = nI (h j)) → Ev (A (nI k) μ1) (fun r μ' => r = nI (hpF l.length 6400 h 0).1 ∧ (∀ j, j < l.length → μ' 46 j = nI ((hpF l.length 6400 h 0).2 j)) ∧ Off [46] μ μ')) (by omega) ?_ ?_ 0 (by omega) μ (off_refl _ _) (fun j hj => absurd hj (by omega))
    · intro A μ1 ho hm1
      show Ev (Th_settle_13b 45 18 A (nI l.length) (nI l.length) μ1) _
      unfold Th_settle_13b Th_settle_48
      rw [if_pos (nI_le (Nat.le_refl _) (by omega)), show nI l.length - 1 = tI l.length from rfl]
      refine ev_mono (settle_c l.length l8 6400 (Nat.le_refl _) h hp μ1 hm1) ?_
      rintro r μ' ⟨r1, r2, -, r4⟩
      exact ⟨r1, r2, off_trans ho r4⟩
    · intro k A hk ih μ1 ho hm1
      show Ev (Th_settle_13b 45 18 A (nI l.length) (nI k) μ1) _
      unfold Th_settle_13b
      simp only [Nat.reduceAdd]
      have hc1 : RwC μ1 37 8 0 99 l := rwC_congr (ho _ (by decide)) (ho _ (by decide)) hc
      rw [if_neg (nI_ge hk (by omega)), if_neg (show ¬ (361 : Int32) ≤ nI k by rw [li_le (by omega) (by omega)]; exact Nat.not_le.mpr (by omega)), rw_at hc1 k hk, cl_eq, (hh k hk).1, stA_nI (by omega) (by omega), show nI k + 1 = nI (k + 1) from nI_add k 1]
      refine ih _ (off_trans ho (off_up List.mem_cons_self)) (fun j hj => ?_)
      by_cases y : j = k
      · subst y; exact up2_same _ _ _ _
      · rw [up2_off (Or.inr y)]; exact hm1 j (by omega)
  have hM : ∀ w', w' ≤ l.length → Ev (Mo_heaped_22 59 (nI w') FU (nI 0) ν1) (fun r _ => r = if w' = 0 then nI (hpF l.length 6400 h 0).1 else nI ((hpF l.length 6400 h 0).2 (w' - 1))) := by
    intro w' hw'
    unfold Mo_heaped_22
    refine lp_fu (F := fun kb => Mo_heaped_22b 59 kb (nI w')) (z := fun _ _ => none) l.length (fun k A => ∀ ν2 : Mu, ν2 59 61 = nI l.length → (∀ j, j < l.length → ν2 95 j = l.getD j 0) → (∀ j, j < k → ν2 96 j = nI (h j)) → Ev (A (nI k) ν2) (fun r _ => r = if w' = 0 then nI (hpF l.length 6400 h 0).1 else nI ((hpF l.length 6400 h 0).2 (w' - 1)))) (by omega) ?_ ?_ 0 (by omega) ν1 m0 vm (fun j hj => absurd hj (by omega))
    · intro A ν2 n0 n1 n2
      show Ev (Mo_heaped_22b 59 A (nI w') (nI l.length) ν2) _
      unfold Mo_heaped_22b
      rw [gF_eq, n0, if_pos (nI_le (Nat.le_refl _) (by omega)), steep_m l.length l8 h (fun j hj => by have := (hh j hj).2; omega) ν2 n0 n2, cl_eq]
      exact settle_m l.length l8 w' hw' 6400 (Nat.le_refl _) h hp ν2 n0 n2
    · intro k A hk ih ν2 n0 n1 n2
      show Ev (Mo_heaped_22b 59 A (nI w') (nI k) ν2) _
      unfold Mo_heaped_22b
      simp only [Nat.reduceAdd]
      rw [gF_eq, n0, if_neg (nI_ge hk (by omega)), ldA_nI (by omega) (by omega), n1 k hk, (hh k hk).1, stA_nI (by omega) (by omega), show nI k + 1 = nI (k + 1) from nI_add k 1]
      refine ih _ (by rw [up2_off (Or.inl (by omega))]; exact n0) (fun j hj => by rw [up2_off (Or.inl (by omega))]; exact n1 j hj) (fun j hj => ?_)
      by_cases y : j = k
      · subst y; exact up2_same _ _ _ _
      · rw [up2_off (Or.inr y)]; exact n2 j (by omega)
  simp only [Nat.reduceAdd]
  obtain ⟨r, μ', es, er, ev, ho⟩ := hS
  have hc1 : RwC μ' 37 8 0 99 l := rwC_congr (ho _ (by decide)) (ho _ (by decide)) hc
  rw [es, cl_eq, gF_eq, gF_eq, m0, isIn_eq, cl_eq]
  subst er
  by_cases z : w = 0
  · subst z
    have hn0 : ¬ ((0 : Int32) < 0 ∨ nI l.length < 0) := by
      rw [fa_lt, fa_lt, nI_toInt (by omega), show (0 : Int32).toInt = 0 by decide]; omega
    rw [if_pos rfl, if_neg hn0, if_neg (show ¬ (1 : Int32) = 0 by decide)]
    exact same_ev (ev_some rfl) (hM 0 (by omega))
  · rw [if_neg z, hc1.2.2.1, within_eq, cl_eq]
    have hiff : (w < 0 ∨ nI l.length < w) ↔ (w < 1 ∨ nI l.length < w) := by
      have hz : w.toInt ≠ 0 := fun y => z (by rw [fa_eq, y]; decide)
      rw [fa_lt, fa_lt, fa_lt, nI_toInt (by omega), show (0 : Int32).toInt = 0 by decide, show (1 : Int32).toInt = 1 by decide]; omega
    by_cases c : w < 1 ∨ nI l.length < w
    · rw [if_pos c, if_pos rfl, if_pos (hiff.mpr c), if_pos rfl]; exact same_i rfl rfl
    · rw [if_neg c, if_neg (show ¬ (1 : Int32) = 0 by decide), if_neg (fun y => c (hiff.mp y)), if_neg (show ¬ (1 : Int32) = 0 by decide)]
      obtain ⟨k, k1, k2, rfl⟩ := nI_rng (lo := 1) (n := l.length) (by omega) (by omega) (fun y => c (Or.inl y)) (fun y => c (Or.inr y))
      have hk0 : k ≠ 0 := by omega
      have := hM k k2
      rw [if_neg hk0] at this
      refine same_ev ?_ this
      unfold Th_liesAt
      simp only [Nat.reduceAdd]
      rw [show nI k - 1 = nI (k - 1) from pk_sub (b := 1) (by omega), if_neg (nI_pos (by omega)), if_neg (show ¬ (361 : Int32) ≤ nI (k - 1) by rw [li_le (by omega) (by omega)]; exact Nat.not_le.mpr (by omega)), ldA_nI (by omega) (by omega), ev (k - 1) (by omega), cl_eq]
      exact ev_some rfl
