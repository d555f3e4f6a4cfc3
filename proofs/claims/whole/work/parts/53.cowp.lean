/-! L3: CATTLE, both sides -/
def sal (N : Nat → Int32) (p : Nat) : Nat := (N (22 + p)).toNatClampNeg
theorem sal_eq {P : Nat} {N : Nat → Int32} (h : NOk P N) {p : Nat} (hp : p < P) : N (22 + p) = nI (sal N p) ∧ sal N p ≤ 9999 := by
  obtain ⟨s, hs, e⟩ := h.2.1 p hp
  unfold sal
  rw [e, nI_clamp (by omega)]; exact ⟨rfl, hs⟩
def tI (t : Nat) : Int32 := nI t - 1
theorem tI_succ (k : Nat) : tI (k + 1) = nI k := nI_pred k
theorem tI_0 : tI 0 = -1 := by decide
def setS (N : Nat → Int32) (P : Nat) (s : Nat → Nat) : Nat → Int32 := fun i => if 22 ≤ i ∧ i < 22 + P then nI (s (i - 22)) else N i
theorem setS_at {N : Nat → Int32} {P : Nat} {s : Nat → Nat} {p : Nat} (hp : p < P) : setS N P s (22 + p) = nI (s p) := by
  unfold setS
  rw [if_pos (by omega)]; congr 2; omega
theorem setS_off {N : Nat → Int32} {P : Nat} {s : Nat → Nat} {i : Nat} (h : i < 22 ∨ 22 + P ≤ i) : setS N P s i = N i := by
  unfold setS
  rw [if_neg (by omega)]
theorem fg_tallest {P c : Nat} {th : Int32} {μ : Mu} {N : Nat → Int32} {s : Nat → Nat} (h : FigC P c th μ N) (hs : ∀ p, p < P → N (22 + p) = nI (s p) ∧ s p ≤ 9999) : Fg_tallest c μ = some (tI (talS s P).1, μ) := by
  have hP := h.1
  suffices K : Fg_tallest_6 c FU (tI (talS s 0).1) (nI (talS s 0).2) (nI 0) μ = some (tI (talS s P).1, μ) from K
  unfold Fg_tallest_6
  refine lp_fu (F := fun kb => Fg_tallest_6b c kb) (z := fun _ _ _ _ => none) P (fun k A => A (tI (talS s k).1) (nI (talS s k).2) (nI k) μ = some (tI (talS s P).1, μ)) (by omega) ?_ ?_ 0 (by omega)
  · intro A
    show Fg_tallest_6b c A _ _ (nI P) μ = _
    unfold Fg_tallest_6b
    rw [gF_eq, h.2.2.1, if_pos (nI_le (Nat.le_refl _) (by omega))]
  · intro k A hk ih
    show Fg_tallest_6b c A _ _ (nI k) μ = _
    have e : talS s (k + 1) = if (talS s k).2 < s k then (k + 1, s k) else talS s k := rfl
    have hb : (talS s k).2 ≤ 9999 := by
      rcases talS_spec s k with ⟨_, h2, _⟩ | ⟨i, i1, i2, i3, _⟩
      · omega
      · rw [i3]; exact (hs i (by omega)).2
    have hk9 := (hs k hk).2
    unfold Fg_tallest_6b Fg_tallest_33
    rw [gF_eq, h.2.2.1, if_neg (nI_ge hk (by omega)), fg_g1 h hk, cl_eq, (hs k hk).1, nI_1]
    rw [e] at ih
    by_cases c : (talS s k).2 < s k
    · rw [if_neg (nI_ge c (by omega)), fg_g1 h hk, cl_eq, (hs k hk).1]
      rw [if_pos c] at ih
      simp only at ih
      rw [tI_succ] at ih
      exact ih
    · rw [if_pos (nI_le (by omega) (by omega))]
      rw [if_neg c] at ih
      exact ih
theorem mo_tallest {P : Nat} {μ : Mu} {s : Nat → Nat} (h6 : μ 59 6 = nI P) (hP : P ≤ 16) (hs : ∀ p, p < P → μ 60 (22 + p) = nI (s p) ∧ s p ≤ 9999) : Mo_tallest 59 μ = some (tI (talS s P).1, μ) := by
  suffices K : Mo_tallest_4 59 FU (tI (talS s 0).1) (nI 0) μ = some (tI (talS s P).1, μ) from K
  unfold Mo_tallest_4
  refine lp_fu (F := fun kb => Mo_tallest_4b 59 kb) (z := fun _ _ _ => none) P (fun k A => A (tI (talS s k).1) (nI k) μ = some (tI (talS s P).1, μ)) (by omega) ?_ ?_ 0 (by omega)
  · intro A
    show Mo_tallest_4b 59 A _ (nI P) μ = _
    unfold Mo_tallest_4b
    rw [gF_eq, h6, if_pos (nI_le (Nat.le_refl _) (by omega))]
  · intro k A hk ih
    show Mo_tallest_4b 59 A _ (nI k) μ = _
    have e : talS s (k + 1) = if (talS s k).2 < s k then (k + 1, s k) else talS s k := rfl
    have hk9 := (hs k hk).2
    unfold Mo_tallest_4b
    simp only [Nat.reduceAdd]
    rw [gF_eq, h6, if_neg (nI_ge hk (by omega)), show (22 : Int32) + nI k = nI (22 + k) from nI_add 22 k, ldA_nI (by omega) (by omega), (hs k hk).1]
    have go : ∀ b : Nat, b = (talS s k).2 → b ≤ 9999 → Mo_tallest_39 59 A (tI (talS s k).1) (nI k) (nI b) (nI (s k)) μ = some (tI (talS s P).1, μ) := by
      intro b hb hb9
      subst hb
      unfold Mo_tallest_39 Mo_tallest_44
      rw [e] at ih
      by_cases c : (talS s k).2 < s k
      · rw [if_neg (nI_ge c (by omega)), nI_1]
        rw [if_pos c] at ih
        simp only at ih
        rw [tI_succ] at ih
        exact ih
      · rw [if_pos (nI_le (by omega) (by omega)), nI_1]
        rw [if_neg c] at ih
        exact ih
    rcases talS_spec s k with ⟨h1, h2, _⟩ | ⟨i, i1, i2, i3, _⟩
    · rw [if_pos (by rw [h1]; decide)]
      exact go 0 h2.symm (by omega)
    · rw [if_neg (by rw [i2, tI_succ, n1_ne (by omega)]; exact id)]
      have e2 : (22 : Int32) + tI (talS s k).1 = nI (22 + i) := by rw [i2, tI_succ]; exact nI_add 22 i
      rw [e2, ldA_nI (by omega) (by omega), (hs i (by omega)).1]
      exact go (s i) i3.symm (hs i (by omega)).2
theorem fg_howMany {P c : Nat} {th : Int32} {μ : Mu} {N : Nat → Int32} {s : Nat → Nat} {top : Nat} (h : FigC P c th μ N) (hs : ∀ p, p < P → N (22 + p) = nI (s p) ∧ s p ≤ 9999) (ht : top ≤ 9999) : Fg_howMany c 1 (nI top) μ = some (nI (rk s top P), μ) := by
  have hP := h.1
  suffices K : Fg_howMany_5 c 1 (nI top) FU (nI (rk s top 0)) (nI 0) μ = some (nI (rk s top P), μ) from K
  unfold Fg_howMany_5
  refine lp_fu (F := fun kb => Fg_howMany_5b c kb 1 (nI top)) (z := fun _ _ _ => none) P (fun k A => A (nI (rk s top k)) (nI k) μ = some (nI (rk s top P), μ)) (by omega) ?_ ?_ 0 (by omega)
  · intro A
    show Fg_howMany_5b c A 1 (nI top) _ (nI P) μ = _
    unfold Fg_howMany_5b
    rw [gF_eq, h.2.2.1, if_pos (nI_le (Nat.le_refl _) (by omega))]
  · intro k A hk ih
    show Fg_howMany_5b c A 1 (nI top) _ (nI k) μ = _
    have e : rk s top (k + 1) = rk s top k + (if decide (s k = top) then 1 else 0) := fb_ct_succ _ _
    have hk9 := (hs k hk).2
    unfold Fg_howMany_5b Fg_howMany_28
    rw [gF_eq, h.2.2.1, if_neg (nI_ge hk (by omega)), fg_g1 h hk, cl_eq, (hs k hk).1, nI_1, nI_1]
    rw [e] at ih
    by_cases c : s k = top
    · rw [if_pos (by rw [c])]
      rw [decide_eq_true c, if_pos rfl] at ih
      exact ih
    · rw [if_neg (fun z => c ((nI_eq (by omega) (by omega)).mp z))]
      rw [decide_eq_false c, if_neg (by decide), Nat.add_zero] at ih
      exact ih
theorem fg_mostBelow {P c : Nat} {th : Int32} {μ : Mu} {N : Nat → Int32} {s : Nat → Nat} {top : Nat} (h : FigC P c th μ N) (hs : ∀ p, p < P → N (22 + p) = nI (s p) ∧ s p ≤ 9999) (ht : top ≤ 9999) (h0 : 0 < top) : Fg_mostBelow c (nI top) μ = some (nI (belS s top P), μ) := by
  have hP := h.1
  suffices K : Fg_mostBelow_4 c (nI top) FU (nI (belS s top 0)) (nI 0) μ = some (nI (belS s top P), μ) from K
  unfold Fg_mostBelow_4
  refine lp_fu (F := fun kb => Fg_mostBelow_4b c kb (nI top)) (z := fun _ _ _ => none) P (fun k A => A (nI (belS s top k)) (nI k) μ = some (nI (belS s top P), μ)) (by omega) ?_ ?_ 0 (by omega)
  · intro A
    show Fg_mostBelow_4b c A (nI top) _ (nI P) μ = _
    unfold Fg_mostBelow_4b
    rw [gF_eq, h.2.2.1, if_pos (nI_le (Nat.le_refl _) (by omega))]
  · intro k A hk ih
    show Fg_mostBelow_4b c A (nI top) _ (nI k) μ = _
    have e : belS s top (k + 1) = if s k < top ∧ belS s top k < s k then s k else belS s top k := rfl
    have hk9 := (hs k hk).2
    have hb := (belS_spec s h0 k).1
    unfold Fg_mostBelow_4b Fg_mostBelow_35
    rw [gF_eq, h.2.2.1, if_neg (nI_ge hk (by omega)), fg_g1 h hk, cl_eq, (hs k hk).1, nI_1]
    rw [e] at ih
    by_cases c1 : s k < top
    · rw [if_neg (nI_ge c1 (by omega))]
      by_cases c2 : belS s top k < s k
      · rw [if_neg (nI_ge c2 (by omega))]
        rw [if_pos ⟨c1, c2⟩] at ih
        exact ih
      · rw [if_pos (nI_le (by omega) (by omega))]
        rw [if_neg (fun z => c2 z.2)] at ih
        exact ih
    · rw [if_pos (nI_le (by omega) (by omega))]
      rw [if_neg (fun z => c1 z.1)] at ih
      exact ih
def mixS (k : Nat) (f g : Nat → Nat) (p : Nat) : Nat := if p < k then f p else g p
theorem mixS_lo {k : Nat} {f g : Nat → Nat} {p : Nat} (h : p < k) : mixS k f g p = f p := if_pos h
theorem mixS_hi {k : Nat} {f g : Nat → Nat} {p : Nat} (h : k ≤ p) : mixS k f g p = g p := if_neg (by omega)
theorem lickI_le (P : Nat) (s : Nat → Nat) (n p : Nat) : lickI P s n p ≤ s p := by
  induction n with
  | zero => exact Nat.le_refl _
  | succ n ih =>
    show lick1 P (lickI P s n) p ≤ s p
    unfold lick1
    split <;> omega
theorem subI_le {a b : Nat} (ha : a < 2 ^ 30) (hb : b < 2 ^ 30) : (nI a - nI b ≤ 0) ↔ a ≤ b := by
  rw [fa_le, pk_sub_toInt ha hb, show (0 : Int32).toInt = 0 by decide]; omega
/-- one lick of the class: a batch -/
theorem c_lick {P c : Nat} {th : Int32} {μ : Mu} {N : Nat → Int32} {s : Nat → Nat} {l : Nat} (h : FigC P c th μ (setS N P s)) (hs : ∀ p, p < P → s p ≤ 9999) (hl : l ≤ 9999) : Ev (Dy_lick c (nI l) μ) (fun r μ' => ∃ g s1, g ≤ l ∧ r = nI g ∧ FigC P c th μ' (setS N P s1) ∧ s1 = lickI P s g ∧ Off [c + 1] μ μ' ∧ ((∀ p, p < P → s p = 0) → g = l) ∧ (g = l ∨ (∀ p, p < P → s1 p = 0) ∨ lowM P s1 < lowM P s)) := by
  have hP := h.1
  have hs' : ∀ p, p < P → setS N P s (22 + p) = nI (s p) ∧ s p ≤ 9999 := fun p hp => ⟨setS_at hp, hs p hp⟩
  unfold Dy_lick
  rw [fg_tallest h hs', cl_eq]
  rcases talS_spec s P with ⟨h1, h2, h3⟩ | ⟨i, i1, i2, i3, i4, i5, i6⟩
  · rw [h1, fg_get_no h (tI 0) 1 (Or.inl (by decide)), cl_eq]
    have hh : Ev (Fg_howMany c 1 (-1) μ) (fun _ μ' => μ' = μ) := by
      suffices K : ∀ x, Ev (Fg_howMany_5 c 1 (-1) FU x (nI 0) μ) (fun _ μ' => μ' = μ) from K 0
      unfold Fg_howMany_5
      refine lp_fu (F := fun kb => Fg_howMany_5b c kb 1 (-1)) (z := fun _ _ _ => none) P (fun k A => ∀ x, Ev (A x (nI k) μ) (fun _ μ' => μ' = μ)) (by omega) ?_ ?_ 0 (by omega)
      · intro A x
        show Ev (Fg_howMany_5b c A 1 (-1) x (nI P) μ) _
        unfold Fg_howMany_5b
        rw [gF_eq, h.2.2.1, if_pos (nI_le (Nat.le_refl _) (by omega))]
        exact ev_some rfl
      · intro k A hk ih x
        show Ev (Fg_howMany_5b c A 1 (-1) x (nI k) μ) _
        unfold Fg_howMany_5b Fg_howMany_28
        rw [gF_eq, h.2.2.1, if_neg (nI_ge hk (by omega)), fg_g1 h hk, cl_eq, nI_1]
        exact ev_ite (fun _ => ih _) (fun _ => ih _)
    refine ev_cl (ev_mono hh ?_)
    rintro x μ1 rfl
    rw [if_pos (by decide)]
    exact ev_some ⟨l, s, Nat.le_refl _, rfl, h, (lickI_zero h3 l).symm, off_refl _ _, fun _ => rfl, Or.inl rfl⟩
  · have hsi := hs i i1
    rw [i2, tI_succ, fg_g1 h i1, cl_eq, setS_at i1, fg_howMany h hs' hsi, cl_eq, if_neg (nI_nle i4 (by omega))]
    have hm : 0 < rk s (s i) P := rk_pos i1 rfl
    have hm16 : rk s (s i) P ≤ 16 := Nat.le_trans (fb_ct_le _ _) hP
    obtain ⟨b1, b2, b3⟩ := belS_spec s i4 P
    rw [if_pos (show (0 : Int32) < nI (rk s (s i) P) from nI_lt (a := 0) hm (by omega)), fg_mostBelow h hs' hsi i4, cl_eq, nz_eq (nI_ne0 hm (by omega)), nz_eq (nI_ne0 hm (by omega))]
    have hmul : rk s (s i) P * (s i - belS s (s i) P) ≤ 16 * 9999 := Nat.mul_le_mul hm16 (by omega)
    rw [pk_sub (by omega), pk_mul, jmin_nI (by omega) (by omega)]
    generalize hg : min l (rk s (s i) P * (s i - belS s (s i) P)) = g
    have hgl : g ≤ l := by omega
    have hgm : g ≤ rk s (s i) P * (s i - belS s (s i) P) := by omega
    rw [pk_div (by omega) hm (by omega), jrem_nI (by omega) hm (by omega)]
    have hall := batch_all i5 hm b1 b2 g hgm
    have hdiv : g / rk s (s i) P ≤ s i - belS s (s i) P := Nat.div_le_of_le_mul hgm
    have hdiv2 : g % rk s (s i) P = 0 ∨ g / rk s (s i) P < s i - belS s (s i) P := by
      rcases Nat.lt_or_ge g (rk s (s i) P * (s i - belS s (s i) P)) with z | z
      · exact Or.inr ((Nat.div_lt_iff_lt_mul hm).mpr (by rw [Nat.mul_comm]; exact z))
      · refine Or.inl ?_
        rw [show g = rk s (s i) P * (s i - belS s (s i) P) by omega, Nat.mul_mod_right]
    have fin : FigC P c th μ (setS N P s) → Ev (Dy_lick_57 c (nI (s i)) (nI g) (nI (g / rk s (s i) P)) FU (nI (g % rk s (s i) P) - nI (rk s (s i) 0)) (nI 0) μ) (fun r μ' => r = nI g ∧ FigC P c th μ' (setS N P (batch P s (s i) g)) ∧ Off [c + 1] μ μ') := by
      intro _
      suffices K : ∀ μ1, Off [c + 1] μ μ1 → FigC P c th μ1 (setS N P (mixS 0 (batch P s (s i) g) s)) → Ev (Dy_lick_57 c (nI (s i)) (nI g) (nI (g / rk s (s i) P)) FU (nI (g % rk s (s i) P) - nI (rk s (s i) 0)) (nI 0) μ1) (fun r μ' => r = nI g ∧ FigC P c th μ' (setS N P (batch P s (s i) g)) ∧ Off [c + 1] μ μ') from K μ (off_refl _ _) (figC_row (fun k _ => by
        have : (mixS 0 (batch P s (s i) g) s) = s := funext fun p => mixS_hi (Nat.zero_le _)
        rw [this]) h)
      unfold Dy_lick_57
      refine lp_fu (F := fun kb => Dy_lick_57b c kb (nI (s i)) (nI g) (nI (g / rk s (s i) P))) (z := fun _ _ _ => none) P (fun k A => ∀ μ1, Off [c + 1] μ μ1 → FigC P c th μ1 (setS N P (mixS k (batch P s (s i) g) s)) → Ev (A (nI (g % rk s (s i) P) - nI (rk s (s i) k)) (nI k) μ1) (fun r μ' => r = nI g ∧ FigC P c th μ' (setS N P (batch P s (s i) g)) ∧ Off [c + 1] μ μ')) (by omega) ?_ ?_ 0 (by omega)
      · intro A μ1 hO hF
        show Ev (Dy_lick_57b c A _ _ _ _ (nI P) μ1) _
        unfold Dy_lick_57b
        rw [gF_eq, hF.2.2.1, if_pos (nI_le (Nat.le_refl _) (by omega))]
        refine ev_some ⟨rfl, figC_row (fun k hk => ?_) hF, hO⟩
        unfold setS
        by_cases z : 22 ≤ k ∧ k < 22 + P
        · rw [if_pos z, if_pos z, mixS_lo (by omega)]
        · rw [if_neg z, if_neg z]
      · intro k A hk ih μ1 hO hF
        show Ev (Dy_lick_57b c A _ _ _ _ (nI k) μ1) _
        have hsk := hs k hk
        have e : rk s (s i) (k + 1) = rk s (s i) k + (if decide (s k = s i) then 1 else 0) := fb_ct_succ _ _
        have hrk : rk s (s i) k ≤ 16 := Nat.le_trans (fb_ct_le _ _) (by omega)
        have hmod := Nat.mod_lt g hm
        unfold Dy_lick_57b Dy_lick_97 Dy_lick_103
        rw [gF_eq, hF.2.2.1, if_neg (nI_ge hk (by omega)), fg_g1 hF hk, cl_eq, setS_at hk, mixS_hi (Nat.le_refl k), nI_1]
        by_cases c1 : s k = s i
        · rw [if_pos (by rw [c1])]
          have bk : batch P s (s i) g k = s i - g / rk s (s i) P - (if rk s (s i) k < g % rk s (s i) P then 1 else 0) := by unfold batch; rw [if_pos ⟨hk, c1⟩]
          have ecnt : nI (g % rk s (s i) P) - nI (rk s (s i) k) + -1 = nI (g % rk s (s i) P) - nI (rk s (s i) (k + 1)) := by
            rw [e, decide_eq_true c1, if_pos rfl, ← nI_1]; grind
          have step : ∀ v : Int32, nI (s k) + v = nI (batch P s (s i) g k) → Ev (cl (Fg_add c (nI k) 1 v μ1) (fun _ μ1 => A (nI (g % rk s (s i) P) - nI (rk s (s i) k) + -1) (nI (k + 1)) μ1)) (fun r μ' => r = nI g ∧ FigC P c th μ' (setS N P (batch P s (s i) g)) ∧ Off [c + 1] μ μ') := by
            intro v hv
            refine ev_cl (ev_mono (fg_a hF k 1 (22 + k) 1 rfl (by omega) hk (by omega) v) ?_)
            rintro _ μ2 ⟨f2, o2⟩
            rw [ecnt]
            refine ih μ2 (off_trans hO o2) (figC_row (fun j hj => ?_) f2)
            unfold upd
            by_cases z : j = 22 + k
            · subst z
              rw [if_pos rfl, setS_at hk, setS_at hk, mixS_hi (Nat.le_refl k), hv, mixS_lo (by omega)]
            · rw [if_neg z]
              unfold setS
              by_cases y : 22 ≤ j ∧ j < 22 + P
              · rw [if_pos y, if_pos y]
                by_cases x : j - 22 < k
                · rw [mixS_lo x, mixS_lo (by omega)]
                · rw [mixS_hi (by omega), mixS_hi (by omega)]
              · rw [if_neg y, if_neg y]
          by_cases c2 : g % rk s (s i) P ≤ rk s (s i) k
          · rw [if_pos ((subI_le (by omega) (by omega)).mpr c2)]
            refine step _ ?_
            rw [bk, if_neg (by omega), c1, Nat.sub_zero, ← pk_sub (by omega)]; grind
          · rw [if_neg (fun z => c2 ((subI_le (by omega) (by omega)).mp z))]
            refine step _ ?_
            rw [bk, if_pos (by omega), c1, Nat.sub_sub, ← pk_sub (by omega), ← nI_1]; grind
        · rw [if_neg (fun z => c1 ((nI_eq (by omega) (by omega)).mp z))]
          rw [e, decide_eq_false c1, if_neg (by decide), Nat.add_zero] at ih
          refine ih μ1 hO (figC_row (fun j hj => ?_) hF)
          unfold setS
          by_cases y : 22 ≤ j ∧ j < 22 + P
          · rw [if_pos y, if_pos y]
            by_cases x : j - 22 < k
            · rw [mixS_lo x, mixS_lo (by omega)]
            · rw [mixS_hi (k := k) (by omega)]
              by_cases w : j - 22 = k
              · rw [mixS_lo (by omega), w]
                unfold batch
                rw [if_neg (fun z => c1 z.2)]
              · rw [mixS_hi (by omega)]
          · rw [if_neg y, if_neg y]
    have e0 : nI (g % rk s (s i) P) - nI (rk s (s i) 0) = nI (g % rk s (s i) P) := by
      show nI (g % rk s (s i) P) - nI 0 = _
      rw [pk_sub (by omega)]; rfl
    rw [e0] at fin
    refine ev_mono (fin h) ?_
    rintro r μ' ⟨rfl, f, o⟩
    refine ⟨g, _, hgl, rfl, f, hall.symm, o, fun z => by have := z i i1; omega, ?_⟩
    rcases Nat.lt_or_ge l (rk s (s i) P * (s i - belS s (s i) P)) with z | z
    · exact Or.inl (by omega)
    · rw [show g = rk s (s i) P * (s i - belS s (s i) P) by omega]
      exact Or.inr (full_low i1 i3 i4 i5)
