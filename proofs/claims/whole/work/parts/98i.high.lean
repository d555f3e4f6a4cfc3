/-! L3: HIGH -/
def hiF (d : Nat → St) (p v : Nat) : Nat → Int32
  | 0 => -1
  | m + 1 => if nI v ≤ (d (60 - m)).1 (22 + p) then nI (60 - m) else hiF d p v m
theorem hiF_dead {P : Nat} {S : St} {L : LawL} {H : Nat → Int32} {W : List WLn} (hs : SpOk P S.1 L H) (hW : WOk P W) {p v k : Nat} (hp : p < P) (hv : 1 ≤ v) (hv2 : v ≤ 9999) (hk : k ≤ 61) (hd : (dyN P L H W S k).1 (86 + p) ≠ 0) : hiF (dyN P L H W S) p v (61 - k) = -1 := by
  have hP := hs.1.1
  have hall : ∀ j, (dyN P L H W S (k + j)).1 (86 + p) ≠ 0 := by
    intro j
    induction j with
    | zero => exact hd
    | succ j ih => exact (thk_goes (th := 1) (by decide) hs.2.2 hP hW).2.1 p (by omega) ih
  have : ∀ m, m ≤ 61 - k → hiF (dyN P L H W S) p v m = -1 := by
    intro m
    induction m with
    | zero => exact fun _ => rfl
    | succ m ih =>
      intro hm
      show (if nI v ≤ (dyN P L H W S (60 - m)).1 (22 + p) then nI (60 - m) else hiF (dyN P L H W S) p v m) = -1
      have h1 := hall (60 - m - k)
      rw [show k + (60 - m - k) = 60 - m by omega] at h1
      rcases (sp_dy hs hW (60 - m)).1.2.2.1 p hp with z | ⟨_, _, z⟩
      · exact absurd z h1
      · rw [z, if_neg (show ¬ nI v ≤ (0 : Int32) from nI_ge (a := 0) (by omega) (by omega))]; exact ih (by omega)
  exact this _ (Nat.le_refl _)
theorem hiF_step {d : Nat → St} {p v k : Nat} (hk : k ≤ 60) : hiF d p v (61 - k) = if nI v ≤ (d k).1 (22 + p) then nI k else hiF d p v (61 - (k + 1)) := by
  rw [show 61 - k = (60 - k) + 1 by omega]
  show (if nI v ≤ (d (60 - (60 - k))).1 (22 + p) then nI (60 - (60 - k)) else hiF d p v (60 - k)) = _
  rw [show 60 - (60 - k) = k by omega, show 61 - (k + 1) = 60 - k by omega]
theorem sn_high (q w : Int32) : StepN (Sf_high 0 q w) (Mo_high 59 q w) := by
  refine stepN_of (fun z hA => ?_)
  have hP : poP (zP z) ≤ 16 := hA.1.1.1.1
  have no : (∀ μ y, RepC μ y z → Sf_high 0 q w μ = some (-1, μ)) → (∀ ν, RepM ν z → Mo_high 59 q w ν = some (-1, up2 ν 59 0 0)) → ∃ r z', AbsOk z' ∧ (∀ μ y, LyRep y → RepC μ y z → Ev (Sf_high 0 q w μ) (fun x μ1 => x = r ∧ RepC μ1 y z' ∧ InC μ μ1)) ∧ (∀ ν, RepM ν z → Ev (Mo_high 59 q w ν) (fun x ν1 => x = r ∧ RepM ν1 z' ∧ InM ν ν1)) := by
    intro a b
    refine ⟨-1, z, hA, fun μ y hy hR => ?_, fun ν hR => ?_⟩
    · rw [a μ y hR]; exact ev_some ⟨rfl, hR, inC_refl μ⟩
    · rw [b ν hR]; exact ev_some ⟨rfl, repM_t hR, inM_up (inM_refl ν) (by omega)⟩
  rcases person_or hP q with hq | ⟨p, hp, rfl⟩
  · refine no (fun μ y hR => ?_) (fun ν hR => ?_)
    · unfold Sf_high
      simp only [Nat.reduceAdd]
      rw [fg_isAlive_no hR.1.1 hq, cl_eq, if_pos rfl]
    · unfold Mo_high
      rw [pF_eq, mo_isPerson (repM_t hR).1.2.2.1, cl_eq, if_pos hq, if_pos rfl]
  have hpw : ¬ (nI p < 0 ∨ nI (poP (zP z)) ≤ nI p) := by
    rintro (a | a)
    · exact nI_pos (by omega) a
    · exact nI_ge hp (by omega) a
  by_cases al : (poN (zP z)).1 (86 + p) = 0
  rotate_left
  · refine no (fun μ y hR => ?_) (fun ν hR => ?_)
    · unfold Sf_high
      simp only [Nat.reduceAdd]
      rw [fg_isAlive hR.1.1 hp, cl_eq, if_neg al, if_pos rfl]
    · have h1 := repM_t hR
      unfold Mo_high
      rw [pF_eq, mo_isPerson h1.1.2.2.1, cl_eq, if_neg hpw, if_neg (show ¬ (1 : Int32) = 0 by decide), mo_isAlive hP hp, cl_eq, h1.2.1.1, if_neg al, if_pos rfl]
  by_cases c2 : w < 1 ∨ 9999 < w
  · refine no (fun μ y hR => ?_) (fun ν hR => ?_)
    · unfold Sf_high
      simp only [Nat.reduceAdd]
      rw [fg_isAlive hR.1.1 hp, cl_eq, if_pos al, if_neg (show ¬ (1 : Int32) = 0 by decide), within_eq, cl_eq, if_pos c2, if_pos rfl]
    · have h1 := repM_t hR
      unfold Mo_high
      rw [pF_eq, mo_isPerson h1.1.2.2.1, cl_eq, if_neg hpw, if_neg (show ¬ (1 : Int32) = 0 by decide), mo_isAlive hP hp, cl_eq, h1.2.1.1, if_pos al, if_neg (show ¬ (1 : Int32) = 0 by decide), isIn_eq, cl_eq, if_pos c2, if_pos rfl]
  obtain ⟨v, hv1, hv, rfl⟩ := nI_rng (lo := 1) (n := 9999) (by omega) (by omega) (fun a => c2 (Or.inl a)) (fun a => c2 (Or.inr a))
  generalize hd : dyN (poP (zP z)) (poL (zP z)) (poH (zP z)) (poW (zP z)) (poN (zP z)) = d
  have hsd := fun k => (hd ▸ sp_dy hA.1.1 hA.1.2.1 k : SpOk (poP (zP z)) (d k).1 (poL (zP z)) (poH (zP z)))
  have hdead := fun k (hk : k ≤ 61) (h : (d k).1 (86 + p) ≠ 0) => (hd ▸ hiF_dead hA.1.1 hA.1.2.1 hp hv1 hv hk (hd.symm ▸ h) : hiF d p v (61 - k) = -1)
  refine ⟨hiF d p v (61 - 0), z, hA, fun μ y hy hR => ?_, fun ν hR => ?_⟩
  · unfold Sf_high
    simp only [Nat.reduceAdd]
    rw [fg_isAlive hR.1.1 hp, cl_eq, if_pos al, if_neg (show ¬ (1 : Int32) = 0 by decide), within_eq, cl_eq, if_neg c2, if_neg (show ¬ (1 : Int32) = 0 by decide)]
    refine ev_cl (ev_mono (copy_thought hR) (fun _ μ0 h0 => ?_))
    suffices K : ∀ μ1, CtxC (poP (zP z)) 42 1 μ1 (d 0) (poL (zP z)) (poH (zP z)) → WeaC μ1 (poW (zP z)) → Off (CR 42) μ μ1 → Ev (Sf_high_43 0 (nI p) (nI v) FU (nI 0) μ1) (fun r μ' => r = hiF d p v (61 - 0) ∧ RepC μ' y z ∧ InC μ μ') from K μ0 (hd ▸ h0.1) h0.2.1 h0.2.2
    unfold Sf_high_43
    refine lp_fu (F := fun kb => Sf_high_43b 0 kb (nI p) (nI v)) (z := fun _ _ => none) 61 (fun k A => ∀ μ1, CtxC (poP (zP z)) 42 1 μ1 (d k) (poL (zP z)) (poH (zP z)) → WeaC μ1 (poW (zP z)) → Off (CR 42) μ μ1 → Ev (A (nI k) μ1) (fun r μ' => r = hiF d p v (61 - k) ∧ RepC μ' y z ∧ InC μ μ')) (by omega) ?_ ?_ 0 (by omega)
    · intro A μ1 g1 g2 g3
      show Ev (Sf_high_43b 0 A _ _ _ μ1) _
      unfold Sf_high_43b
      rw [if_pos (show (60 : Int32) < nI 61 by decide)]
      exact ev_some ⟨rfl, repC_thought hy hA hR (k := 61) (hd.symm ▸ g1) g3⟩
    · intro k A hk ih μ1 g1 g2 g3
      show Ev (Sf_high_43b 0 A _ _ _ μ1) _
      unfold Sf_high_43b
      simp only [Nat.reduceAdd]
      rw [if_neg (show ¬ (60 : Int32) < nI k from nI_nlt (a := 60) (by omega) (by omega)), fg_isAlive g1.1 hp, cl_eq]
      by_cases a : (d k).1 (86 + p) = 0
      · rw [if_pos a, if_neg (show ¬ (1 : Int32) = 0 by decide), fg_g1 g1.1 hp, cl_eq, hiF_step (by omega)]
        obtain ⟨s, hs9, hs⟩ := (hsd k).1.2.1 p hp
        rw [hs]
        by_cases b : v ≤ s
        · rw [if_neg (nI_nlt b (by omega)), if_pos (nI_le b (by omega))]
          exact ev_some ⟨rfl, repC_thought hy hA hR (k := k) (hd.symm ▸ g1) g3⟩
        · rw [if_pos (nI_lt (by omega) (by omega)), if_neg (nI_ge (by omega) (by omega))]
          refine ev_cl (ev_mono (day_c hA (hd.symm ▸ g1) g2) (fun _ μ2 e => ?_))
          rw [nI_1]; exact ih μ2 (hd ▸ e.1) e.2.1 (off_trans g3 e.2.2)
      · rw [if_neg a, if_pos rfl, hdead k (by omega) a]
        exact ev_some ⟨rfl, repC_thought hy hA hR (k := k) (hd.symm ▸ g1) g3⟩
  · obtain ⟨h1, i1⟩ := mo_t hR
    unfold Mo_high
    rw [pF_eq, mo_isPerson h1.1.2.2.1, cl_eq, if_neg hpw, if_neg (show ¬ (1 : Int32) = 0 by decide), mo_isAlive hP hp, cl_eq, h1.2.1.1, if_pos al, if_neg (show ¬ (1 : Int32) = 0 by decide), isIn_eq, cl_eq, if_neg c2, if_neg (show ¬ (1 : Int32) = 0 by decide)]
    refine ev_cl (ev_mono (thm_begin h1) (fun _ ν0 h0 => ?_))
    have fin : ∀ k ν1, ThM (up2 ν 59 0 0) z ν1 k → ∀ r, r = (if nI k ≤ (60 : Int32) then nI k else -1) → Ev (Mo_high_72 59 (nI k) ν1) (fun x ν' => x = r ∧ RepM ν' z ∧ InM ν ν') := by
      intro k ν1 g r hr
      unfold Mo_high_72
      refine ev_cl (ev_mono (thm_end hA h1 g) (fun _ ν' e => ?_))
      by_cases c : nI k ≤ (60 : Int32)
      · rw [if_pos c] at hr ⊢; exact ev_some ⟨hr.symm, e.1, fun k hk => (e.2 k hk).trans (i1 k hk)⟩
      · rw [if_neg c] at hr ⊢; exact ev_some ⟨hr.symm, e.1, fun k hk => (e.2 k hk).trans (i1 k hk)⟩
    suffices K : ∀ ν1, ThM (up2 ν 59 0 0) z ν1 0 → Ev (Mo_high_41 59 (nI p) (nI v) FU (nI 0) ν1) (fun r ν' => r = hiF d p v (61 - 0) ∧ RepM ν' z ∧ InM ν ν') from K ν0 h0
    unfold Mo_high_41
    refine lp_fu (F := fun kb => Mo_high_41b 59 kb (nI p) (nI v)) (z := fun _ _ => none) 61 (fun k A => ∀ ν1, ThM (up2 ν 59 0 0) z ν1 k → Ev (A (nI k) ν1) (fun r ν' => r = hiF d p v (61 - k) ∧ RepM ν' z ∧ InM ν ν')) (by omega) ?_ ?_ 0 (by omega)
    · intro A ν1 g
      show Ev (Mo_high_41b 59 A _ _ _ ν1) _
      unfold Mo_high_41b
      rw [if_pos (show (60 : Int32) < nI 61 by decide)]
      exact fin 61 ν1 g _ (by rw [if_neg (by decide)]; rfl)
    · intro k A hk ih ν1 g
      show Ev (Mo_high_41b 59 A _ _ _ ν1) _
      unfold Mo_high_41b
      simp only [Nat.reduceAdd]
      have h60 : ν1 60 = (d k).1 := by rw [← hd]; exact g.1.1
      rw [if_neg (show ¬ (60 : Int32) < nI k from nI_nlt (a := 60) (by omega) (by omega)), show (22 : Int32) + nI p = nI (22 + p) from nI_add 22 p, ldA_nI (by omega) (by omega), h60, hiF_step (by omega)]
      by_cases b : nI v ≤ (d k).1 (22 + p)
      · rw [if_pos b, if_pos b]
        exact fin k ν1 g _ (by rw [if_pos (show nI k ≤ (60 : Int32) from nI_le (b := 60) (by omega) (by omega))])
      · rw [if_neg b, if_neg b]
        refine ev_cl (ev_mono (thm_day hA h1 g) (fun _ ν2 e => ?_))
        rw [nI_1]; exact ih ν2 e
