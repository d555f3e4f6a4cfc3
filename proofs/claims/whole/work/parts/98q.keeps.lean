/-! L3: THE IMAGE, the reference: place after place -/
def KJ (T D : List (Nat × Nat)) (w ν0 : Mu) (md : Int32) (ν : Mu) : Prop := D <+: T ∧ ν 59 67 = nI D.length ∧ (∀ p, p ∈ D → ν p.1 p.2 = w p.1 p.2) ∧ (∀ i, i < D.length → ν 98 i = w (D.getD i (0, 0)).1 (D.getD i (0, 0)).2) ∧ (md = 1 → ∀ p, p ∈ T → ν p.1 p.2 = w p.1 p.2) ∧ (md = 0 → ∀ i, i < T.length → ν 98 i = w (T.getD i (0, 0)).1 (T.getD i (0, 0)).2) ∧ ν 59 65 = md ∧ ∀ k j, (k, j) ∉ T → k ≠ 98 → ¬ (k = 59 ∧ j = 67) → ν k j = ν0 k j
def GoT (T : List (Nat × Nat)) : Prop := T.length ≤ 2200 ∧ ∀ p, p ∈ T → p.1 ≠ 98 ∧ ¬ (p.1 = 59 ∧ (p.2 = 65 ∨ p.2 = 67))
theorem kj_val {T D : List (Nat × Nat)} {w ν0 : Mu} {md : Int32} {ν : Mu} {a i : Nat} (hmd : md = 0 ∨ md = 1) (hG : GoT T) (h : KJ T D w ν0 md ν) (hp : D ++ [(a, i)] <+: T) : Ev (Mo_keeps 59 (ν a i) ν) (fun r ν' => r = w a i ∧ KJ T (D ++ [(a, i)]) w ν0 md (up2 ν' a i r)) := by
  obtain ⟨h1, h2, h3, h4, h5, h6, h7, h8⟩ := h
  have hmem : (a, i) ∈ T := hp.subset (List.mem_append_right _ (List.mem_singleton_self _))
  obtain ⟨hT, hG⟩ := hG
  have ha : a ≠ 98 := (hG _ hmem).1
  have h59 : ¬ (a = 59 ∧ (i = 65 ∨ i = 67)) := (hG _ hmem).2
  have hlen : D.length < T.length := by
    have := hp.length_le
    rw [List.length_append] at this
    simp only [List.length_cons, List.length_nil] at this; omega
  have hget : T.getD D.length (0, 0) = (a, i) := by
    obtain ⟨R, e⟩ := hp
    rw [← e, List.getD_eq_getElem?_getD, List.append_assoc, List.getElem?_append_right (Nat.le_refl _), Nat.sub_self]; rfl
  have hgD : ∀ j, j < D.length → (D ++ [(a, i)]).getD j (0, 0) = D.getD j (0, 0) := fun j hj => by
    rw [List.getD_eq_getElem?_getD, List.getD_eq_getElem?_getD, List.getElem?_append_left hj]
  have hgE : (D ++ [(a, i)]).getD D.length (0, 0) = (a, i) := by
    rw [List.getD_eq_getElem?_getD, List.getElem?_append_right (Nat.le_refl _), Nat.sub_self]; rfl
  have hl1 : (D ++ [(a, i)]).length = D.length + 1 := by rw [List.length_append]; rfl
  have n67 : ¬ (a = 59 ∧ i = 67) := fun z => h59 ⟨z.1, Or.inr z.2⟩
  have n65 : ¬ (a = 59 ∧ i = 65) := fun z => h59 ⟨z.1, Or.inl z.2⟩
  -- what it comes to
  have fin : ∀ ν' : Mu, ν' 59 67 = nI (D.length + 1) → ν' 98 D.length = w a i → (∀ j, j ≠ D.length → ν' 98 j = ν 98 j) → (∀ k j, k ≠ 98 → ¬ (k = 59 ∧ j = 67) → ν' k j = ν k j) → KJ T (D ++ [(a, i)]) w ν0 md (up2 ν' a i (w a i)) := by
    intro ν' g1 g2 g3 g4
    have pl : ∀ p : Nat × Nat, p.1 ≠ 98 → ¬ (p.1 = 59 ∧ p.2 = 67) → ν p.1 p.2 = w p.1 p.2 → (up2 ν' a i (w a i)) p.1 p.2 = w p.1 p.2 := fun p n1 n2 hv => by
      by_cases e : p.1 = a ∧ p.2 = i
      · rw [e.1, e.2, up2_same]
      · rw [up2_off (by omega), g4 _ _ n1 n2]; exact hv
    have g98 : ∀ j, (up2 ν' a i (w a i)) 98 j = ν' 98 j := fun j => up2_off (Or.inl (Ne.symm ha))
    have plT : ∀ p : Nat × Nat, p ∈ T → ν p.1 p.2 = w p.1 p.2 → (up2 ν' a i (w a i)) p.1 p.2 = w p.1 p.2 := fun p hpT hv => pl p (hG p hpT).1 (fun z => (hG p hpT).2 ⟨z.1, Or.inr z.2⟩) hv
    refine ⟨hp, ?_, fun p hpm => ?_, fun j hj => ?_, fun m1 p hpT => ?_, fun m0 j hj => ?_, ?_, fun k j hk1 hk2 hk3 => ?_⟩
    · rw [up2_off (by omega), hl1]; exact g1
    · rcases List.mem_append.mp hpm with q | q
      · exact plT p (h1.subset q) (h3 p q)
      · rw [List.mem_singleton.mp q]; exact up2_same _ _ _ _
    · rw [g98]
      rw [hl1] at hj
      by_cases e : j = D.length
      · rw [e, hgE]; exact g2
      · rw [hgD j (by omega), g3 j e]; exact h4 j (by omega)
    · exact plT p hpT (h5 m1 p hpT)
    · rw [g98]
      by_cases e : j = D.length
      · rw [e, hget]; exact g2
      · rw [g3 j e]; exact h6 m0 j hj
    · rw [up2_off (by omega), g4 59 65 (by decide) (by decide)]; exact h7
    · have e : ¬ (k = a ∧ j = i) := fun z => hk1 (by rw [z.1, z.2]; exact hmem)
      rw [up2_off (by omega), g4 k j hk2 hk3]; exact h8 k j hk1 hk2 hk3
  unfold Mo_keeps
  simp only [Nat.reduceAdd]
  rw [gF_eq, h2, pF_eq, nI_1, gF_eq, up2_off (Or.inr (by decide)), h7]
  rcases hmd with rfl | rfl
  · rw [if_pos rfl, gF_eq, up2_same, nI_pred, ldA_nI (by omega) (by omega), up2_ne (by decide), h6 rfl _ hlen, hget]
    exact ev_some ⟨rfl, fin _ (up2_same _ _ _ _) (by rw [up2_ne (by decide), h6 rfl _ hlen, hget]) (fun j _ => by rw [up2_ne (by decide)]) (fun k j _ z => up2_off (by omega))⟩
  · rw [if_neg (by decide), gF_eq, up2_same, nI_pred, stA_nI (by omega) (by omega), h5 rfl _ hmem]
    exact ev_some ⟨rfl, fin _ (by rw [up2_ne (by decide), up2_same]) (up2_same _ _ _ _) (fun j hj => by rw [up2_off (Or.inr hj), up2_ne (by decide)]) (fun k j k98 z => by rw [up2_ne k98, up2_off (by omega)])⟩
theorem kj_arr {T D : List (Nat × Nat)} {w ν0 : Mu} {md : Int32} {ν : Mu} {a i n : Nat} {ρ : Type} {K : Mu → Option (ρ × Mu)} {Q : ρ → Mu → Prop} (hmd : md = 0 ∨ md = 1) (hG : GoT T) (h : KJ T D w ν0 md ν) (hp : D ++ [(a, i)] <+: T) (hi : i < n) (hn : n < 2 ^ 31) (k : ∀ ν', KJ T (D ++ [(a, i)]) w ν0 md ν' → Ev (K ν') Q) : Ev (ldA ν a n (nI i) (fun x1 => cl (Mo_keeps 59 x1 ν) (fun x3 μ2 => stA μ2 a n (nI i) x3 (fun μ4 => K μ4)))) Q := by
  rw [ldA_nI hi hn]
  refine ev_cl (ev_mono (kj_val hmd hG h hp) (fun r ν' g => ?_))
  rw [stA_nI hi hn]; exact k _ g.2
theorem kj_fld {T D : List (Nat × Nat)} {w ν0 : Mu} {md : Int32} {ν : Mu} {i : Nat} {ρ : Type} {K : Mu → Option (ρ × Mu)} {Q : ρ → Mu → Prop} (hmd : md = 0 ∨ md = 1) (hG : GoT T) (h : KJ T D w ν0 md ν) (hp : D ++ [(59, i)] <+: T) (k : ∀ ν', KJ T (D ++ [(59, i)]) w ν0 md ν' → Ev (K ν') Q) : Ev (gF ν 59 i (fun x1 => cl (Mo_keeps 59 x1 ν) (fun x3 μ2 => pF μ2 59 i x3 (fun μ4 => K μ4)))) Q := by
  rw [gF_eq]
  refine ev_cl (ev_mono (kj_val hmd hG h hp) (fun r ν' g => ?_))
  exact k _ g.2
theorem flat_succ (g : Nat → List (Nat × Nat)) (k : Nat) : (List.range (k + 1)).flatMap g = (List.range k).flatMap g ++ g k := by
  rw [List.range_succ, List.flatMap_append, List.flatMap_singleton]
theorem flat_pre (g : Nat → List (Nat × Nat)) {k n : Nat} (h : k ≤ n) : (List.range k).flatMap g <+: (List.range n).flatMap g := by
  induction n with
  | zero => rw [show k = 0 by omega]; exact List.prefix_refl _
  | succ n ih =>
    by_cases e : k = n + 1
    · rw [e]; exact List.prefix_refl _
    · rw [flat_succ]; exact (ih (by omega)).trans (List.prefix_append _ _)
theorem flat_step {g : Nat → List (Nat × Nat)} {T D : List (Nat × Nat)} {k n : Nat} (h : D ++ (List.range n).flatMap g <+: T) (hk : k < n) : (D ++ (List.range k).flatMap g) ++ g k <+: T := by
  rw [List.append_assoc, ← flat_succ]
  exact ((List.prefix_append_right_inj D).mpr (flat_pre g hk)).trans h
theorem map_flat (f : Nat → Nat × Nat) (n : Nat) : (List.range n).map f = (List.range n).flatMap (fun k => [f k]) := by
  induction n with
  | zero => rfl
  | succ n ih => rw [flat_succ, List.range_succ, List.map_append, ih]; rfl
/-- a loop over places -/
theorem kj_loop {ρ : Type} {F : (Int32 → Mu → Option (ρ × Mu)) → Int32 → Mu → Option (ρ × Mu)} {T D : List (Nat × Nat)} {w ν0 : Mu} {md : Int32} {g : Nat → List (Nat × Nat)} {n : Nat} {ν : Mu} {Q : ρ → Mu → Prop} (hn : n ≤ 100000) (h : KJ T D w ν0 md ν) (hx : ∀ A ν', KJ T (D ++ (List.range n).flatMap g) w ν0 md ν' → Ev (F A (nI n) ν') Q) (hs : ∀ k A ν', k < n → KJ T (D ++ (List.range k).flatMap g) w ν0 md ν' → (∀ ν2, KJ T (D ++ (List.range k).flatMap g ++ g k) w ν0 md ν2 → Ev (A (nI (k + 1)) ν2) Q) → Ev (F A (nI k) ν') Q) : Ev (lp F (fun _ _ => none) FU 0 ν) Q := by
  suffices K : ∀ ν', KJ T (D ++ (List.range 0).flatMap g) w ν0 md ν' → Ev (lp F (fun _ _ => none) FU (nI 0) ν') Q from K ν (by
    show KJ T (D ++ []) w ν0 md ν
    rw [List.append_nil]; exact h)
  refine lp_fu (F := F) (z := fun _ _ => none) n (fun k A => ∀ ν', KJ T (D ++ (List.range k).flatMap g) w ν0 md ν' → Ev (A (nI k) ν') Q) hn ?_ ?_ 0 (by omega)
  · intro A ν' hν; exact hx A ν' hν
  · intro k A hk ih ν' hν
    refine hs k A ν' hk hν (fun ν2 h2 => ih ν2 ?_)
    rw [flat_succ, ← List.append_assoc]; exact h2
