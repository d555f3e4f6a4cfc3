/-! L3: IMAGE, both -/
def mvI (z : Zt) (im : Option PoS) : Zt := (zP z, zU z, zB z, zF z, zG z, im)
theorem repM_img {ν ν' : Mu} {z : Zt} {im : Option PoS} (hr : ∀ k, k ∈ [60, 61, 63, 64, 65, 66, 67, 68, 69, 70, 71, 72, 76, 77, 81, 82, 83, 85, 86, 88, 91, 93, 94, 95] → ν' k = ν k) (hf : ∀ j, j ∈ [3, 5, 6, 9, 29, 30, 31, 34, 36, 41, 42, 45, 51, 55, 58, 61] → ν' 59 j = ν 59 j) (hI : ImgM ν' im) (h : RepM ν z) : RepM ν' (mvI z im) := by
  obtain ⟨h1, ⟨h2, h2b⟩, h3, h4, h5, h6, h7, h8, h9, h10, h11⟩ := h
  refine ⟨portM_of (fun k hk => hr k ?_) (fun j hj => hf j ?_) h1, ⟨(hr 60 (by decide)).trans h2, (hr 63 (by decide)).trans h2b⟩, (hf 5 (by decide)).trans h3, (hf 3 (by decide)).trans h4, fun i k a b => by rw [hr 61 (by decide)]; exact h5 i k a b, (hf 9 (by decide)).trans h6, fun i hi => by rw [hr 64 (by decide)]; exact h7 i hi, fun i hi => by rw [hr 65 (by decide)]; exact h8 i hi, (hf 29 (by decide)).trans h9, (hf 30 (by decide)).trans h10, hI⟩
  · simp only [List.mem_cons, List.not_mem_nil, or_false] at hk ⊢; omega
  · simp only [List.mem_cons, List.not_mem_nil, or_false] at hj ⊢; omega
theorem plL_ck {p : Nat × Nat} (hp : p ∈ plL) : (59 ≤ p.1 ∧ p.1 < 98) ∧ (p.1 ≠ 61 ∧ p.1 ≠ 64 ∧ p.1 ≠ 65) ∧ (p.1 = 60 → p.2 < 118) ∧ (p.1 = 63 → p.2 < 600) ∧ (p.1 = 59 → p.2 ∉ [3, 5, 9, 29, 30, 66]) := by
  have : plL.all (fun p => decide ((59 ≤ p.1 ∧ p.1 < 98) ∧ (p.1 ≠ 61 ∧ p.1 ≠ 64 ∧ p.1 ≠ 65) ∧ (p.1 = 60 → p.2 < 118) ∧ (p.1 = 63 → p.2 < 600) ∧ (p.1 = 59 → p.2 ∉ [3, 5, 9, 29, 30, 66]))) = true := by decide +kernel
  exact of_decide_eq_true (List.all_eq_true.mp this p hp)
theorem mo_img18 {ν w : Mu} {v : Int32} (hv : v = 0 ∨ v = 1) (h1 : v = 1 → w = up2 (up2 (up2 ν 59 65 v) 59 66 1) 59 67 0) (h0 : v = 0 → ∀ i, i < plL.length → ν 98 i = w (plL.getD i (0, 0)).1 (plL.getD i (0, 0)).2) : Ev (Mo_image_18 59 v ν) (fun x ν' => x = 1 ∧ ∃ ν2, KJ plL plL w (up2 (up2 (up2 ν 59 65 v) 59 66 1) 59 67 0) v ν2 ∧ ν' = if v = 0 then up2 ν2 59 3 0 else ν2) := by
  unfold Mo_image_18
  rw [zg_eq hv, pF_eq, zg_eq (Or.inr rfl), pF_eq, pF_eq]
  have k0 : KJ plL [] w (up2 (up2 (up2 ν 59 65 v) 59 66 1) 59 67 0) v (up2 (up2 (up2 ν 59 65 v) 59 66 1) 59 67 0) := ⟨List.nil_prefix, up2_same _ _ _ _, fun p hp => absurd hp List.not_mem_nil, fun i hi => absurd hi (by show ¬ i < 0; omega), fun e p _ => by rw [h1 e], fun e i hi => by rw [up2_ne (by decide), up2_ne (by decide), up2_ne (by decide)]; exact h0 e i hi, by rw [up2_off (Or.inr (by decide)), up2_off (Or.inr (by decide)), up2_same], fun _ _ _ _ _ => rfl⟩
  have hp := plL_eq
  refine ev_mono (ki35x hv plL_go ?_ k0 ?_) (fun x ν' g => ?_)
  · rw [hp]
    iterate 10 refine List.IsPrefix.trans ?_ (List.prefix_append _ _)
    exact List.prefix_refl _
  · rw [← hp]; exact List.prefix_refl _
  · rw [← hp] at g; exact g
theorem kj_in {w ν0 : Mu} {v : Int32} {ν2 : Mu} (h : KJ plL plL w ν0 v ν2) : ∀ k, (k < 59 ∨ 99 ≤ k) → ν2 k = ν0 k := fun k hk => funext (fun j => h.2.2.2.2.2.2.2 k j (fun z => by have := (plL_ck z).1; simp only at this; omega) (by omega) (by omega))
theorem mo_take {ν : Mu} {z : Zt} (hR : RepM ν z) : Ev (Mo_image_18 59 1 ν) (fun x ν' => x = 1 ∧ RepM ν' (mvI z (some (zP z))) ∧ InM ν ν') := by
  refine ev_mono (mo_img18 (Or.inr rfl) (fun _ => rfl) (fun e => absurd e (by decide))) (fun x ν' g => ?_)
  obtain ⟨g1, ν2, k, e⟩ := g
  rw [if_neg (by decide)] at e
  subst e
  refine ⟨g1, ?_, fun j hj => by rw [kj_in k j hj, up2_ne (by omega), up2_ne (by omega), up2_ne (by omega)]⟩
  have all : ∀ a j, a ≠ 98 → ¬ (a = 59 ∧ j = 67) → ν' a j = (up2 (up2 (up2 ν 59 65 1) 59 66 1) 59 67 0) a j := fun a j h1 h2 => by
    by_cases c : (a, j) ∈ plL
    · exact k.2.2.2.2.1 rfl (a, j) c
    · exact k.2.2.2.2.2.2.2 a j c h1 h2
  have row : ∀ a, a ≠ 98 → a ≠ 59 → ν' a = ν a := fun a h1 h2 => funext (fun j => by rw [all a j h1 (by omega), up2_ne h2, up2_ne h2, up2_ne h2])
  have fld : ∀ j, j ≠ 65 → j ≠ 66 → j ≠ 67 → ν' 59 j = ν 59 j := fun j h1 h2 h3 => by rw [all 59 j (by decide) (by omega), up2_off (Or.inr h3), up2_off (Or.inr h2), up2_off (Or.inr h1)]
  refine repM_img (fun a ha => row a (fun z => by rw [z] at ha; exact absurd ha (by decide)) (fun z => by rw [z] at ha; exact absurd ha (by decide))) (fun j hj => fld j (fun z => by rw [z] at hj; exact absurd hj (by decide)) (fun z => by rw [z] at hj; exact absurd hj (by decide)) (fun z => by rw [z] at hj; exact absurd hj (by decide))) (Or.inr ⟨_, zP z, ?_, rfl, ?_, k.2.2.2.1⟩) hR
  · rw [all 59 66 (by decide) (by decide), up2_off (Or.inr (by decide)), up2_same]
  · refine portM_of (fun a ha => ?_) (fun j hj => ?_) hR.1
    · have : a ≠ 59 := fun z => by rw [z] at ha; exact absurd ha (by decide)
      rw [up2_ne this, up2_ne this, up2_ne this]
    · rw [up2_off (Or.inr (fun z => by rw [z] at hj; exact absurd hj (by decide))), up2_off (Or.inr (fun z => by rw [z] at hj; exact absurd hj (by decide))), up2_off (Or.inr (fun z => by rw [z] at hj; exact absurd hj (by decide)))]
def pat6 (A B : Nat → Int32) : Nat → Int32 := fun k => if k < 600 then A k else B k
def backP (zi zo : PoS) : PoS := (poP zi, (patN (poN zi).1 (poN zo).1, pat6 (poN zi).2 (poN zo).2), poL zi, poH zi, poW zi, poA zi, poB zi, poT zi, poK zi)
def backZ (z : Zt) (zi : PoS) : Zt := (backP zi (zP z), [], zB z, zF z, zG z, zI z)
theorem mo_back {ν : Mu} {z : Zt} {zi : PoS} (hi : PortOk zi) (hz : zI z = some zi) (hR : RepM ν z) : Ev (Mo_image_18 59 0 ν) (fun x ν' => x = 1 ∧ RepM ν' (backZ z zi) ∧ InM ν ν') := by
  obtain ⟨h1, ⟨h2, h2b⟩, h3, h4, h5, h6, h7, h8, h9, h10, h11⟩ := hR
  obtain ⟨ν0, i66, iP, iv⟩ : ∃ ν0, ν 59 66 = 1 ∧ PortM ν0 zi ∧ ∀ i, i < plL.length → ν 98 i = ν0 (plL.getD i (0, 0)).1 (plL.getD i (0, 0)).2 := by
    rcases h11 with ⟨_, e⟩ | ⟨ν0, zj, a, b, c, d⟩
    · rw [hz] at e; cases e
    · rw [hz] at b
      injection b with b
      subst b
      exact ⟨ν0, a, c, d⟩
  refine ev_mono (mo_img18 (w := ν0) (Or.inl rfl) (fun e => absurd e (by decide)) (fun _ => iv)) (fun x ν' g => ?_)
  obtain ⟨g1, ν2, k, e⟩ := g
  rw [if_pos rfl] at e
  have n3 : ∀ p : Nat × Nat, p ∈ plL → ¬ (p.1 = 59 ∧ p.2 = 3) := fun p hp w => (plL_ck hp).2.2.2.2 w.1 (by rw [w.2]; decide)
  have val : ∀ p : Nat × Nat, p ∈ plL → ν' p.1 p.2 = ν0 p.1 p.2 := fun p hp => by
    have := n3 p hp
    rw [e, up2_off (by omega)]; exact k.2.2.1 p hp
  have frm : ∀ a j, (a, j) ∉ plL → a ≠ 98 → ¬ (a = 59 ∧ (j = 3 ∨ j = 65 ∨ j = 66 ∨ j = 67)) → ν' a j = ν a j := fun a j c c2 c3 => by
    rw [e, up2_off (by omega), k.2.2.2.2.2.2.2 a j c c2 (by omega), up2_off (by omega), up2_off (by omega), up2_off (by omega)]
  have row : ∀ a, a ∈ [61, 64, 65] → ν' a = ν a := fun a ha => funext (fun j => by
    simp only [List.mem_cons, List.not_mem_nil, or_false] at ha
    refine frm a j (fun z => ?_) (by omega) (by omega)
    have := (plL_ck z).2.1
    simp only at this
    omega)
  have fld : ∀ j, j ∈ [5, 9, 29, 30] → ν' 59 j = ν 59 j := fun j hj => by
    refine frm 59 j (fun z => (plL_ck z).2.2.2.2 rfl ?_) (by decide) ?_
    · simp only [List.mem_cons, List.not_mem_nil, or_false] at hj ⊢; omega
    · simp only [List.mem_cons, List.not_mem_nil, or_false] at hj; omega
  have e60 : ν' 60 = patN (poN zi).1 (poN (zP z)).1 := by
    funext j
    unfold patN
    by_cases c : j < 118
    · rw [if_pos c, val (60, j) (pm60 c)]; exact iP.1 j c
    · rw [if_neg c, frm 60 j (fun z => c ((plL_ck z).2.2.1 rfl)) (by decide) (by omega), h2]
  have e63 : ν' 63 = pat6 (poN zi).2 (poN (zP z)).2 := by
    funext j
    unfold pat6
    by_cases c : j < 600
    · rw [if_pos c, val (63, j) (pm63 c)]; exact iP.2.1 j c
    · rw [if_neg c, frm 63 j (fun z => c ((plL_ck z).2.2.2.1 rfl)) (by decide) (by omega), h2b]
  have pM := portM_pl iP hi val
  refine ⟨g1, ⟨⟨fun j _ => congrFun e60 j, fun j _ => congrFun e63 j, pM.2.2⟩, ⟨e60, e63⟩, (fld 5 (by decide)).trans h3, ?_, fun i j hi => absurd hi (by show ¬ i < 0; omega), (fld 9 (by decide)).trans h6, fun i hi => by rw [row 64 (by decide)]; exact h7 i hi, fun i hi => by rw [row 65 (by decide)]; exact h8 i hi, (fld 29 (by decide)).trans h9, (fld 30 (by decide)).trans h10, ?_⟩, fun j hj => ?_⟩
  · rw [e, up2_same]; rfl
  · refine Or.inr ⟨ν0, zi, ?_, hz, iP, fun i hi => ?_⟩
    · rw [e, up2_off (Or.inr (by decide)), k.2.2.2.2.2.2.2 59 66 (fun z => (plL_ck z).2.2.2.2 rfl (by decide)) (by decide) (by decide), up2_off (Or.inr (by decide)), up2_same]
    · rw [e, up2_ne (by decide)]; exact k.2.2.2.1 i hi
  · rw [e, up2_ne (by omega), kj_in k j hj, up2_ne (by omega), up2_ne (by omega), up2_ne (by omega)]
/-! the class -/
theorem tdB_of {μ : Mu} {e : Nat} {t : Int32} {K : Nat → List Int32} (h : ToldX μ e t K) : tdB μ e := by
  obtain ⟨_, a0, a1, a2, a3, a4, a5, a6, a7, a8, a9⟩ := h
  exact ⟨⟨a0.1, a0.2.1⟩, ⟨a1.1, a1.2.1⟩, ⟨a2.1, a2.2.1⟩, ⟨a3.1, a3.2.1⟩, ⟨a4.1, a4.2.1⟩, ⟨a5.1, a5.2.1⟩, ⟨a6.1, a6.2.1⟩, ⟨a7.1, a7.2.1⟩, ⟨a8.1, a8.2.1⟩, ⟨a9.1, a9.2.1⟩⟩
def RepC0 (μ : Mu) (y : Ly) (z : Zt) : Prop := PortC μ (zP z) ∧ μ 42 0 = 1 ∧ μ 48 1 = nI (zB z).length ∧ (∀ i, i < (zB z).length → μ 49 i = nI ((zB z).getD i 0)) ∧ μ 48 8 = zF z ∧ μ 48 9 = zG z ∧ UndoC μ y (poP (zP z)) (zU z)
theorem img22 {μ : Mu} {y : Ly} {z : Zt} {q : Nat} (hy : LyRep y) (hA : AbsOk z) (hR : RepC0 μ y z) (hq : y.1 0 1 = some q) (h0 : μ (q + 1) 0 = 0) (hb : tdB μ (q + 17)) : EvA (Sf_image_22 0 μ y) (fun x μ' y' => x = 1 ∧ y' = y ∧ RepC μ' y (mvI z (some (zP z))) ∧ InC μ μ') := by
  have hr := hy.2.2.2.2.1 q hq
  obtain ⟨g1, g2, g3, g4, g5, g6, g7⟩ := hR
  unfold Sf_image_22
  simp only [Nat.reduceAdd]
  refine eva_ckP hy.1 (eva_gR hq (eva_ckP hy.1 (eva_ckP hr.2.2 (eva_ckP hy.1 (eva_cl (ev_mono (pt_copy (Or.inl (by omega)) (portX_1.mpr g1) hA.1 h0 hb) (fun _ μ' g => eva_some ⟨rfl, rfl, ?_, fun k a b => g.2 k (by omega)⟩)))))))
  have lo : ∀ k, k < 99 → μ' k = μ k := fun k hk => g.2 k (by omega)
  refine ⟨portC_of (fun k a b _ => lo k (by omega)) g1, by rw [lo 42 (by omega)]; exact g2, by rw [lo 48 (by omega)]; exact g3, fun i hi => by rw [lo 49 (by omega)]; exact g4 i hi, by rw [lo 48 (by omega)]; exact g5, by rw [lo 48 (by omega)]; exact g6, ?_, Or.inr ⟨q, zP z, hq, rfl, (portX_s (by omega)).mp g.1⟩⟩
  obtain ⟨a, ha, h7, h8, hs, hu⟩ := g7
  have far : ∀ i r, i < 6 → y.1 58 i = some r → ∀ k, r ≤ k → k < r + 3 → μ' k = μ k := fun i r hi hr2 k a b => by
    have := hy.2.2.2.2.2 i r q hi hr2 hq
    exact g.2 k (by omega)
  refine ⟨a, ha, by rw [lo 0 (by omega)]; exact h7, by rw [lo 0 (by omega)]; exact h8, fun i r hi hr2 => by rw [far i r hi hr2 r (by omega) (by omega)]; exact hs i r hi hr2, fun j hj => ?_⟩
  obtain ⟨r, hr2, hf⟩ := hu j hj
  have f := far _ r (Nat.mod_lt _ (by decide)) hr2
  exact ⟨r, hr2, figC_congr (f r (by omega) (by omega)) (f (r + 1) (by omega) (by omega)) (f (r + 2) (by omega) (by omega)) hf⟩
theorem sf_take {μ : Mu} {y : Ly} {z : Zt} (hy : LyRep y) (hA : AbsOk z) (hR : RepC μ y z) : EvA (Sf_image 0 1 μ y) (fun x μ1 y1 => x = 1 ∧ y.2 <+: y1.2 ∧ mmN y1 ≤ mmN y + 220 ∧ mmS y1 ≤ mmS y + 9000 ∧ LyRep y1 ∧ RepC μ1 y1 (mvI z (some (zP z))) ∧ InC μ μ1) := by
  have hN := lyRep_N hy
  obtain ⟨g1, g2, g3, g4, g5, g6, g7, g8⟩ := hR
  unfold Sf_image
  rw [if_neg (show ¬ (1 : Int32) = 0 by decide)]
  refine eva_ckP hy.1 ?_
  rcases g8 with ⟨hn, _⟩ | ⟨q, zi, hq, _, hp⟩
  · refine eva_gRn hn (eva_nw rfl (fun μ1 y1 a1 a2 a3 a4 a5 => ?_))
    have n1 : mmN y1 = mmN y + 1 := app_N a1
    refine eva_clm (eva_mono (pt_init n1 (app_at a1 rfl)) (fun _ μ2 y2 b => ⟨b.1, ?_⟩))
    obtain ⟨b1, b2, b3, b4, b5, b6, b7⟩ := b
    have hp2 : y.2 <+: y2.2 := (app_pre a1).trans b1
    have e2 : ∀ k, k < mmN y → y2.1 k = y.1 k := fun k hk => by rw [b4 k hk, a2 k (by omega)]
    have hS2 : LySf y2 0 := lySf_ext (by omega) (pre_get hp2) (fun k j c _ => by rw [e2 k (by omega)]) hy.1
    refine eva_ckP hS2 (eva_pR (fun y3 c1 c2 c3 c4 => ?_))
    have hp3 : y.2 <+: y3.2 := by rw [c1]; exact hp2
    have n3 : mmN y3 = mmN y + 38 := (eq_N c1).trans b2
    have hR3 : LyRep y3 := lyRep_pic hy hp3 (fun k hk h0 => by rw [c2 k h0, e2 k hk]) (fun j hj => by rw [c3 j hj, e2 0 (by omega)]) c4 (Nat.le_refl _) (by omega) (lyPt_ext (by omega) (fun k hk => by rw [c1]) (fun k u v => c2 k (by omega)) b6)
    have m2 : ∀ k, k < mmN y → μ2 k = μ k := fun k hk => by rw [b5 k hk, a4 k (by omega)]
    have R0 : RepC0 μ2 y3 z := by
      refine ⟨portC_of (fun k a b _ => m2 k (by omega)) g1, by rw [m2 42 (by omega)]; exact g2, by rw [m2 48 (by omega)]; exact g3, fun i hi => by rw [m2 49 (by omega)]; exact g4 i hi, by rw [m2 48 (by omega)]; exact g5, by rw [m2 48 (by omega)]; exact g6, ?_⟩
      obtain ⟨a, ha, h7, h8, hs, hu⟩ := g7
      have h58 : y3.1 58 = y.1 58 := by rw [c2 58 (by decide), e2 58 (by omega)]
      refine ⟨a, ha, by rw [m2 0 (by omega)]; exact h7, by rw [m2 0 (by omega)]; exact h8, fun i r hi hr2 => ?_, fun j hj => ?_⟩
      · rw [h58] at hr2
        have := (hy.2.2.1 i r hi hr2).2.1
        rw [m2 r (by omega)]; exact hs i r hi hr2
      · obtain ⟨r, hr2, hf⟩ := hu j hj
        have := (hy.2.2.1 _ r (Nat.mod_lt _ (by decide)) hr2).2.1
        exact ⟨r, by rw [h58]; exact hr2, figC_congr (m2 r (by omega)) (m2 (r + 1) (by omega)) (m2 (r + 2) (by omega)) hf⟩
    refine eva_mono (img22 hR3 hA R0 c4 b7.1.2.1 (tdB_of b7.2.2.2.2.2.2.2.2)) (fun x μ4 y4 w => ?_)
    obtain ⟨w1, rfl, w3, w4⟩ := w
    refine ⟨w1, hp3, by omega, ?_, hR3, w3, fun k u v => by rw [w4 k u v, m2 k (by omega)]⟩
    rw [eq_S c1, b3, app_S a1]; omega
  · have hp' := (portX_s (by have := (hy.2.2.2.2.1 q hq).1; omega)).mpr hp
    refine eva_gR hq ?_
    refine eva_mono (img22 hy hA ⟨g1, g2, g3, g4, g5, g6, g7⟩ hq hp'.1.2.1 (tdB_of hp'.2.2.2.2.2.2.2.2)) (fun x μ4 y4 w => ?_)
    obtain ⟨w1, rfl, w3, w4⟩ := w
    exact ⟨w1, List.prefix_refl _, by omega, by omega, hy, w3, w4⟩
theorem sf_back {μ : Mu} {y : Ly} {z : Zt} {zi : PoS} (hy : LyRep y) (hi : PortOk zi) (hz : zI z = some zi) (hR : RepC μ y z) : EvA (Sf_image 0 0 μ y) (fun x μ1 y1 => x = 1 ∧ y.2 <+: y1.2 ∧ mmN y1 ≤ mmN y + 220 ∧ mmS y1 ≤ mmS y + 9000 ∧ LyRep y1 ∧ RepC μ1 y1 (backZ z zi) ∧ InC μ μ1) := by
  obtain ⟨g1, g2, g3, g4, g5, g6, g7, g8⟩ := hR
  have g8' := g8
  rcases g8 with ⟨_, e⟩ | ⟨q, zj, hq, e, hp⟩
  · rw [hz] at e; cases e
  rw [hz] at e
  injection e with e
  subst e
  have hr := hy.2.2.2.2.1 q hq
  have hp' := (portX_s (by omega)).mpr hp
  unfold Sf_image Sf_forget
  rw [if_pos rfl]
  simp only [Nat.reduceAdd]
  refine eva_ckP hy.1 (eva_gR hq (eva_ckP hy.1 (eva_ckP hy.1 (eva_gR hq (eva_ckP hy.1 (eva_ckP hr.2.2 (eva_cl (ev_mono (pt_copy (Or.inr (by omega)) hp' hi g1.1.2.1 (tdB_of (portX_1.mpr g1).2.2.2.2.2.2.2.2)) (fun _ μ' g => eva_ckP hy.1 ?_)))))))))
  rw [pF_eq, cl_eq]
  have hi2 : ∀ k, 39 ≤ k → (up2 μ' 0 8 0) k = μ k := fun k hk => by rw [up2_ne (by omega), g.2 k (by omega)]
  refine eva_some ⟨rfl, List.prefix_refl _, by omega, by omega, hy, ⟨?_, by rw [hi2 42 (by omega)]; exact g2, by rw [hi2 48 (by omega)]; exact g3, fun i hi => by rw [hi2 49 (by omega)]; exact g4 i hi, by rw [hi2 48 (by omega)]; exact g5, by rw [hi2 48 (by omega)]; exact g6, undoC_no hy ?_ (up2_same _ _ _ _) (fun k hk => hi2 k (by omega)) g7, picC_of hy (fun k hk => hi2 k (by omega)) g8'⟩, fun k a b => hi2 k (by omega)⟩
  · obtain ⟨x1, x2, x3⟩ := portC_of (fun k a b _ => up2_ne (show k ≠ 0 by omega)) (portX_1.mp g.1)
    refine ⟨figC_row (fun k hk => patN_lo hk) x1, fun k hk => (x2 k hk).trans (if_pos hk).symm, x3⟩
  · rw [up2_off (Or.inr (by decide)), g.2 0 (by omega)]
theorem portOk_back {zi zo : PoS} (h : PortOk zi) : PortOk (backP zi zo) := ⟨⟨nok_row (fun k hk => patN_lo hk) h.1.1, h.1.2⟩, h.2⟩
theorem sa_image1 : StepA (Sf_image 0 1) (Mo_image 59 1) := by
  refine stepA_of (fun z hA => ⟨1, mvI z (some (zP z)), ⟨hA.1, hA.2.1, hA.2.2.1, hA.2.2.2.1, hA.2.2.2.2.1, fun zi hzi => ?_⟩, fun μ y hy hR => sf_take hy hA hR, fun ν hR => ?_⟩)
  · have e : some (zP z) = some zi := hzi
    injection e with e
    rw [← e]; exact hA.1
  · unfold Mo_image
    rw [pF_eq, if_neg (by decide)]
    exact ev_mono (mo_take (repM_t hR)) (fun x ν' g => ⟨g.1, g.2.1, fun k hk => (g.2.2 k hk).trans (up2_ne (by omega))⟩)
theorem sa_image0 : StepA (Sf_image 0 0) (Mo_image 59 0) := by
  refine stepA_of (fun z hA => ?_)
  cases hz : zI z with
  | none =>
    refine ⟨0, z, hA, fun μ y hy hR => ?_, fun ν hR => ?_⟩
    · unfold Sf_image
      rw [if_pos rfl]
      rcases hR.2.2.2.2.2.2.2 with ⟨hn, _⟩ | ⟨q, zj, _, e, _⟩
      · exact eva_ckP hy.1 (eva_gRn hn (eva_some ⟨rfl, List.prefix_refl _, by omega, by omega, hy, hR, inC_refl μ⟩))
      · rw [hz] at e; cases e
    · have h1 := repM_t hR
      unfold Mo_image
      rw [pF_eq, if_pos rfl, gF_eq]
      rcases h1.2.2.2.2.2.2.2.2.2.2 with ⟨e, _⟩ | ⟨_, _, _, e, _⟩
      · rw [if_pos e]; exact ev_some ⟨rfl, h1, inM_up (inM_refl ν) (by omega)⟩
      · rw [hz] at e; cases e
  | some zi =>
    have hi := hA.2.2.2.2.2 zi hz
    refine ⟨1, backZ z zi, ⟨portOk_back hi, Nat.zero_le 6, fun N hN => absurd hN List.not_mem_nil, hA.2.2.2.1, hA.2.2.2.2.1, hA.2.2.2.2.2⟩, fun μ y hy hR => sf_back hy hi hz hR, fun ν hR => ?_⟩
    have h1 := repM_t hR
    unfold Mo_image
    rw [pF_eq, if_pos rfl, gF_eq]
    have h66 : (up2 ν 59 0 0) 59 66 = 1 := by
      rcases h1.2.2.2.2.2.2.2.2.2.2 with ⟨_, e⟩ | ⟨_, _, e, _⟩
      · rw [hz] at e; cases e
      · exact e
    rw [h66, if_neg (by decide)]
    exact ev_mono (mo_back hi hz h1) (fun x ν' g => ⟨g.1, g.2.1, fun k hk => (g.2.2 k hk).trans (up2_ne (by omega))⟩)
