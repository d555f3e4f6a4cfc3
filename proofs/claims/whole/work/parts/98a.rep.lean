/-! L3: THE WHOLE STATE, in both -/
abbrev PoS : Type := Nat × St × LawL × (Nat → Int32) × List WLn × Int32 × Int32 × Int32 × (Nat → List Int32)
def poP (z : PoS) : Nat := z.1
def poN (z : PoS) : St := z.2.1
def poL (z : PoS) : LawL := z.2.2.1
def poH (z : PoS) : Nat → Int32 := z.2.2.2.1
def poW (z : PoS) : List WLn := z.2.2.2.2.1
def poA (z : PoS) : Int32 := z.2.2.2.2.2.1
def poB (z : PoS) : Int32 := z.2.2.2.2.2.2.1
def poT (z : PoS) : Int32 := z.2.2.2.2.2.2.2.1
def poK (z : PoS) : Nat → List Int32 := z.2.2.2.2.2.2.2.2
def PortC (μ : Mu) (z : PoS) : Prop := FigC (poP z) 2 0 μ (poN z).1 ∧ (∀ k, k < 600 → μ 5 k = (poN z).2 k) ∧ LawC 7 μ (poL z) ∧ HeirC μ (poH z) ∧ WeaC μ (poW z) ∧ μ 17 0 = nI (poL z).length ∧ μ 17 1 = poA z ∧ μ 17 3 = poB z ∧ ToldC μ (poT z) (poK z)
def PortM (ν : Mu) (z : PoS) : Prop := (∀ k, k < 118 → ν 60 k = (poN z).1 k) ∧ (∀ k, k < 600 → ν 63 k = (poN z).2 k) ∧ ν 59 6 = nI (poP z) ∧ LawM ν (poL z) ∧ (∀ k, k < 16 → ν 77 k = poH z k) ∧ WeaM ν (poW z) ∧ ν 59 31 = poA z ∧ ν 59 36 = poB z ∧ ToldM ν (poT z) (poK z)
def PortOk (z : PoS) : Prop := SpOk (poP z) (poN z).1 (poL z) (poH z) ∧ WOk (poP z) (poW z) ∧ ToldOk (poK z)
/-- the port; what can be undone, the latest first; the tape; the fault, its place; the image -/
abbrev Zt : Type := PoS × List (Nat → Int32) × List Nat × Int32 × Int32 × Option PoS
def zP (z : Zt) : PoS := z.1
def zU (z : Zt) : List (Nat → Int32) := z.2.1
def zB (z : Zt) : List Nat := z.2.2.1
def zF (z : Zt) : Int32 := z.2.2.2.1
def zG (z : Zt) : Int32 := z.2.2.2.2.1
def zI (z : Zt) : Option PoS := z.2.2.2.2.2
def N0 : Nat → Int32 := fun _ => 0
def shf (d : Nat) (μ : Mu) : Mu := fun k => μ (k + d)
def UndoC (μ : Mu) (y : Ly) (P : Nat) (U : List (Nat → Int32)) : Prop := ∃ a, a < 6 ∧ μ 0 7 = nI a ∧ μ 0 8 = nI U.length ∧ (∀ i q, i < 6 → y.1 58 i = some q → μ q 0 = 0) ∧ ∀ j, j < U.length → ∃ q, y.1 58 ((a + 5 - j) % 6) = some q ∧ FigC P q 0 μ (U.getD j N0)
def PicC (μ : Mu) (y : Ly) (im : Option PoS) : Prop := (y.1 0 1 = none ∧ im = none) ∨ ∃ q zi, y.1 0 1 = some q ∧ im = some zi ∧ PortC (shf (q - 1) μ) zi
def plL : List (Nat × Nat) := (List.range 118).map (fun k => (60, k)) ++ [(59, 6), (59, 31), (59, 34), (59, 36), (59, 41), (59, 42), (59, 45), (59, 51), (59, 55), (59, 58), (59, 61), (85, 0), (85, 1)] ++ (List.range 16).map (fun k => (77, k)) ++ (List.range 64).map (fun k => (76, k)) ++ (List.range 8).flatMap (fun k => [(81, k), (82, k), (93, k), (94, k), (95, k)]) ++ (List.range 6).flatMap (fun k => [(83, k), (88, k), (91, k)]) ++ (List.range 20).map (fun k => (86, k)) ++ (List.range 600).map (fun k => (63, k)) ++ [(66, 0)] ++ (List.range 16).flatMap (fun l => [(67, l), (68, l), (69, l), (70, l)]) ++ (List.range 400).flatMap (fun i => [(71, i), (72, i)])
def ImgM (ν : Mu) (im : Option PoS) : Prop := (ν 59 66 = 0 ∧ im = none) ∨ ∃ ν0 zi, ν 59 66 = 1 ∧ im = some zi ∧ PortM ν0 zi ∧ ∀ i, i < plL.length → ν 98 i = ν0 (plL.getD i (0, 0)).1 (plL.getD i (0, 0)).2
def RepC (μ : Mu) (y : Ly) (z : Zt) : Prop := PortC μ (zP z) ∧ μ 42 0 = 1 ∧ μ 48 1 = nI (zB z).length ∧ (∀ i, i < (zB z).length → μ 49 i = nI ((zB z).getD i 0)) ∧ μ 48 8 = zF z ∧ μ 48 9 = zG z ∧ UndoC μ y (poP (zP z)) (zU z) ∧ PicC μ y (zI z)
def RepM (ν : Mu) (z : Zt) : Prop := PortM ν (zP z) ∧ (ν 60 = (poN (zP z)).1 ∧ ν 63 = (poN (zP z)).2) ∧ ν 59 5 = 0 ∧ ν 59 3 = nI (zU z).length ∧ (∀ i k, i < (zU z).length → k < 118 → ν 61 (118 * ((zU z).length - 1 - i) + k) = (zU z).getD i N0 k) ∧ ν 59 9 = nI (zB z).length ∧ (∀ i, i < (zB z).length → ν 64 i = nI ((zB z).getD i 0)) ∧ (∀ i, i < 132 → ν 65 i = nI (WB.getD i 0)) ∧ ν 59 29 = zF z ∧ ν 59 30 = zG z ∧ ImgM ν (zI z)
def AbsOk (z : Zt) : Prop := PortOk (zP z) ∧ (zU z).length ≤ 6 ∧ (∀ N, N ∈ zU z → NOk (poP (zP z)) N) ∧ (zB z).length ≤ 400 ∧ (∀ b, b ∈ zB z → b < 256) ∧ ∀ zi, zI z = some zi → PortOk zi
def LyRep (y : Ly) : Prop := LySf y 0 ∧ LyMo y 59 ∧ (∀ i q, i < 6 → y.1 58 i = some q → 99 ≤ q ∧ q + 3 ≤ mmN y ∧ LyFg y q) ∧ (∀ i j q r, i < 6 → j < 6 → i ≠ j → y.1 58 i = some q → y.1 58 j = some r → q + 3 ≤ r ∨ r + 3 ≤ q) ∧ (∀ r, y.1 0 1 = some r → 99 ≤ r ∧ r + 38 ≤ mmN y ∧ LyPt y r) ∧ ∀ i q r, i < 6 → y.1 58 i = some q → y.1 0 1 = some r → q + 3 ≤ r ∨ r + 38 ≤ q
def Rep (μ : Mu) (y : Ly) (z : Zt) : Prop := RepC μ y z ∧ RepM μ z ∧ AbsOk z ∧ LyRep y
def InC (μ μ' : Mu) : Prop := ∀ k, 59 ≤ k → k < 99 → μ' k = μ k
def InM (μ μ' : Mu) : Prop := ∀ k, (k < 59 ∨ 99 ≤ k) → μ' k = μ k
/-! frames -/
theorem heirC_of {μ μ' : Mu} {H : Nat → Int32} (h1 : μ' 15 = μ 15) (h2 : μ' 16 = μ 16) (h : HeirC μ H) : HeirC μ' H := by
  unfold HeirC at *
  rw [h1, h2]; exact h
theorem weaC_of {μ μ' : Mu} {W : List WLn} (h1 : μ' 14 = μ 14) (h2 : μ' 17 = μ 17) (h : WeaC μ W) : WeaC μ' W := by
  unfold WeaC at *
  rw [h1, h2]; exact h
theorem portC_of {μ μ' : Mu} {z : PoS} (h : ∀ k, 2 ≤ k → k ≤ 38 → k ≠ 13 → μ' k = μ k) (hC : PortC μ z) : PortC μ' z := by
  obtain ⟨h1, h2, h3, h4, h5, h6, h7, h8, h9⟩ := hC
  exact ⟨figC_congr (h 2 (by omega) (by omega) (by omega)) (h 3 (by omega) (by omega) (by omega)) (h 4 (by omega) (by omega) (by omega)) h1, fun k hk => by rw [h 5 (by omega) (by omega) (by omega)]; exact h2 k hk, lawC_off (fun k a b => h k (by omega) (by omega) (by omega)) h3, heirC_of (h 15 (by omega) (by omega) (by omega)) (h 16 (by omega) (by omega) (by omega)) h4, weaC_of (h 14 (by omega) (by omega) (by omega)) (h 17 (by omega) (by omega) (by omega)) h5, by rw [h 17 (by omega) (by omega) (by omega)]; exact h6, by rw [h 17 (by omega) (by omega) (by omega)]; exact h7, by rw [h 17 (by omega) (by omega) (by omega)]; exact h8, toldC_off (fun k a b => h k (by omega) (by omega) (by omega)) h9⟩
theorem undoC_of {μ μ' : Mu} {y : Ly} {P : Nat} {U : List (Nat → Int32)} (hy : LyRep y) (h0 : μ' 0 = μ 0) (h : ∀ k, 99 ≤ k → μ' k = μ k) (hU : UndoC μ y P U) : UndoC μ' y P U := by
  obtain ⟨a, ha, h7, h8, hs, hu⟩ := hU
  refine ⟨a, ha, by rw [h0]; exact h7, by rw [h0]; exact h8, fun i q hi hq => ?_, fun j hj => ?_⟩
  · rw [h q (hy.2.2.1 i q hi hq).1]; exact hs i q hi hq
  · obtain ⟨q, hq, hf⟩ := hu j hj
    have h99 := (hy.2.2.1 _ q (Nat.mod_lt _ (by decide)) hq).1
    exact ⟨q, hq, figC_congr (h q h99) (h (q + 1) (by omega)) (h (q + 2) (by omega)) hf⟩
theorem picC_of {μ μ' : Mu} {y : Ly} {im : Option PoS} (hy : LyRep y) (h : ∀ k, 99 ≤ k → μ' k = μ k) (hP : PicC μ y im) : PicC μ' y im := by
  rcases hP with h1 | ⟨q, zi, h1, h2, h3⟩
  · exact Or.inl h1
  · have h99 := (hy.2.2.2.2.1 q h1).1
    exact Or.inr ⟨q, zi, h1, h2, portC_of (fun k a b _ => h (k + (q - 1)) (by omega)) h3⟩
theorem repC_of {μ μ' : Mu} {y : Ly} {z : Zt} (hy : LyRep y) (h : ∀ k, k ∉ [1, 6, 13, 39, 40, 41, 43, 44, 45, 46, 47, 50, 51, 52, 53, 54, 55, 56, 57, 58] → (k < 59 ∨ 99 ≤ k) → μ' k = μ k) (hR : RepC μ y z) : RepC μ' y z := by
  obtain ⟨h1, h2, h3, h4, h5, h6, h7, h8⟩ := hR
  have hh : ∀ k, 99 ≤ k → μ' k = μ k := fun k hk => h k (fun z => by
    simp only [List.mem_cons, List.not_mem_nil, or_false] at z; omega) (Or.inr hk)
  refine ⟨?_, by rw [h 42 (by decide) (by omega)]; exact h2, by rw [h 48 (by decide) (by omega)]; exact h3, fun i hi => by rw [h 49 (by decide) (by omega)]; exact h4 i hi, by rw [h 48 (by decide) (by omega)]; exact h5, by rw [h 48 (by decide) (by omega)]; exact h6, undoC_of hy (h 0 (by decide) (by omega)) hh h7, picC_of hy hh h8⟩
  -- a port's cell 6 holds references alone
  obtain ⟨g1, g2, g3, g4, g5, g6, g7, g8, g9⟩ := h1
  have e : ∀ k, 2 ≤ k → k ≤ 38 → k ≠ 6 → k ≠ 13 → μ' k = μ k := fun k a b c d => h k (fun z => by
    simp only [List.mem_cons, List.not_mem_nil, or_false] at z; omega) (Or.inl (by omega))
  exact ⟨figC_congr (e 2 (by omega) (by omega) (by omega) (by omega)) (e 3 (by omega) (by omega) (by omega) (by omega)) (e 4 (by omega) (by omega) (by omega) (by omega)) g1, fun k hk => by rw [e 5 (by omega) (by omega) (by omega) (by omega)]; exact g2 k hk, lawC_off (fun k a b => e k (by omega) (by omega) (by omega) (by omega)) g3, heirC_of (e 15 (by omega) (by omega) (by omega) (by omega)) (e 16 (by omega) (by omega) (by omega) (by omega)) g4, weaC_of (e 14 (by omega) (by omega) (by omega) (by omega)) (e 17 (by omega) (by omega) (by omega) (by omega)) g5, by rw [e 17 (by omega) (by omega) (by omega) (by omega)]; exact g6, by rw [e 17 (by omega) (by omega) (by omega) (by omega)]; exact g7, by rw [e 17 (by omega) (by omega) (by omega) (by omega)]; exact g8, toldC_off (fun k a b => e k (by omega) (by omega) (by omega) (by omega)) g9⟩
theorem weaM_of {μ μ' : Mu} {W : List WLn} (h1 : μ' 59 34 = μ 59 34) (h2 : μ' 76 = μ 76) (h : WeaM μ W) : WeaM μ' W := by
  unfold WeaM at *
  rw [h1, h2]; exact h
theorem portM_of {ν ν' : Mu} {z : PoS} (hr : ∀ k, k ∈ [60, 63, 66, 67, 68, 69, 70, 71, 72, 76, 77, 81, 82, 83, 85, 86, 88, 91, 93, 94, 95] → ν' k = ν k) (hf : ∀ j, j ∈ [6, 31, 34, 36, 41, 42, 45, 51, 55, 58, 61] → ν' 59 j = ν 59 j) (h : PortM ν z) : PortM ν' z := by
  obtain ⟨h1, h2, h3, h4, h5, h6, h7, h8, h9⟩ := h
  refine ⟨fun k hk => by rw [hr 60 (by decide)]; exact h1 k hk, fun k hk => by rw [hr 63 (by decide)]; exact h2 k hk, (hf 6 (by decide)).trans h3, lawM_off (fun k a b => hr k (by
    simp only [List.mem_cons, List.not_mem_nil, or_false]; omega)) h4, fun k hk => by rw [hr 77 (by decide)]; exact h5 k hk, weaM_of (hf 34 (by decide)) (hr 76 (by decide)) h6, (hf 31 (by decide)).trans h7, (hf 36 (by decide)).trans h8, toldM_off (fun j hj => hf j ?_) (fun k hk => hr k ?_) h9⟩
  · simp only [List.mem_cons, List.not_mem_nil, or_false] at hj ⊢; omega
  · simp only [List.mem_cons, List.not_mem_nil, or_false] at hk ⊢; omega
theorem imgM_of {ν ν' : Mu} {im : Option PoS} (h1 : ν' 59 66 = ν 59 66) (h2 : ν' 98 = ν 98) (h : ImgM ν im) : ImgM ν' im := by
  rcases h with ⟨a, b⟩ | ⟨ν0, zi, a, b, c, d⟩
  · exact Or.inl ⟨h1.trans a, b⟩
  · exact Or.inr ⟨ν0, zi, h1.trans a, b, c, fun i hi => by rw [h2]; exact d i hi⟩
theorem repM_of {ν ν' : Mu} {z : Zt} (hr : ∀ k, k ∈ [60, 61, 63, 64, 65, 66, 67, 68, 69, 70, 71, 72, 76, 77, 81, 82, 83, 85, 86, 88, 91, 93, 94, 95, 98] → ν' k = ν k) (hf : ∀ j, j ∈ [3, 5, 6, 9, 29, 30, 31, 34, 36, 41, 42, 45, 51, 55, 58, 61, 66] → ν' 59 j = ν 59 j) (h : RepM ν z) : RepM ν' z := by
  obtain ⟨h1, ⟨h2, h2b⟩, h3, h4, h5, h6, h7, h8, h9, h10, h11⟩ := h
  refine ⟨portM_of (fun k hk => hr k ?_) (fun j hj => hf j ?_) h1, ⟨(hr 60 (by decide)).trans h2, (hr 63 (by decide)).trans h2b⟩, (hf 5 (by decide)).trans h3, (hf 3 (by decide)).trans h4, fun i k a b => by rw [hr 61 (by decide)]; exact h5 i k a b, (hf 9 (by decide)).trans h6, fun i hi => by rw [hr 64 (by decide)]; exact h7 i hi, fun i hi => by rw [hr 65 (by decide)]; exact h8 i hi, (hf 29 (by decide)).trans h9, (hf 30 (by decide)).trans h10, imgM_of (hf 66 (by decide)) (hr 98 (by decide)) h11⟩
  · simp only [List.mem_cons, List.not_mem_nil, or_false] at hk ⊢; omega
  · simp only [List.mem_cons, List.not_mem_nil, or_false] at hj ⊢; omega
theorem repC_in {μ μ' : Mu} {y : Ly} {z : Zt} (hy : LyRep y) (h : InM μ μ') (hR : RepC μ y z) : RepC μ' y z := repC_of hy (fun k _ hk => h k hk) hR
theorem repM_in {ν ν' : Mu} {z : Zt} (h : InC ν ν') (hR : RepM ν z) : RepM ν' z := repM_of (fun k hk => h k (by
    simp only [List.mem_cons, List.not_mem_nil, or_false] at hk; omega) (by
    simp only [List.mem_cons, List.not_mem_nil, or_false] at hk; omega)) (fun j _ => by rw [h 59 (by omega) (by omega)]) hR
/-! steps -/
def StepN (f g : Mu → Option (Int32 × Mu)) : Prop := ∀ μ y z, Rep μ y z → ∃ r μ1 μ2 z', f μ = some (r, μ1) ∧ g μ1 = some (r, μ2) ∧ Rep μ2 y z'
theorem stepN_of {f g : Mu → Option (Int32 × Mu)} (h : ∀ z, AbsOk z → ∃ r z', AbsOk z' ∧ (∀ μ y, LyRep y → RepC μ y z → Ev (f μ) (fun x μ1 => x = r ∧ RepC μ1 y z' ∧ InC μ μ1)) ∧ (∀ ν, RepM ν z → Ev (g ν) (fun x ν1 => x = r ∧ RepM ν1 z' ∧ InM ν ν1))) : StepN f g := by
  intro μ y z ⟨hC, hM, hA, hy⟩
  obtain ⟨r, z', hA', h1, h2⟩ := h z hA
  obtain ⟨_, μ1, e1, rfl, c1, i1⟩ := h1 μ y hy hC
  obtain ⟨_, μ2, e2, rfl, c2, i2⟩ := h2 μ1 (repM_in i1 hM)
  exact ⟨_, μ1, μ2, z', e1, e2, repC_in hy i2 c1, c2, hA', hy⟩
/-- a thought: nothing of it stays -/
theorem stepN_th {f g : Mu → Option (Int32 × Mu)} (hC : ∀ μ r μ1, f μ = some (r, μ1) → ∀ k, k ∉ [46, 47] → μ1 k = μ k) (hM : ∀ ν r ν1, g ν = some (r, ν1) → (∀ k, k ∉ [59, 84, 87, 89, 90, 92, 96, 97] → ν1 k = ν k) ∧ ∀ j, j ≠ 0 → ν1 59 j = ν 59 j) (hs : ∀ μ ν y z, AbsOk z → RepC μ y z → RepM ν z → Same (f μ) (g ν)) : StepN f g := by
  intro μ y z ⟨hR, hN, hA, hy⟩
  obtain ⟨r, μ1, _, e1, _⟩ := hs μ μ y z hA hR hN
  have c1 := hC μ r μ1 e1
  have n1 : RepM μ1 z := repM_in (fun k a b => c1 k (fun z => by
    simp only [List.mem_cons, List.not_mem_nil, or_false] at z; omega)) hN
  have r1 : RepC μ1 y z := repC_of hy (fun k a b => c1 k (fun z => a (by
    simp only [List.mem_cons, List.not_mem_nil, or_false] at z ⊢; omega))) hR
  obtain ⟨r2, μ1', μ2, e1', e2⟩ := hs μ μ1 y z hA hR n1
  rw [e1] at e1'
  injection e1' with e1'
  injection e1' with er em
  subst er
  have m2 := hM μ1 r μ2 e2
  refine ⟨r, μ1, μ2, z, e1, e2, repC_of hy (fun k a b => m2.1 k (fun z => ?_)) r1, repM_of (fun k hk => m2.1 k (fun z => ?_)) (fun j hj => m2.2 j (fun z => ?_)) n1, hA, hy⟩
  · simp only [List.mem_cons, List.not_mem_nil, or_false] at z; omega
  · simp only [List.mem_cons, List.not_mem_nil, or_false] at z hk; omega
  · simp only [List.mem_cons, List.not_mem_nil, or_false] at hj; omega
