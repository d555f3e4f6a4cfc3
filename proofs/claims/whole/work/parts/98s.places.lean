/-! L3: IMAGE -/
theorem plL_eq : plL = [] ++ (List.range 118).flatMap (fun k => [(60, k)]) ++ [(59, 6), (59, 31), (59, 34), (59, 36), (59, 41), (59, 42), (59, 45), (59, 51), (59, 55), (59, 58), (59, 61), (85, 0), (85, 1)] ++ (List.range 16).flatMap (fun k => [(77, k)]) ++ (List.range 64).flatMap (fun k => [(76, k)]) ++ (List.range 8).flatMap (fun k => [(81, k), (82, k), (93, k), (94, k), (95, k)]) ++ (List.range 6).flatMap (fun k => [(83, k), (88, k), (91, k)]) ++ (List.range 20).flatMap (fun k => [(86, k)]) ++ (List.range 600).flatMap (fun k => [(63, k)]) ++ [(66, 0)] ++ (List.range 16).flatMap (fun k => [(67, k), (68, k), (69, k), (70, k)]) ++ (List.range 400).flatMap (fun k => [(71, k), (72, k)]) := by
  unfold plL
  simp only [map_flat, List.nil_append]
theorem plL_go : GoT plL := by
  refine ⟨?_, ?_⟩
  · decide +kernel
  · have : plL.all (fun p => decide (p.1 ≠ 98) && decide (¬ (p.1 = 59 ∧ (p.2 = 65 ∨ p.2 = 67)))) = true := by decide +kernel
    intro p hp
    have h := List.all_eq_true.mp this p hp
    simp only [Bool.and_eq_true, decide_eq_true_eq] at h
    exact h
theorem pm60 {k : Nat} (hk : k < 118) : (60, k) ∈ plL := by
  unfold plL
  simp only [List.mem_append, List.mem_map, List.mem_range, List.mem_flatMap, List.mem_cons, List.not_mem_nil, or_false, Prod.mk.injEq]
  simp [hk]
theorem pm77 {k : Nat} (hk : k < 16) : (77, k) ∈ plL := by
  unfold plL
  simp only [List.mem_append, List.mem_map, List.mem_range, List.mem_flatMap, List.mem_cons, List.not_mem_nil, or_false, Prod.mk.injEq]
  simp [hk]
theorem pm76 {k : Nat} (hk : k < 64) : (76, k) ∈ plL := by
  unfold plL
  simp only [List.mem_append, List.mem_map, List.mem_range, List.mem_flatMap, List.mem_cons, List.not_mem_nil, or_false, Prod.mk.injEq]
  simp [hk]
theorem pm81 {k : Nat} (hk : k < 8) : (81, k) ∈ plL := by
  unfold plL
  simp only [List.mem_append, List.mem_map, List.mem_range, List.mem_flatMap, List.mem_cons, List.not_mem_nil, or_false, Prod.mk.injEq]
  simp [hk]
theorem pm82 {k : Nat} (hk : k < 8) : (82, k) ∈ plL := by
  unfold plL
  simp only [List.mem_append, List.mem_map, List.mem_range, List.mem_flatMap, List.mem_cons, List.not_mem_nil, or_false, Prod.mk.injEq]
  simp [hk]
theorem pm93 {k : Nat} (hk : k < 8) : (93, k) ∈ plL := by
  unfold plL
  simp only [List.mem_append, List.mem_map, List.mem_range, List.mem_flatMap, List.mem_cons, List.not_mem_nil, or_false, Prod.mk.injEq]
  simp [hk]
theorem pm94 {k : Nat} (hk : k < 8) : (94, k) ∈ plL := by
  unfold plL
  simp only [List.mem_append, List.mem_map, List.mem_range, List.mem_flatMap, List.mem_cons, List.not_mem_nil, or_false, Prod.mk.injEq]
  simp [hk]
theorem pm95 {k : Nat} (hk : k < 8) : (95, k) ∈ plL := by
  unfold plL
  simp only [List.mem_append, List.mem_map, List.mem_range, List.mem_flatMap, List.mem_cons, List.not_mem_nil, or_false, Prod.mk.injEq]
  simp [hk]
theorem pm83 {k : Nat} (hk : k < 6) : (83, k) ∈ plL := by
  unfold plL
  simp only [List.mem_append, List.mem_map, List.mem_range, List.mem_flatMap, List.mem_cons, List.not_mem_nil, or_false, Prod.mk.injEq]
  simp [hk]
theorem pm88 {k : Nat} (hk : k < 6) : (88, k) ∈ plL := by
  unfold plL
  simp only [List.mem_append, List.mem_map, List.mem_range, List.mem_flatMap, List.mem_cons, List.not_mem_nil, or_false, Prod.mk.injEq]
  simp [hk]
theorem pm91 {k : Nat} (hk : k < 6) : (91, k) ∈ plL := by
  unfold plL
  simp only [List.mem_append, List.mem_map, List.mem_range, List.mem_flatMap, List.mem_cons, List.not_mem_nil, or_false, Prod.mk.injEq]
  simp [hk]
theorem pm86 {k : Nat} (hk : k < 20) : (86, k) ∈ plL := by
  unfold plL
  simp only [List.mem_append, List.mem_map, List.mem_range, List.mem_flatMap, List.mem_cons, List.not_mem_nil, or_false, Prod.mk.injEq]
  simp [hk]
theorem pm63 {k : Nat} (hk : k < 600) : (63, k) ∈ plL := by
  unfold plL
  simp only [List.mem_append, List.mem_map, List.mem_range, List.mem_flatMap, List.mem_cons, List.not_mem_nil, or_false, Prod.mk.injEq]
  simp [hk]
theorem pm67 {k : Nat} (hk : k < 16) : (67, k) ∈ plL := by
  unfold plL
  simp only [List.mem_append, List.mem_map, List.mem_range, List.mem_flatMap, List.mem_cons, List.not_mem_nil, or_false, Prod.mk.injEq]
  simp [hk]
theorem pm68 {k : Nat} (hk : k < 16) : (68, k) ∈ plL := by
  unfold plL
  simp only [List.mem_append, List.mem_map, List.mem_range, List.mem_flatMap, List.mem_cons, List.not_mem_nil, or_false, Prod.mk.injEq]
  simp [hk]
theorem pm69 {k : Nat} (hk : k < 16) : (69, k) ∈ plL := by
  unfold plL
  simp only [List.mem_append, List.mem_map, List.mem_range, List.mem_flatMap, List.mem_cons, List.not_mem_nil, or_false, Prod.mk.injEq]
  simp [hk]
theorem pm70 {k : Nat} (hk : k < 16) : (70, k) ∈ plL := by
  unfold plL
  simp only [List.mem_append, List.mem_map, List.mem_range, List.mem_flatMap, List.mem_cons, List.not_mem_nil, or_false, Prod.mk.injEq]
  simp [hk]
theorem pm71 {k : Nat} (hk : k < 400) : (71, k) ∈ plL := by
  unfold plL
  simp only [List.mem_append, List.mem_map, List.mem_range, List.mem_flatMap, List.mem_cons, List.not_mem_nil, or_false, Prod.mk.injEq]
  simp [hk]
theorem pm72 {k : Nat} (hk : k < 400) : (72, k) ∈ plL := by
  unfold plL
  simp only [List.mem_append, List.mem_map, List.mem_range, List.mem_flatMap, List.mem_cons, List.not_mem_nil, or_false, Prod.mk.injEq]
  simp [hk]
theorem pf59_6 : (59, 6) ∈ plL := by
  unfold plL
  simp only [List.mem_append, List.mem_map, List.mem_range, List.mem_flatMap, List.mem_cons, List.not_mem_nil, or_false, Prod.mk.injEq]
  simp
theorem pf59_31 : (59, 31) ∈ plL := by
  unfold plL
  simp only [List.mem_append, List.mem_map, List.mem_range, List.mem_flatMap, List.mem_cons, List.not_mem_nil, or_false, Prod.mk.injEq]
  simp
theorem pf59_34 : (59, 34) ∈ plL := by
  unfold plL
  simp only [List.mem_append, List.mem_map, List.mem_range, List.mem_flatMap, List.mem_cons, List.not_mem_nil, or_false, Prod.mk.injEq]
  simp
theorem pf59_36 : (59, 36) ∈ plL := by
  unfold plL
  simp only [List.mem_append, List.mem_map, List.mem_range, List.mem_flatMap, List.mem_cons, List.not_mem_nil, or_false, Prod.mk.injEq]
  simp
theorem pf59_41 : (59, 41) ∈ plL := by
  unfold plL
  simp only [List.mem_append, List.mem_map, List.mem_range, List.mem_flatMap, List.mem_cons, List.not_mem_nil, or_false, Prod.mk.injEq]
  simp
theorem pf59_42 : (59, 42) ∈ plL := by
  unfold plL
  simp only [List.mem_append, List.mem_map, List.mem_range, List.mem_flatMap, List.mem_cons, List.not_mem_nil, or_false, Prod.mk.injEq]
  simp
theorem pf59_45 : (59, 45) ∈ plL := by
  unfold plL
  simp only [List.mem_append, List.mem_map, List.mem_range, List.mem_flatMap, List.mem_cons, List.not_mem_nil, or_false, Prod.mk.injEq]
  simp
theorem pf59_51 : (59, 51) ∈ plL := by
  unfold plL
  simp only [List.mem_append, List.mem_map, List.mem_range, List.mem_flatMap, List.mem_cons, List.not_mem_nil, or_false, Prod.mk.injEq]
  simp
theorem pf59_55 : (59, 55) ∈ plL := by
  unfold plL
  simp only [List.mem_append, List.mem_map, List.mem_range, List.mem_flatMap, List.mem_cons, List.not_mem_nil, or_false, Prod.mk.injEq]
  simp
theorem pf59_58 : (59, 58) ∈ plL := by
  unfold plL
  simp only [List.mem_append, List.mem_map, List.mem_range, List.mem_flatMap, List.mem_cons, List.not_mem_nil, or_false, Prod.mk.injEq]
  simp
theorem pf59_61 : (59, 61) ∈ plL := by
  unfold plL
  simp only [List.mem_append, List.mem_map, List.mem_range, List.mem_flatMap, List.mem_cons, List.not_mem_nil, or_false, Prod.mk.injEq]
  simp
theorem pf85_0 : (85, 0) ∈ plL := by
  unfold plL
  simp only [List.mem_append, List.mem_map, List.mem_range, List.mem_flatMap, List.mem_cons, List.not_mem_nil, or_false, Prod.mk.injEq]
  simp
theorem pf85_1 : (85, 1) ∈ plL := by
  unfold plL
  simp only [List.mem_append, List.mem_map, List.mem_range, List.mem_flatMap, List.mem_cons, List.not_mem_nil, or_false, Prod.mk.injEq]
  simp
theorem pf66_0 : (66, 0) ∈ plL := by
  unfold plL
  simp only [List.mem_append, List.mem_map, List.mem_range, List.mem_flatMap, List.mem_cons, List.not_mem_nil, or_false, Prod.mk.injEq]
  simp
theorem rwM_pl {w ν : Mu} {a kf g n : Nat} {l : List Int32} (h : RwM w a kf g n l) (h1 : ν a kf = w a kf) (h2 : ∀ j, j < n → ν g j = w g j) : RwM ν a kf g n l := ⟨h1.trans h.1, h.2.1, h.2.2.1, fun j hj => (h2 j (Nat.lt_of_lt_of_le hj h.2.1)).trans (h.2.2.2 j hj)⟩
theorem portM_pl {w ν : Mu} {z : PoS} (h : PortM w z) (hz : PortOk z) (hv : ∀ p, p ∈ plL → ν p.1 p.2 = w p.1 p.2) : PortM ν z := by
  have hL16 : (poL z).length ≤ 16 := hz.1.2.1.1
  have hW16 : (poW z).length ≤ 16 := hz.2.1.1
  obtain ⟨h1, h2, h3, ⟨f, h4, h4b⟩, h5, ⟨h6, h6b⟩, h7, h8, h9⟩ := h
  refine ⟨fun k hk => (hv _ (pm60 hk)).trans (h1 k hk), fun k hk => (hv _ (pm63 hk)).trans (h2 k hk), (hv _ pf59_6).trans h3, ⟨f, (hv _ pf66_0).trans h4, fun l hl => ?_⟩, fun k hk => (hv _ (pm77 hk)).trans (h5 k hk), ⟨(hv _ pf59_34).trans h6, fun l hl => ?_⟩, (hv _ pf59_31).trans h7, (hv _ pf59_36).trans h8, ?_⟩
  · obtain ⟨a1, a2, a3, a4, a5, a6, a7⟩ := h4b l hl
    refine ⟨(hv _ (pm67 (by omega))).trans a1, (hv _ (pm68 (by omega))).trans a2, (hv _ (pm69 (by omega))).trans a3, (hv _ (pm70 (by omega))).trans a4, a5, fun i hi => ⟨(hv _ (pm71 (by omega))).trans (a6 i hi).1, (hv _ (pm72 (by omega))).trans (a6 i hi).2⟩, fun i hi => ⟨(hv _ (pm71 (by omega))).trans (a7 i hi).1, (hv _ (pm72 (by omega))).trans (a7 i hi).2⟩⟩
  · obtain ⟨a1, a2, a3, a4⟩ := h6b l hl
    exact ⟨(hv _ (pm76 (by omega))).trans a1, (hv _ (pm76 (by omega))).trans a2, (hv _ (pm76 (by omega))).trans a3, (hv _ (pm76 (by omega))).trans a4⟩
  · obtain ⟨b0, b1, b2, b3, ⟨b4, b5, b6, b7⟩, b8, b9, bA, bB, bC⟩ := h9
    exact ⟨(hv _ pf59_41).trans b0, rwM_pl b1 (hv _ pf59_42) (fun j hj => hv _ (pm81 hj)), rwM_pl b2 (hv _ pf59_42) (fun j hj => hv _ (pm82 hj)), rwM_pl b3 (hv _ pf59_45) (fun j hj => hv _ (pm83 hj)), ⟨rwM_pl b4 (hv _ pf85_0) (fun j hj => hv _ (pm86 (by omega))), (hv _ pf85_1).trans b5, b6, fun j hj => (hv _ (pm86 (by omega))).trans (b7 j hj)⟩, rwM_pl b8 (hv _ pf59_51) (fun j hj => hv _ (pm88 hj)), rwM_pl b9 (hv _ pf59_55) (fun j hj => hv _ (pm91 hj)), rwM_pl bA (hv _ pf59_58) (fun j hj => hv _ (pm93 hj)), rwM_pl bB (hv _ pf59_58) (fun j hj => hv _ (pm94 hj)), rwM_pl bC (hv _ pf59_61) (fun j hj => hv _ (pm95 hj))⟩
