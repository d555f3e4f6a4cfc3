/-! L3: THE BEGINNING: the reference -/
def moF : List (Nat × Nat) := [(1, 118), (2, 708), (4, 118), (7, 600), (8, 400), (14, 132), (15, 2), (16, 48), (17, 48), (18, 48), (19, 48), (20, 1200), (21, 1200), (25, 40), (32, 16), (33, 16), (35, 128), (37, 32), (38, 10), (39, 420), (40, 16), (43, 8), (44, 8), (46, 6), (47, 41), (48, 2), (49, 20), (50, 121), (52, 6), (53, 32), (54, 32), (56, 6), (57, 201), (59, 8), (60, 8), (62, 8), (63, 8), (64, 301), (68, 2200)]
def MkI (n : Nat) (μ0 : Mu) (y0 : Ly) (μ : Mu) (y : Ly) : Prop := y0.2 <+: y.2 ∧ mmN y = 60 + n ∧ (∀ k, k < 59 → y.1 k = y0.1 k) ∧ (∀ k, k < 59 → μ k = μ0 k) ∧ y.2[59]? = some (12, 69) ∧ (∀ i, i < n → y.1 59 (moF.getD i (0, 0)).1 = some (60 + i) ∧ y.2[60 + i]? = some (0, (moF.getD i (0, 0)).2)) ∧ (∀ j, j ≠ 30 → μ 59 j = 0) ∧ ∀ k, 60 ≤ k → k < 60 + n → k ≠ 65 → ∀ j, μ k j = 0
theorem moF_inj : ∀ i, i < 39 → ∀ j, j < 39 → i ≠ j → (moF.getD i (0, 0)).1 ≠ (moF.getD j (0, 0)).1 := by decide +kernel
theorem mo_st {ρ : Type} {n f sz s : Nat} {μ0 : Mu} {y0 : Ly} {μ : Mu} {y : Ly} {F : Nat → Mu → Ly → Option (ρ × Mm)} {Q : ρ → Mu → Ly → Prop} (h : MkI n μ0 y0 μ y) (hs : mmS y = s) (hn : n < 39) (hf : moF.getD n (0, 0) = (f, sz)) (k : ∀ μ1 y1, MkI (n + 1) μ0 y0 μ1 y1 → mmS y1 = s + sz → y1.2[60 + n]? = some (0, sz) → (∀ c, c < 60 + n → μ1 c = μ c) → (∀ j, μ1 (60 + n) j = 0) → EvA (F (60 + n) μ1 y1) Q) : EvA (nwK μ y 0 sz (fun q1 μ2 y3 => ckP (y3.2[59]? = some (12, 69)) (pR y3 59 f q1 (fun y5 => F q1 μ2 y5)))) Q := by
  obtain ⟨h1, h2, h3, h4, h5, h6, h7, h8⟩ := h
  refine st_arr h2 h5 (fun μ1 y1 g n1 s1 e1 e2 e3 e4 => k μ1 y1 ⟨h1.trans g.1, by omega, fun k hk => (g.2.2.1 k (by omega) (by omega)).trans (h3 k hk), fun k hk => (g.2.2.2.2 k (by omega)).trans (h4 k hk), e1, fun i hi => ?_, fun j hj => by rw [g.2.2.2.2 59 (by omega)]; exact h7 j hj, fun k a b c j => ?_⟩ (by omega) e2 g.2.2.2.2 e4)
  · by_cases c : i = n
    · rw [c, hf]; exact ⟨e3, e2⟩
    · have hi' : i < n := by omega
      have hne := moF_inj i (by omega) n hn c
      rw [hf] at hne
      exact ⟨(g.2.2.2.1 _ (fun z => hne (List.mem_singleton.mp z))).trans (h6 i hi').1, (pre_get g.1 _ (by omega)).trans (h6 i hi').2⟩
  · by_cases d : k = 60 + n
    · rw [d]; exact e4 j
    · rw [g.2.2.2.2 k (by omega)]; exact h8 k a (by omega) c j
def WdI (k : Nat) (m μ : Mu) : Prop := (∀ j, j < k → μ 65 j = nI (WB.getD j 0)) ∧ ∀ c, c ≠ 65 → μ c = m c
theorem mo_wd {ρ : Type} {k : Nat} {v : Int32} {m μ : Mu} {y : Ly} {F : Mu → Option (ρ × Mm)} {Q : ρ → Mu → Ly → Prop} (hy : y.2[65]? = some (0, 132)) (h : WdI k m μ) (hk : k < 132) (hv : v = nI (WB.getD k 0)) (g : ∀ μ1, WdI (k + 1) m μ1 → EvA (F μ1) Q) : EvA (ckP (y.2[65]? = some (0, 132)) (stA μ 65 132 (nI k) v F)) Q := by
  refine eva_ckP hy ?_
  rw [stA_nI hk (by omega)]
  refine g _ ⟨fun j hj => ?_, fun c hc => by rw [up2_ne hc]; exact h.2 c hc⟩
  by_cases e : j = k
  · rw [e, up2_same]; exact hv
  · rw [up2_off (Or.inr e)]; exact h.1 j (by omega)
set_option maxHeartbeats 4000000 in
set_option maxRecDepth 100000 in
theorem mo_init {μ : Mu} {y : Ly} (hN : mmN y = 60) (ha : y.2[59]? = some (12, 69)) (h0 : ∀ j, μ 59 j = 0) : EvA (Mo_init 59 μ y) (fun _ μ' y' => y.2 <+: y'.2 ∧ mmN y' = 99 ∧ mmS y' = mmS y + 8364 ∧ LyMo y' 59 ∧ (∀ k, k < 59 → y'.1 k = y.1 k) ∧ (∀ k, k < 59 → μ' k = μ k) ∧ (∀ j, j ≠ 30 → μ' 59 j = 0) ∧ μ' 59 30 = -1 ∧ (∀ k, 60 ≤ k → k < 99 → k ≠ 65 → ∀ j, μ' k j = 0) ∧ ∀ j, j < 132 → μ' 65 j = nI (WB.getD j 0)) := by
  have i0 : MkI 0 μ y μ y := ⟨List.prefix_refl _, hN, fun _ _ => rfl, fun _ _ => rfl, ha, fun i hi => absurd hi (by omega), fun j _ => h0 j, fun k a b => absurd b (by omega)⟩
  unfold Mo_init
  refine mo_st (n := 0) i0 rfl (by omega) (by rfl) (fun m1 y1 i1 s1 a1 b1 c1 => ?_)
  refine mo_st (n := 1) i1 s1 (by omega) (by rfl) (fun m2 y2 i2 s2 a2 b2 c2 => ?_)
  refine mo_st (n := 2) i2 s2 (by omega) (by rfl) (fun m3 y3 i3 s3 a3 b3 c3 => ?_)
  refine mo_st (n := 3) i3 s3 (by omega) (by rfl) (fun m4 y4 i4 s4 a4 b4 c4 => ?_)
  refine mo_st (n := 4) i4 s4 (by omega) (by rfl) (fun m5 y5 i5 s5 a5 b5 c5 => ?_)
  refine eva_nw (q := 65) i5.2.1 (fun mb yb d1 d2 d3 d4 d5 => ?_)
  have a6 : yb.2[65]? = some (0, 132) := app_at d1 i5.2.1
  have h59 : yb.2[59]? = some (12, 69) := (pre_get (app_pre d1) 59 (by have := i5.2.1; omega)).trans i5.2.2.2.2.1
  have w0 : WdI 0 mb mb := ⟨fun j hj => absurd hj (by omega), fun _ _ => rfl⟩
  refine mo_wd (k := 0) a6 w0 (by omega) (by decide) (fun v1 w1 => ?_)
  refine mo_wd (k := 1) a6 w1 (by omega) (by decide) (fun v2 w2 => ?_)
  refine mo_wd (k := 2) a6 w2 (by omega) (by decide) (fun v3 w3 => ?_)
  refine mo_wd (k := 3) a6 w3 (by omega) (by decide) (fun v4 w4 => ?_)
  refine mo_wd (k := 4) a6 w4 (by omega) (by decide) (fun v5 w5 => ?_)
  refine mo_wd (k := 5) a6 w5 (by omega) (by decide) (fun v6 w6 => ?_)
  refine mo_wd (k := 6) a6 w6 (by omega) (by decide) (fun v7 w7 => ?_)
  refine mo_wd (k := 7) a6 w7 (by omega) (by decide) (fun v8 w8 => ?_)
  refine mo_wd (k := 8) a6 w8 (by omega) (by decide) (fun v9 w9 => ?_)
  refine mo_wd (k := 9) a6 w9 (by omega) (by decide) (fun v10 w10 => ?_)
  refine mo_wd (k := 10) a6 w10 (by omega) (by decide) (fun v11 w11 => ?_)
  refine mo_wd (k := 11) a6 w11 (by omega) (by decide) (fun v12 w12 => ?_)
  refine mo_wd (k := 12) a6 w12 (by omega) (by decide) (fun v13 w13 => ?_)
  refine mo_wd (k := 13) a6 w13 (by omega) (by decide) (fun v14 w14 => ?_)
  refine mo_wd (k := 14) a6 w14 (by omega) (by decide) (fun v15 w15 => ?_)
  refine mo_wd (k := 15) a6 w15 (by omega) (by decide) (fun v16 w16 => ?_)
  refine mo_wd (k := 16) a6 w16 (by omega) (by decide) (fun v17 w17 => ?_)
  refine mo_wd (k := 17) a6 w17 (by omega) (by decide) (fun v18 w18 => ?_)
  refine mo_wd (k := 18) a6 w18 (by omega) (by decide) (fun v19 w19 => ?_)
  refine mo_wd (k := 19) a6 w19 (by omega) (by decide) (fun v20 w20 => ?_)
  refine mo_wd (k := 20) a6 w20 (by omega) (by decide) (fun v21 w21 => ?_)
  refine mo_wd (k := 21) a6 w21 (by omega) (by decide) (fun v22 w22 => ?_)
  refine mo_wd (k := 22) a6 w22 (by omega) (by decide) (fun v23 w23 => ?_)
  refine mo_wd (k := 23) a6 w23 (by omega) (by decide) (fun v24 w24 => ?_)
  refine mo_wd (k := 24) a6 w24 (by omega) (by decide) (fun v25 w25 => ?_)
  refine mo_wd (k := 25) a6 w25 (by omega) (by decide) (fun v26 w26 => ?_)
  refine mo_wd (k := 26) a6 w26 (by omega) (by decide) (fun v27 w27 => ?_)
  refine mo_wd (k := 27) a6 w27 (by omega) (by decide) (fun v28 w28 => ?_)
  refine mo_wd (k := 28) a6 w28 (by omega) (by decide) (fun v29 w29 => ?_)
  refine mo_wd (k := 29) a6 w29 (by omega) (by decide) (fun v30 w30 => ?_)
  refine mo_wd (k := 30) a6 w30 (by omega) (by decide) (fun v31 w31 => ?_)
  refine mo_wd (k := 31) a6 w31 (by omega) (by decide) (fun v32 w32 => ?_)
  refine mo_wd (k := 32) a6 w32 (by omega) (by decide) (fun v33 w33 => ?_)
  refine mo_wd (k := 33) a6 w33 (by omega) (by decide) (fun v34 w34 => ?_)
  refine mo_wd (k := 34) a6 w34 (by omega) (by decide) (fun v35 w35 => ?_)
  refine mo_wd (k := 35) a6 w35 (by omega) (by decide) (fun v36 w36 => ?_)
  refine mo_wd (k := 36) a6 w36 (by omega) (by decide) (fun v37 w37 => ?_)
  refine mo_wd (k := 37) a6 w37 (by omega) (by decide) (fun v38 w38 => ?_)
  refine mo_wd (k := 38) a6 w38 (by omega) (by decide) (fun v39 w39 => ?_)
  refine mo_wd (k := 39) a6 w39 (by omega) (by decide) (fun v40 w40 => ?_)
  refine mo_wd (k := 40) a6 w40 (by omega) (by decide) (fun v41 w41 => ?_)
  refine mo_wd (k := 41) a6 w41 (by omega) (by decide) (fun v42 w42 => ?_)
  refine mo_wd (k := 42) a6 w42 (by omega) (by decide) (fun v43 w43 => ?_)
  refine mo_wd (k := 43) a6 w43 (by omega) (by decide) (fun v44 w44 => ?_)
  refine mo_wd (k := 44) a6 w44 (by omega) (by decide) (fun v45 w45 => ?_)
  refine mo_wd (k := 45) a6 w45 (by omega) (by decide) (fun v46 w46 => ?_)
  refine mo_wd (k := 46) a6 w46 (by omega) (by decide) (fun v47 w47 => ?_)
  refine mo_wd (k := 47) a6 w47 (by omega) (by decide) (fun v48 w48 => ?_)
  refine mo_wd (k := 48) a6 w48 (by omega) (by decide) (fun v49 w49 => ?_)
  refine mo_wd (k := 49) a6 w49 (by omega) (by decide) (fun v50 w50 => ?_)
  refine mo_wd (k := 50) a6 w50 (by omega) (by decide) (fun v51 w51 => ?_)
  refine mo_wd (k := 51) a6 w51 (by omega) (by decide) (fun v52 w52 => ?_)
  refine mo_wd (k := 52) a6 w52 (by omega) (by decide) (fun v53 w53 => ?_)
  refine mo_wd (k := 53) a6 w53 (by omega) (by decide) (fun v54 w54 => ?_)
  refine mo_wd (k := 54) a6 w54 (by omega) (by decide) (fun v55 w55 => ?_)
  refine mo_wd (k := 55) a6 w55 (by omega) (by decide) (fun v56 w56 => ?_)
  refine mo_wd (k := 56) a6 w56 (by omega) (by decide) (fun v57 w57 => ?_)
  refine mo_wd (k := 57) a6 w57 (by omega) (by decide) (fun v58 w58 => ?_)
  refine mo_wd (k := 58) a6 w58 (by omega) (by decide) (fun v59 w59 => ?_)
  refine mo_wd (k := 59) a6 w59 (by omega) (by decide) (fun v60 w60 => ?_)
  refine mo_wd (k := 60) a6 w60 (by omega) (by decide) (fun v61 w61 => ?_)
  refine mo_wd (k := 61) a6 w61 (by omega) (by decide) (fun v62 w62 => ?_)
  refine mo_wd (k := 62) a6 w62 (by omega) (by decide) (fun v63 w63 => ?_)
  refine mo_wd (k := 63) a6 w63 (by omega) (by decide) (fun v64 w64 => ?_)
  refine mo_wd (k := 64) a6 w64 (by omega) (by decide) (fun v65 w65 => ?_)
  refine mo_wd (k := 65) a6 w65 (by omega) (by decide) (fun v66 w66 => ?_)
  refine mo_wd (k := 66) a6 w66 (by omega) (by decide) (fun v67 w67 => ?_)
  refine mo_wd (k := 67) a6 w67 (by omega) (by decide) (fun v68 w68 => ?_)
  refine mo_wd (k := 68) a6 w68 (by omega) (by decide) (fun v69 w69 => ?_)
  refine mo_wd (k := 69) a6 w69 (by omega) (by decide) (fun v70 w70 => ?_)
  refine mo_wd (k := 70) a6 w70 (by omega) (by decide) (fun v71 w71 => ?_)
  refine mo_wd (k := 71) a6 w71 (by omega) (by decide) (fun v72 w72 => ?_)
  refine mo_wd (k := 72) a6 w72 (by omega) (by decide) (fun v73 w73 => ?_)
  refine mo_wd (k := 73) a6 w73 (by omega) (by decide) (fun v74 w74 => ?_)
  refine mo_wd (k := 74) a6 w74 (by omega) (by decide) (fun v75 w75 => ?_)
  refine mo_wd (k := 75) a6 w75 (by omega) (by decide) (fun v76 w76 => ?_)
  refine mo_wd (k := 76) a6 w76 (by omega) (by decide) (fun v77 w77 => ?_)
  refine mo_wd (k := 77) a6 w77 (by omega) (by decide) (fun v78 w78 => ?_)
  refine mo_wd (k := 78) a6 w78 (by omega) (by decide) (fun v79 w79 => ?_)
  refine mo_wd (k := 79) a6 w79 (by omega) (by decide) (fun v80 w80 => ?_)
  refine mo_wd (k := 80) a6 w80 (by omega) (by decide) (fun v81 w81 => ?_)
  refine mo_wd (k := 81) a6 w81 (by omega) (by decide) (fun v82 w82 => ?_)
  refine mo_wd (k := 82) a6 w82 (by omega) (by decide) (fun v83 w83 => ?_)
  refine mo_wd (k := 83) a6 w83 (by omega) (by decide) (fun v84 w84 => ?_)
  refine mo_wd (k := 84) a6 w84 (by omega) (by decide) (fun v85 w85 => ?_)
  refine mo_wd (k := 85) a6 w85 (by omega) (by decide) (fun v86 w86 => ?_)
  refine mo_wd (k := 86) a6 w86 (by omega) (by decide) (fun v87 w87 => ?_)
  refine mo_wd (k := 87) a6 w87 (by omega) (by decide) (fun v88 w88 => ?_)
  refine mo_wd (k := 88) a6 w88 (by omega) (by decide) (fun v89 w89 => ?_)
  refine mo_wd (k := 89) a6 w89 (by omega) (by decide) (fun v90 w90 => ?_)
  refine mo_wd (k := 90) a6 w90 (by omega) (by decide) (fun v91 w91 => ?_)
  refine mo_wd (k := 91) a6 w91 (by omega) (by decide) (fun v92 w92 => ?_)
  refine mo_wd (k := 92) a6 w92 (by omega) (by decide) (fun v93 w93 => ?_)
  refine mo_wd (k := 93) a6 w93 (by omega) (by decide) (fun v94 w94 => ?_)
  refine mo_wd (k := 94) a6 w94 (by omega) (by decide) (fun v95 w95 => ?_)
  refine mo_wd (k := 95) a6 w95 (by omega) (by decide) (fun v96 w96 => ?_)
  refine mo_wd (k := 96) a6 w96 (by omega) (by decide) (fun v97 w97 => ?_)
  refine mo_wd (k := 97) a6 w97 (by omega) (by decide) (fun v98 w98 => ?_)
  refine mo_wd (k := 98) a6 w98 (by omega) (by decide) (fun v99 w99 => ?_)
  refine mo_wd (k := 99) a6 w99 (by omega) (by decide) (fun v100 w100 => ?_)
  refine mo_wd (k := 100) a6 w100 (by omega) (by decide) (fun v101 w101 => ?_)
  refine mo_wd (k := 101) a6 w101 (by omega) (by decide) (fun v102 w102 => ?_)
  refine mo_wd (k := 102) a6 w102 (by omega) (by decide) (fun v103 w103 => ?_)
  refine mo_wd (k := 103) a6 w103 (by omega) (by decide) (fun v104 w104 => ?_)
  refine mo_wd (k := 104) a6 w104 (by omega) (by decide) (fun v105 w105 => ?_)
  refine mo_wd (k := 105) a6 w105 (by omega) (by decide) (fun v106 w106 => ?_)
  refine mo_wd (k := 106) a6 w106 (by omega) (by decide) (fun v107 w107 => ?_)
  refine mo_wd (k := 107) a6 w107 (by omega) (by decide) (fun v108 w108 => ?_)
  refine mo_wd (k := 108) a6 w108 (by omega) (by decide) (fun v109 w109 => ?_)
  refine mo_wd (k := 109) a6 w109 (by omega) (by decide) (fun v110 w110 => ?_)
  refine mo_wd (k := 110) a6 w110 (by omega) (by decide) (fun v111 w111 => ?_)
  refine mo_wd (k := 111) a6 w111 (by omega) (by decide) (fun v112 w112 => ?_)
  refine mo_wd (k := 112) a6 w112 (by omega) (by decide) (fun v113 w113 => ?_)
  refine mo_wd (k := 113) a6 w113 (by omega) (by decide) (fun v114 w114 => ?_)
  refine mo_wd (k := 114) a6 w114 (by omega) (by decide) (fun v115 w115 => ?_)
  refine mo_wd (k := 115) a6 w115 (by omega) (by decide) (fun v116 w116 => ?_)
  refine mo_wd (k := 116) a6 w116 (by omega) (by decide) (fun v117 w117 => ?_)
  refine mo_wd (k := 117) a6 w117 (by omega) (by decide) (fun v118 w118 => ?_)
  refine mo_wd (k := 118) a6 w118 (by omega) (by decide) (fun v119 w119 => ?_)
  refine mo_wd (k := 119) a6 w119 (by omega) (by decide) (fun v120 w120 => ?_)
  refine mo_wd (k := 120) a6 w120 (by omega) (by decide) (fun v121 w121 => ?_)
  refine mo_wd (k := 121) a6 w121 (by omega) (by decide) (fun v122 w122 => ?_)
  refine mo_wd (k := 122) a6 w122 (by omega) (by decide) (fun v123 w123 => ?_)
  refine mo_wd (k := 123) a6 w123 (by omega) (by decide) (fun v124 w124 => ?_)
  refine mo_wd (k := 124) a6 w124 (by omega) (by decide) (fun v125 w125 => ?_)
  refine mo_wd (k := 125) a6 w125 (by omega) (by decide) (fun v126 w126 => ?_)
  refine mo_wd (k := 126) a6 w126 (by omega) (by decide) (fun v127 w127 => ?_)
  refine mo_wd (k := 127) a6 w127 (by omega) (by decide) (fun v128 w128 => ?_)
  refine mo_wd (k := 128) a6 w128 (by omega) (by decide) (fun v129 w129 => ?_)
  refine mo_wd (k := 129) a6 w129 (by omega) (by decide) (fun v130 w130 => ?_)
  refine mo_wd (k := 130) a6 w130 (by omega) (by decide) (fun v131 w131 => ?_)
  refine mo_wd (k := 131) a6 w131 (by omega) (by decide) (fun v132 w132 => ?_)
  refine eva_ckP h59 (eva_pR (fun y6 e1 e2 e3 e4 => ?_))
  have i6 : MkI 6 μ y v132 y6 := by
    obtain ⟨h1, h2, h3, h4, h5, h6, h7, h8⟩ := i5
    refine ⟨by rw [e1]; exact h1.trans (app_pre d1), by rw [eq_N e1, app_N d1, h2], fun k hk => by rw [e2 k (by omega), d2 k (by omega), h3 k hk], fun k hk => by rw [w132.2 k (by omega), d4 k (by omega), h4 k hk], by rw [e1]; exact h59, fun i hi => ?_, fun j hj => by rw [w132.2 59 (by decide), d4 59 (by decide)]; exact h7 j hj, fun k a b c j => by rw [w132.2 k c, d4 k c]; exact h8 k a (by omega) c j⟩
    by_cases c : i = 5
    · rw [c]; exact ⟨e4, by rw [e1]; exact a6⟩
    · have hi' : i < 5 := by omega
      have hne := moF_inj i (by omega) 5 (by omega) c
      exact ⟨by rw [e3 _ hne, d2 59 (by decide)]; exact (h6 i hi').1, by rw [e1, pre_get (app_pre d1) _ (by omega)]; exact (h6 i hi').2⟩
  have s6 : mmS y6 = (mmS y + 118 + 708 + 118 + 600 + 400) + 132 := by rw [eq_S e1, app_S d1, s5]
  have wd6 : ∀ j, j < 132 → v132 65 j = nI (WB.getD j 0) := w132.1
  clear w132
  refine mo_st (n := 6) i6 s6 (by omega) (by rfl) (fun m7 y7 i7 s7 a7 b7 c7 => ?_)
  refine mo_st (n := 7) i7 s7 (by omega) (by rfl) (fun m8 y8 i8 s8 a8 b8 c8 => ?_)
  refine mo_st (n := 8) i8 s8 (by omega) (by rfl) (fun m9 y9 i9 s9 a9 b9 c9 => ?_)
  refine mo_st (n := 9) i9 s9 (by omega) (by rfl) (fun m10 y10 i10 s10 a10 b10 c10 => ?_)
  refine mo_st (n := 10) i10 s10 (by omega) (by rfl) (fun m11 y11 i11 s11 a11 b11 c11 => ?_)
  refine mo_st (n := 11) i11 s11 (by omega) (by rfl) (fun m12 y12 i12 s12 a12 b12 c12 => ?_)
  refine mo_st (n := 12) i12 s12 (by omega) (by rfl) (fun m13 y13 i13 s13 a13 b13 c13 => ?_)
  refine mo_st (n := 13) i13 s13 (by omega) (by rfl) (fun m14 y14 i14 s14 a14 b14 c14 => ?_)
  refine eva_ckP i14.2.2.2.2.1 (eva_pF ?_)
  have i14' : MkI 14 μ y (up2 m14 59 30 (-1)) y14 := ⟨i14.1, i14.2.1, i14.2.2.1, fun k hk => (up2_ne (by omega)).trans (i14.2.2.2.1 k hk), i14.2.2.2.2.1, i14.2.2.2.2.2.1, fun j hj => by rw [up2_off (Or.inr hj)]; exact i14.2.2.2.2.2.2.1 j hj, fun k a b c j => by rw [up2_ne (by omega)]; exact i14.2.2.2.2.2.2.2 k a b c j⟩
  have p30 : (up2 m14 59 30 (-1)) 59 30 = -1 := up2_same _ _ _ _
  have p65 : (up2 m14 59 30 (-1)) 65 = m14 65 := up2_ne (by decide)
  generalize up2 m14 59 30 (-1) = mp at i14' p30 p65 ⊢
  clear i14
  have i14 := i14'
  refine mo_st (n := 14) i14 s14 (by omega) (by rfl) (fun m15 y15 i15 s15 a15 b15 c15 => ?_)
  refine mo_st (n := 15) i15 s15 (by omega) (by rfl) (fun m16 y16 i16 s16 a16 b16 c16 => ?_)
  refine mo_st (n := 16) i16 s16 (by omega) (by rfl) (fun m17 y17 i17 s17 a17 b17 c17 => ?_)
  refine mo_st (n := 17) i17 s17 (by omega) (by rfl) (fun m18 y18 i18 s18 a18 b18 c18 => ?_)
  refine mo_st (n := 18) i18 s18 (by omega) (by rfl) (fun m19 y19 i19 s19 a19 b19 c19 => ?_)
  refine mo_st (n := 19) i19 s19 (by omega) (by rfl) (fun m20 y20 i20 s20 a20 b20 c20 => ?_)
  refine mo_st (n := 20) i20 s20 (by omega) (by rfl) (fun m21 y21 i21 s21 a21 b21 c21 => ?_)
  refine mo_st (n := 21) i21 s21 (by omega) (by rfl) (fun m22 y22 i22 s22 a22 b22 c22 => ?_)
  refine mo_st (n := 22) i22 s22 (by omega) (by rfl) (fun m23 y23 i23 s23 a23 b23 c23 => ?_)
  refine mo_st (n := 23) i23 s23 (by omega) (by rfl) (fun m24 y24 i24 s24 a24 b24 c24 => ?_)
  refine mo_st (n := 24) i24 s24 (by omega) (by rfl) (fun m25 y25 i25 s25 a25 b25 c25 => ?_)
  refine mo_st (n := 25) i25 s25 (by omega) (by rfl) (fun m26 y26 i26 s26 a26 b26 c26 => ?_)
  refine mo_st (n := 26) i26 s26 (by omega) (by rfl) (fun m27 y27 i27 s27 a27 b27 c27 => ?_)
  refine mo_st (n := 27) i27 s27 (by omega) (by rfl) (fun m28 y28 i28 s28 a28 b28 c28 => ?_)
  refine mo_st (n := 28) i28 s28 (by omega) (by rfl) (fun m29 y29 i29 s29 a29 b29 c29 => ?_)
  refine mo_st (n := 29) i29 s29 (by omega) (by rfl) (fun m30 y30 i30 s30 a30 b30 c30 => ?_)
  refine mo_st (n := 30) i30 s30 (by omega) (by rfl) (fun m31 y31 i31 s31 a31 b31 c31 => ?_)
  refine mo_st (n := 31) i31 s31 (by omega) (by rfl) (fun m32 y32 i32 s32 a32 b32 c32 => ?_)
  refine mo_st (n := 32) i32 s32 (by omega) (by rfl) (fun m33 y33 i33 s33 a33 b33 c33 => ?_)
  refine mo_st (n := 33) i33 s33 (by omega) (by rfl) (fun m34 y34 i34 s34 a34 b34 c34 => ?_)
  refine mo_st (n := 34) i34 s34 (by omega) (by rfl) (fun m35 y35 i35 s35 a35 b35 c35 => ?_)
  refine mo_st (n := 35) i35 s35 (by omega) (by rfl) (fun m36 y36 i36 s36 a36 b36 c36 => ?_)
  refine mo_st (n := 36) i36 s36 (by omega) (by rfl) (fun m37 y37 i37 s37 a37 b37 c37 => ?_)
  refine mo_st (n := 37) i37 s37 (by omega) (by rfl) (fun m38 y38 i38 s38 a38 b38 c38 => ?_)
  refine mo_st (n := 38) i38 s38 (by omega) (by rfl) (fun m39 y39 i39 s39 a39 b39 c39 => ?_)
  have e65 : m39 65 = v132 65 := by rw [b39 65 (by omega), b38 65 (by omega), b37 65 (by omega), b36 65 (by omega), b35 65 (by omega), b34 65 (by omega), b33 65 (by omega), b32 65 (by omega), b31 65 (by omega), b30 65 (by omega), b29 65 (by omega), b28 65 (by omega), b27 65 (by omega), b26 65 (by omega), b25 65 (by omega), b24 65 (by omega), b23 65 (by omega), b22 65 (by omega), b21 65 (by omega), b20 65 (by omega), b19 65 (by omega), b18 65 (by omega), b17 65 (by omega), b16 65 (by omega), b15 65 (by omega), p65, b14 65 (by omega), b13 65 (by omega), b12 65 (by omega), b11 65 (by omega), b10 65 (by omega), b9 65 (by omega), b8 65 (by omega), b7 65 (by omega)]
  have e59 : m39 59 = mp 59 := by rw [b39 59 (by omega), b38 59 (by omega), b37 59 (by omega), b36 59 (by omega), b35 59 (by omega), b34 59 (by omega), b33 59 (by omega), b32 59 (by omega), b31 59 (by omega), b30 59 (by omega), b29 59 (by omega), b28 59 (by omega), b27 59 (by omega), b26 59 (by omega), b25 59 (by omega), b24 59 (by omega), b23 59 (by omega), b22 59 (by omega), b21 59 (by omega), b20 59 (by omega), b19 59 (by omega), b18 59 (by omega), b17 59 (by omega), b16 59 (by omega), b15 59 (by omega)]
  refine eva_some ⟨i39.1, i39.2.1, by omega, ⟨i39.2.2.2.2.1, i39.2.2.2.2.2.1 0 (by omega), i39.2.2.2.2.2.1 1 (by omega), i39.2.2.2.2.2.1 2 (by omega), i39.2.2.2.2.2.1 3 (by omega), i39.2.2.2.2.2.1 4 (by omega), i39.2.2.2.2.2.1 5 (by omega), i39.2.2.2.2.2.1 6 (by omega), i39.2.2.2.2.2.1 7 (by omega), i39.2.2.2.2.2.1 8 (by omega), i39.2.2.2.2.2.1 9 (by omega), i39.2.2.2.2.2.1 10 (by omega), i39.2.2.2.2.2.1 11 (by omega), i39.2.2.2.2.2.1 12 (by omega), i39.2.2.2.2.2.1 13 (by omega), i39.2.2.2.2.2.1 14 (by omega), i39.2.2.2.2.2.1 15 (by omega), i39.2.2.2.2.2.1 16 (by omega), i39.2.2.2.2.2.1 17 (by omega), i39.2.2.2.2.2.1 18 (by omega), i39.2.2.2.2.2.1 19 (by omega), i39.2.2.2.2.2.1 20 (by omega), i39.2.2.2.2.2.1 21 (by omega), i39.2.2.2.2.2.1 22 (by omega), i39.2.2.2.2.2.1 23 (by omega), i39.2.2.2.2.2.1 24 (by omega), i39.2.2.2.2.2.1 25 (by omega), i39.2.2.2.2.2.1 26 (by omega), i39.2.2.2.2.2.1 27 (by omega), i39.2.2.2.2.2.1 28 (by omega), i39.2.2.2.2.2.1 29 (by omega), i39.2.2.2.2.2.1 30 (by omega), i39.2.2.2.2.2.1 31 (by omega), i39.2.2.2.2.2.1 32 (by omega), i39.2.2.2.2.2.1 33 (by omega), i39.2.2.2.2.2.1 34 (by omega), i39.2.2.2.2.2.1 35 (by omega), i39.2.2.2.2.2.1 36 (by omega), i39.2.2.2.2.2.1 37 (by omega), i39.2.2.2.2.2.1 38 (by omega), trivial⟩, i39.2.2.1, i39.2.2.2.1, i39.2.2.2.2.2.2.1, by rw [e59]; exact p30, i39.2.2.2.2.2.2.2, fun j hj => by rw [e65]; exact wd6 j hj⟩
