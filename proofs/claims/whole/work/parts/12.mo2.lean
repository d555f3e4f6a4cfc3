/-! THE REFERENCE: models and their rows (by program) -/
def Mo_isMarkSign_60 (a : Nat)     (μ : Mu) : Option (Int32 × Mu) := some (1, μ)
def Mo_isMarkSign (a : Nat) (v1 : Int32) (μ : Mu) : Option (Int32 × Mu) := (if v1 = 59 then Mo_isMarkSign_60 a μ else (if v1 = 43 then Mo_isMarkSign_60 a μ else (if v1 = 45 then Mo_isMarkSign_60 a μ else (if v1 = 42 then Mo_isMarkSign_60 a μ else (if v1 = 47 then Mo_isMarkSign_60 a μ else (if v1 = 40 then Mo_isMarkSign_60 a μ else (if v1 = 41 then Mo_isMarkSign_60 a μ else (if v1 = 60 then Mo_isMarkSign_60 a μ else (if v1 = 61 then Mo_isMarkSign_60 a μ else (if v1 = 62 then Mo_isMarkSign_60 a μ else some (0, μ)))))))))))
set_option maxRecDepth 100000 in
set_option maxHeartbeats 4000000 in
theorem jMo_isMarkSign_60 {X : Cx} {l : Launch} {G : Gx} {y : Ly} {a : Nat} (hL : LyMo y a ) (hX : Ok X l G prog_13_method_29_code 2 (some .boolean) "SaltFiguresModel")      (μ : Mu) : J X G 2 1 y (emy y) rvI tpT 60 [] [] (μ, y) (Mo_isMarkSign_60 a     μ) := by
  unfold Mo_isMarkSign_60
  refine J_iconst (pc := 60) (n := 1) (v := 1) hX (by decide +kernel) (by decide +kernel) ?_
  refine J_goto (pc := 61) (off := 4) (tgt := 65) hX (by decide +kernel) (by decide +kernel) ?_
  exact J_zret (pc := 65) hX (by decide +kernel) rfl (by decide +kernel) trivial
set_option maxRecDepth 100000 in
set_option maxHeartbeats 4000000 in
theorem jMo_isMarkSign {X : Cx} {l : Launch} {G : Gx} {y : Ly} {a : Nat} (hL : LyMo y a ) (hX : Ok X l G prog_13_method_29_code 2 (some .boolean) "SaltFiguresModel") (v1 : Int32) (μ : Mu) : J X G 2 1 y (emy y) rvI tpT 0 [(0, .ref (G.1 + a)), (1, .int v1)] [] (μ, y) (Mo_isMarkSign a v1 μ) := by
  unfold Mo_isMarkSign
  refine J_iload_n (k0 := 1) (pc := 0) 1 hX (by decide +kernel) rfl rfl ?_
  refine J_bipush (pc := 1) (n := 59) (v := 59) hX (by decide +kernel) (by decide +kernel) ?_
  refine J_icmp_eq (pc := 3) (off := 57) (tgt := 60) hX (by decide +kernel) (by decide +kernel) (fun _ => ?_) (fun _ => ?_)
  · exact J_sub [] _ rfl (jMo_isMarkSign_60 hL hX μ)
  · refine J_iload_n (k0 := 1) (pc := 6) 1 hX (by decide +kernel) rfl rfl ?_
    refine J_bipush (pc := 7) (n := 43) (v := 43) hX (by decide +kernel) (by decide +kernel) ?_
    refine J_icmp_eq (pc := 9) (off := 51) (tgt := 60) hX (by decide +kernel) (by decide +kernel) (fun _ => ?_) (fun _ => ?_)
    · exact J_sub [] _ rfl (jMo_isMarkSign_60 hL hX μ)
    · refine J_iload_n (k0 := 1) (pc := 12) 1 hX (by decide +kernel) rfl rfl ?_
      refine J_bipush (pc := 13) (n := 45) (v := 45) hX (by decide +kernel) (by decide +kernel) ?_
      refine J_icmp_eq (pc := 15) (off := 45) (tgt := 60) hX (by decide +kernel) (by decide +kernel) (fun _ => ?_) (fun _ => ?_)
      · exact J_sub [] _ rfl (jMo_isMarkSign_60 hL hX μ)
      · refine J_iload_n (k0 := 1) (pc := 18) 1 hX (by decide +kernel) rfl rfl ?_
        refine J_bipush (pc := 19) (n := 42) (v := 42) hX (by decide +kernel) (by decide +kernel) ?_
        refine J_icmp_eq (pc := 21) (off := 39) (tgt := 60) hX (by decide +kernel) (by decide +kernel) (fun _ => ?_) (fun _ => ?_)
        · exact J_sub [] _ rfl (jMo_isMarkSign_60 hL hX μ)
        · refine J_iload_n (k0 := 1) (pc := 24) 1 hX (by decide +kernel) rfl rfl ?_
          refine J_bipush (pc := 25) (n := 47) (v := 47) hX (by decide +kernel) (by decide +kernel) ?_
          refine J_icmp_eq (pc := 27) (off := 33) (tgt := 60) hX (by decide +kernel) (by decide +kernel) (fun _ => ?_) (fun _ => ?_)
          · exact J_sub [] _ rfl (jMo_isMarkSign_60 hL hX μ)
          · refine J_iload_n (k0 := 1) (pc := 30) 1 hX (by decide +kernel) rfl rfl ?_
            refine J_bipush (pc := 31) (n := 40) (v := 40) hX (by decide +kernel) (by decide +kernel) ?_
            refine J_icmp_eq (pc := 33) (off := 27) (tgt := 60) hX (by decide +kernel) (by decide +kernel) (fun _ => ?_) (fun _ => ?_)
            · exact J_sub [] _ rfl (jMo_isMarkSign_60 hL hX μ)
            · refine J_iload_n (k0 := 1) (pc := 36) 1 hX (by decide +kernel) rfl rfl ?_
              refine J_bipush (pc := 37) (n := 41) (v := 41) hX (by decide +kernel) (by decide +kernel) ?_
              refine J_icmp_eq (pc := 39) (off := 21) (tgt := 60) hX (by decide +kernel) (by decide +kernel) (fun _ => ?_) (fun _ => ?_)
              · exact J_sub [] _ rfl (jMo_isMarkSign_60 hL hX μ)
              · refine J_iload_n (k0 := 1) (pc := 42) 1 hX (by decide +kernel) rfl rfl ?_
                refine J_bipush (pc := 43) (n := 60) (v := 60) hX (by decide +kernel) (by decide +kernel) ?_
                refine J_icmp_eq (pc := 45) (off := 15) (tgt := 60) hX (by decide +kernel) (by decide +kernel) (fun _ => ?_) (fun _ => ?_)
                · exact J_sub [] _ rfl (jMo_isMarkSign_60 hL hX μ)
                · refine J_iload_n (k0 := 1) (pc := 48) 1 hX (by decide +kernel) rfl rfl ?_
                  refine J_bipush (pc := 49) (n := 61) (v := 61) hX (by decide +kernel) (by decide +kernel) ?_
                  refine J_icmp_eq (pc := 51) (off := 9) (tgt := 60) hX (by decide +kernel) (by decide +kernel) (fun _ => ?_) (fun _ => ?_)
                  · exact J_sub [] _ rfl (jMo_isMarkSign_60 hL hX μ)
                  · refine J_iload_n (k0 := 1) (pc := 54) 1 hX (by decide +kernel) rfl rfl ?_
                    refine J_bipush (pc := 55) (n := 62) (v := 62) hX (by decide +kernel) (by decide +kernel) ?_
                    refine J_icmp_ne (pc := 57) (off := 7) (tgt := 64) hX (by decide +kernel) (by decide +kernel) (fun _ => ?_) (fun _ => ?_)
                    · refine J_iconst (pc := 64) (n := 0) (v := 0) hX (by decide +kernel) (by decide +kernel) ?_
                      exact J_zret (pc := 65) hX (by decide +kernel) rfl (by decide +kernel) trivial
                    · exact J_sub [] _ rfl (jMo_isMarkSign_60 hL hX μ)
set_option maxRecDepth 100000 in
set_option maxHeartbeats 4000000 in
theorem c_Mo_isMarkSign {l : Launch} {G : Gx} {y : Ly} {a : Nat} (hL : LyMo y a ) (v1 : Int32) (μ : Mu) : Cn l G ⟨"SaltFiguresModel", "isMarkSign", "(I)Z"⟩ prog_13_method_29_code 2 (some .boolean) 1 [.ref (G.1 + a), .int v1] (μ, y) (emy y) rvI tpT (Mo_isMarkSign a v1 μ) := cn_of (by decide +kernel) (Nat.le_of_ble_eq_true rfl) (fun _ _ _ => ⟨List.prefix_refl _, trivial⟩) (fun X hX _ => jMo_isMarkSign hL hX v1 μ)

def Mo_isSign (a : Nat) (v1 : Int32) (μ : Mu) : Option (Int32 × Mu) := gF μ a 12 (fun x1 => (if x1 = 4 then gF μ a 13 (fun x2 => (if x2 = v1 then some (1, μ) else some (0, μ))) else some (0, μ)))
set_option maxRecDepth 100000 in
set_option maxHeartbeats 4000000 in
theorem jMo_isSign {X : Cx} {l : Launch} {G : Gx} {y : Ly} {a : Nat} (hL : LyMo y a ) (hX : Ok X l G prog_13_method_34_code 2 (some .boolean) "SaltFiguresModel") (v1 : Int32) (μ : Mu) : J X G 2 1 y (emy y) rvI tpT 0 [(0, .ref (G.1 + a)), (1, .int v1)] [] (μ, y) (Mo_isSign a v1 μ) := by
  unfold Mo_isSign
  refine J_aload_n (k0 := 0) (pc := 0) 0 hX (by decide +kernel) rfl rfl ?_
  refine J_gF (pc := 1) hX (by decide +kernel) fl_Mo_181 hL.1 rfl (fun x1 => ?_)
  refine J_iconst (pc := 4) (n := 4) (v := 4) hX (by decide +kernel) (by decide +kernel) ?_
  refine J_icmp_ne (pc := 5) (off := 15) (tgt := 20) hX (by decide +kernel) (by decide +kernel) (fun _ => ?_) (fun _ => ?_)
  · refine J_iconst (pc := 20) (n := 0) (v := 0) hX (by decide +kernel) (by decide +kernel) ?_
    exact J_zret (pc := 21) hX (by decide +kernel) rfl (by decide +kernel) trivial
  · refine J_aload_n (k0 := 0) (pc := 8) 0 hX (by decide +kernel) rfl rfl ?_
    refine J_gF (pc := 9) hX (by decide +kernel) fl_Mo_184 hL.1 rfl (fun x2 => ?_)
    refine J_iload_n (k0 := 1) (pc := 12) 1 hX (by decide +kernel) rfl rfl ?_
    refine J_icmp_ne (pc := 13) (off := 7) (tgt := 20) hX (by decide +kernel) (by decide +kernel) (fun _ => ?_) (fun _ => ?_)
    · refine J_iconst (pc := 20) (n := 0) (v := 0) hX (by decide +kernel) (by decide +kernel) ?_
      exact J_zret (pc := 21) hX (by decide +kernel) rfl (by decide +kernel) trivial
    · refine J_iconst (pc := 16) (n := 1) (v := 1) hX (by decide +kernel) (by decide +kernel) ?_
      refine J_goto (pc := 17) (off := 4) (tgt := 21) hX (by decide +kernel) (by decide +kernel) ?_
      exact J_zret (pc := 21) hX (by decide +kernel) rfl (by decide +kernel) trivial
set_option maxRecDepth 100000 in
set_option maxHeartbeats 4000000 in
theorem c_Mo_isSign {l : Launch} {G : Gx} {y : Ly} {a : Nat} (hL : LyMo y a ) (v1 : Int32) (μ : Mu) : Cn l G ⟨"SaltFiguresModel", "isSign", "(I)Z"⟩ prog_13_method_34_code 2 (some .boolean) 1 [.ref (G.1 + a), .int v1] (μ, y) (emy y) rvI tpT (Mo_isSign a v1 μ) := cn_of (by decide +kernel) (Nat.le_of_ble_eq_true rfl) (fun _ _ _ => ⟨List.prefix_refl _, trivial⟩) (fun X hX _ => jMo_isSign hL hX v1 μ)

def Mo_isWord (a : Nat) (v1 : Int32) (μ : Mu) : Option (Int32 × Mu) := gF μ a 12 (fun x1 => (if x1 = 2 then gF μ a 13 (fun x2 => (if x2 = v1 then some (1, μ) else some (0, μ))) else some (0, μ)))
set_option maxRecDepth 100000 in
set_option maxHeartbeats 4000000 in
theorem jMo_isWord {X : Cx} {l : Launch} {G : Gx} {y : Ly} {a : Nat} (hL : LyMo y a ) (hX : Ok X l G prog_13_method_33_code 2 (some .boolean) "SaltFiguresModel") (v1 : Int32) (μ : Mu) : J X G 2 1 y (emy y) rvI tpT 0 [(0, .ref (G.1 + a)), (1, .int v1)] [] (μ, y) (Mo_isWord a v1 μ) := by
  unfold Mo_isWord
  refine J_aload_n (k0 := 0) (pc := 0) 0 hX (by decide +kernel) rfl rfl ?_
  refine J_gF (pc := 1) hX (by decide +kernel) fl_Mo_181 hL.1 rfl (fun x1 => ?_)
  refine J_iconst (pc := 4) (n := 2) (v := 2) hX (by decide +kernel) (by decide +kernel) ?_
  refine J_icmp_ne (pc := 5) (off := 15) (tgt := 20) hX (by decide +kernel) (by decide +kernel) (fun _ => ?_) (fun _ => ?_)
  · refine J_iconst (pc := 20) (n := 0) (v := 0) hX (by decide +kernel) (by decide +kernel) ?_
    exact J_zret (pc := 21) hX (by decide +kernel) rfl (by decide +kernel) trivial
  · refine J_aload_n (k0 := 0) (pc := 8) 0 hX (by decide +kernel) rfl rfl ?_
    refine J_gF (pc := 9) hX (by decide +kernel) fl_Mo_184 hL.1 rfl (fun x2 => ?_)
    refine J_iload_n (k0 := 1) (pc := 12) 1 hX (by decide +kernel) rfl rfl ?_
    refine J_icmp_ne (pc := 13) (off := 7) (tgt := 20) hX (by decide +kernel) (by decide +kernel) (fun _ => ?_) (fun _ => ?_)
    · refine J_iconst (pc := 20) (n := 0) (v := 0) hX (by decide +kernel) (by decide +kernel) ?_
      exact J_zret (pc := 21) hX (by decide +kernel) rfl (by decide +kernel) trivial
    · refine J_iconst (pc := 16) (n := 1) (v := 1) hX (by decide +kernel) (by decide +kernel) ?_
      refine J_goto (pc := 17) (off := 4) (tgt := 21) hX (by decide +kernel) (by decide +kernel) ?_
      exact J_zret (pc := 21) hX (by decide +kernel) rfl (by decide +kernel) trivial
set_option maxRecDepth 100000 in
set_option maxHeartbeats 4000000 in
theorem c_Mo_isWord {l : Launch} {G : Gx} {y : Ly} {a : Nat} (hL : LyMo y a ) (v1 : Int32) (μ : Mu) : Cn l G ⟨"SaltFiguresModel", "isWord", "(I)Z"⟩ prog_13_method_33_code 2 (some .boolean) 1 [.ref (G.1 + a), .int v1] (μ, y) (emy y) rvI tpT (Mo_isWord a v1 μ) := cn_of (by decide +kernel) (Nat.le_of_ble_eq_true rfl) (fun _ _ _ => ⟨List.prefix_refl _, trivial⟩) (fun X hX _ => jMo_isWord hL hX v1 μ)

def Mo_kindOfDeed (a : Nat)  (μ : Mu) : Option (Int32 × Mu) := cl (Mo_isWord a 9 μ) (fun x2 μ1 => (if x2 = 0 then gF μ1 a 12 (fun x3 => (if x3 = 2 then gF μ1 a 13 (fun x4 => cl (Mo_isIn a x4 19 22 μ1) (fun x6 μ5 => (if x6 = 0 then some ((-1), μ5) else gF μ5 a 13 (fun x7 => some ((1 + x7) - 19, μ5))))) else some ((-1), μ1))) else some (0, μ1)))
set_option maxRecDepth 100000 in
set_option maxHeartbeats 4000000 in
theorem jMo_kindOfDeed {X : Cx} {l : Launch} {G : Gx} {y : Ly} {a : Nat} (hL : LyMo y a ) (hX : Ok X l G prog_13_method_51_code 1 (some .int) "SaltFiguresModel")  (μ : Mu) : J X G 1 2 y (emy y) rvI tpT 0 [(0, .ref (G.1 + a))] [] (μ, y) (Mo_kindOfDeed a  μ) := by
  unfold Mo_kindOfDeed
  refine J_aload_n (k0 := 0) (pc := 0) 0 hX (by decide +kernel) rfl rfl ?_
  refine J_bipush (pc := 1) (n := 9) (v := 9) hX (by decide +kernel) (by decide +kernel) ?_
  refine J_cVi (pc := 3) (idx := 241) [.int 9] hX (by decide +kernel) (mq mt_7 50 (by decide +kernel)) mv_Mo_isWord hL.1 rfl rfl (Nat.le_of_ble_eq_true rfl) (Nat.le_of_ble_eq_true rfl) (c_Mo_isWord hL 9 μ) (fun x2 μ1 => ?_)
  refine J_if_eq (pc := 6) (off := 5) (tgt := 11) hX (by decide +kernel) (by decide +kernel) (fun _ => ?_) (fun _ => ?_)
  · refine J_aload_n (k0 := 0) (pc := 11) 0 hX (by decide +kernel) rfl rfl ?_
    refine J_gF (pc := 12) hX (by decide +kernel) fl_Mo_181 hL.1 rfl (fun x3 => ?_)
    refine J_iconst (pc := 15) (n := 2) (v := 2) hX (by decide +kernel) (by decide +kernel) ?_
    refine J_icmp_ne (pc := 16) (off := 30) (tgt := 46) hX (by decide +kernel) (by decide +kernel) (fun _ => ?_) (fun _ => ?_)
    · refine J_iconst (pc := 46) (n := -1) (v := (-1)) hX (by decide +kernel) (by decide +kernel) ?_
      exact J_iret (pc := 47) hX (by decide +kernel) rfl trivial
    · refine J_aload_n (k0 := 0) (pc := 19) 0 hX (by decide +kernel) rfl rfl ?_
      refine J_aload_n (k0 := 0) (pc := 20) 0 hX (by decide +kernel) rfl rfl ?_
      refine J_gF (pc := 21) hX (by decide +kernel) fl_Mo_184 hL.1 rfl (fun x4 => ?_)
      refine J_bipush (pc := 24) (n := 19) (v := 19) hX (by decide +kernel) (by decide +kernel) ?_
      refine J_bipush (pc := 26) (n := 22) (v := 22) hX (by decide +kernel) (by decide +kernel) ?_
      refine J_cVi (pc := 28) (idx := 154) [.int x4, .int 19, .int 22] hX (by decide +kernel) (mq mt_6 226 (by decide +kernel)) mv_Mo_isIn hL.1 rfl rfl (Nat.le_of_ble_eq_true rfl) (Nat.le_of_ble_eq_true rfl) (c_Mo_isIn hL x4 19 22 μ1) (fun x6 μ5 => ?_)
      refine J_if_eq (pc := 31) (off := 15) (tgt := 46) hX (by decide +kernel) (by decide +kernel) (fun _ => ?_) (fun _ => ?_)
      · refine J_iconst (pc := 46) (n := -1) (v := (-1)) hX (by decide +kernel) (by decide +kernel) ?_
        exact J_iret (pc := 47) hX (by decide +kernel) rfl trivial
      · refine J_iconst (pc := 34) (n := 1) (v := 1) hX (by decide +kernel) (by decide +kernel) ?_
        refine J_aload_n (k0 := 0) (pc := 35) 0 hX (by decide +kernel) rfl rfl ?_
        refine J_gF (pc := 36) hX (by decide +kernel) fl_Mo_184 hL.1 rfl (fun x7 => ?_)
        refine J_iadd (pc := 39) hX (by decide +kernel) ?_
        refine J_bipush (pc := 40) (n := 19) (v := 19) hX (by decide +kernel) (by decide +kernel) ?_
        refine J_isub (pc := 42) hX (by decide +kernel) ?_
        refine J_goto (pc := 43) (off := 4) (tgt := 47) hX (by decide +kernel) (by decide +kernel) ?_
        exact J_iret (pc := 47) hX (by decide +kernel) rfl trivial
  · refine J_iconst (pc := 9) (n := 0) (v := 0) hX (by decide +kernel) (by decide +kernel) ?_
    exact J_iret (pc := 10) hX (by decide +kernel) rfl trivial
set_option maxRecDepth 100000 in
set_option maxHeartbeats 4000000 in
theorem c_Mo_kindOfDeed {l : Launch} {G : Gx} {y : Ly} {a : Nat} (hL : LyMo y a )  (μ : Mu) : Cn l G ⟨"SaltFiguresModel", "kindOfDeed", "()I"⟩ prog_13_method_51_code 1 (some .int) 2 [.ref (G.1 + a)] (μ, y) (emy y) rvI tpT (Mo_kindOfDeed a  μ) := cn_of (by decide +kernel) (Nat.le_of_ble_eq_true rfl) (fun _ _ _ => ⟨List.prefix_refl _, trivial⟩) (fun X hX _ => jMo_kindOfDeed hL hX  μ)

def Mo_light_85 (a : Nat) (kb60 : Int32 → Int32 → Mu → Option (Int32 × Mu))  (v1 : Int32) (v4 : Int32) (v5 : Int32)  (μ : Mu) : Option (Int32 × Mu) := kb60 v4 (v5 + 1) μ
def Mo_light_60b (a : Nat)  (kb60 : Int32 → Int32 → Mu → Option (Int32 × Mu)) (v1 : Int32) (v4 : Int32) (v5 : Int32)  (μ : Mu) : Option (Int32 × Mu) := gF μ a 58 (fun x1 => (if x1 ≤ v5 then some (v4, μ) else cl (Mo_isLit a v1 v5 μ) (fun x3 μ2 => (if x3 = 0 then Mo_light_85 a kb60 v1 v4 v5 μ2 else Mo_light_85 a kb60 v1 (v4 + 1) v5 μ2))))
def Mo_light_60 (a : Nat)  (v1 : Int32) (fu : Nat) : Int32 → Int32 → Mu → Option (Int32 × Mu) := lp (fun kb => Mo_light_60b a  kb v1) (fun _ _ _ => none) fu
def Mo_light_49 (a : Nat)   (v1 : Int32) (v2 : Int32) (v3 : Int32)  (μ : Mu) : Option (Int32 × Mu) := (if v3 = 2 then Mo_light_60 a v1 FU 0 0 μ else ldA μ (a + 35) 8 v2 (fun x1 => (if x1 < v1 then ldA μ (a + 34) 8 v2 (fun x2 => ldA μ (a + 35) 8 v2 (fun x3 => cl (Mo_common a (v1 * x2) (v1 - x3) μ) (fun x5 μ4 => (if v3 = 0 then ldA μ4 (a + 34) 8 v2 (fun x7 => nz x5 (some ((v1 * x7) / x5, μ4))) else ldA μ4 (a + 35) 8 v2 (fun x6 => nz x5 (some ((v1 - x6) / x5, μ4))))))) else some (1 - v3, μ))))
def Mo_light (a : Nat) (v1 : Int32) (v2 : Int32) (v3 : Int32) (μ : Mu) : Option (Int32 × Mu) := pF μ a 0 0 (fun μ1 => cl (Mo_isIn a v1 1 60 μ1) (fun x3 μ2 => (if x3 = 0 then some ((-2), μ2) else cl (Mo_isIn a v3 0 2 μ2) (fun x5 μ4 => (if x5 = 0 then some ((-2), μ4) else (if 2 ≤ v3 then Mo_light_49 a v1 v2 v3 μ4 else gF μ4 a 58 (fun x6 => cl (Mo_isIn a v2 0 (x6 - 1) μ4) (fun x8 μ7 => (if x8 = 0 then some ((-2), μ7) else Mo_light_49 a v1 v2 v3 μ7)))))))))
set_option maxRecDepth 100000 in
set_option maxHeartbeats 4000000 in
theorem jMo_light_85 {X : Cx} {l : Launch} {G : Gx} {y : Ly} {a : Nat} (hL : LyMo y a ) (hX : Ok X l G prog_13_method_125_code 6 (some .int) "SaltFiguresModel")  (v1 : Int32) (v4 : Int32) (v5 : Int32)  {kb60 : Int32 → Int32 → Mu → Option (Int32 × Mu)} (hk60 : ∀ (v4 : Int32) (v5 : Int32) (μ : Mu), J X G 6 2 y (emy y) rvI tpT 60 [(0, .ref (G.1 + a)), (1, .int v1), (4, .int v4), (5, .int v5)] [] (μ, y) (kb60 v4 v5 μ)) (μ : Mu) : J X G 6 2 y (emy y) rvI tpT 85 [(0, .ref (G.1 + a)), (1, .int v1), (4, .int v4), (5, .int v5)] [] (μ, y) (Mo_light_85 a kb60  v1 v4 v5  μ) := by
  unfold Mo_light_85
  refine J_iinc (pc := 85) (n := 1) 3 [(5, .int (v5 + 1)), (0, .ref (G.1 + a)), (1, .int v1), (4, .int v4)] hX (by decide +kernel) rfl rfl (by decide) rfl ?_
  refine J_goto (pc := 88) (off := -28) (tgt := 60) hX (by decide +kernel) (by decide +kernel) ?_
  exact J_sub [1, 2, 3, 0] _ rfl (hk60 v4 (v5 + 1) μ)
set_option maxRecDepth 100000 in
set_option maxHeartbeats 4000000 in
theorem jMo_light_60b {X : Cx} {l : Launch} {G : Gx} {y : Ly} {a : Nat} (hL : LyMo y a ) (hX : Ok X l G prog_13_method_125_code 6 (some .int) "SaltFiguresModel") (v1 : Int32)  {kb60 : Int32 → Int32 → Mu → Option (Int32 × Mu)}  (hk60 : ∀ (v4 : Int32) (v5 : Int32) (μ : Mu), J X G 6 2 y (emy y) rvI tpT 60 [(0, .ref (G.1 + a)), (1, .int v1), (4, .int v4), (5, .int v5)] [] (μ, y) (kb60 v4 v5 μ)) (v4 : Int32) (v5 : Int32)  (μ : Mu) : J X G 6 2 y (emy y) rvI tpT 60 [(0, .ref (G.1 + a)), (1, .int v1), (4, .int v4), (5, .int v5)] [] (μ, y) (Mo_light_60b a  kb60 v1 v4 v5  μ) := by
  unfold Mo_light_60b
  refine J_iload (pc := 60) 3 hX (by decide +kernel) rfl ?_
  refine J_aload_n (k0 := 0) (pc := 62) 0 hX (by decide +kernel) rfl rfl ?_
  refine J_gF (pc := 63) hX (by decide +kernel) fl_Mo_477 hL.1 rfl (fun x1 => ?_)
  refine J_icmp_ge (pc := 66) (off := 25) (tgt := 91) hX (by decide +kernel) (by decide +kernel) (fun _ => ?_) (fun _ => ?_)
  · refine J_iload (pc := 91) 2 hX (by decide +kernel) rfl ?_
    exact J_iret (pc := 93) hX (by decide +kernel) rfl trivial
  · refine J_aload_n (k0 := 0) (pc := 69) 0 hX (by decide +kernel) rfl rfl ?_
    refine J_iload_n (k0 := 1) (pc := 70) 1 hX (by decide +kernel) rfl rfl ?_
    refine J_iload (pc := 71) 3 hX (by decide +kernel) rfl ?_
    refine J_cVi (pc := 73) (idx := 480) [.int v1, .int v5] hX (by decide +kernel) (mq mt_8 221 (by decide +kernel)) mv_Mo_isLit hL.1 rfl rfl (Nat.le_of_ble_eq_true rfl) (Nat.le_of_ble_eq_true rfl) (c_Mo_isLit hL v1 v5 μ) (fun x3 μ2 => ?_)
    refine J_if_eq (pc := 76) (off := 9) (tgt := 85) hX (by decide +kernel) (by decide +kernel) (fun _ => ?_) (fun _ => ?_)
    · exact J_sub [0, 1, 2, 3] _ rfl (jMo_light_85 hL hX v1 v4 v5 hk60 μ2)
    · refine J_iload (pc := 79) 2 hX (by decide +kernel) rfl ?_
      refine J_iconst (pc := 81) (n := 1) (v := 1) hX (by decide +kernel) (by decide +kernel) ?_
      refine J_iadd (pc := 82) hX (by decide +kernel) ?_
      refine J_istore (pc := 83) [(4, .int (v4 + 1)), (0, .ref (G.1 + a)), (1, .int v1), (5, .int v5)] hX (by decide +kernel) (by decide) rfl ?_
      exact J_sub [1, 2, 0, 3] _ rfl (jMo_light_85 hL hX v1 (v4 + 1) v5 hk60 μ2)
set_option maxRecDepth 100000 in
set_option maxHeartbeats 4000000 in
theorem jMo_light_60 {X : Cx} {l : Launch} {G : Gx} {y : Ly} {a : Nat} (hL : LyMo y a ) (hX : Ok X l G prog_13_method_125_code 6 (some .int) "SaltFiguresModel") (v1 : Int32)   : ∀ (fu : Nat) (v4 : Int32) (v5 : Int32) (μ : Mu), J X G 6 2 y (emy y) rvI tpT 60 [(0, .ref (G.1 + a)), (1, .int v1), (4, .int v4), (5, .int v5)] [] (μ, y) (Mo_light_60 a  v1 fu v4 v5 μ) := by
  intro fu
  induction fu with
  | zero => intros; exact J_none
  | succ fu ih => intro v4 v5 μ; exact jMo_light_60b hL hX v1  ih v4 v5 μ
set_option maxRecDepth 100000 in
set_option maxHeartbeats 4000000 in
theorem jMo_light_49 {X : Cx} {l : Launch} {G : Gx} {y : Ly} {a : Nat} (hL : LyMo y a ) (hX : Ok X l G prog_13_method_125_code 6 (some .int) "SaltFiguresModel")  (v1 : Int32) (v2 : Int32) (v3 : Int32)    (μ : Mu) : J X G 6 2 y (emy y) rvI tpT 49 [(0, .ref (G.1 + a)), (1, .int v1), (2, .int v2), (3, .int v3)] [] (μ, y) (Mo_light_49 a   v1 v2 v3  μ) := by
  unfold Mo_light_49
  refine J_iload_n (k0 := 3) (pc := 49) 3 hX (by decide +kernel) rfl rfl ?_
  refine J_iconst (pc := 50) (n := 2) (v := 2) hX (by decide +kernel) (by decide +kernel) ?_
  refine J_icmp_ne (pc := 51) (off := 43) (tgt := 94) hX (by decide +kernel) (by decide +kernel) (fun _ => ?_) (fun _ => ?_)
  · refine J_iload_n (k0 := 1) (pc := 94) 1 hX (by decide +kernel) rfl rfl ?_
    refine J_aload_n (k0 := 0) (pc := 95) 0 hX (by decide +kernel) rfl rfl ?_
    refine J_gr (pc := 96) hX (by decide +kernel) fl_Mo_116 hL.1 rfl hL.2.2.2.2.2.2.2.2.2.2.2.2.2.2.2.2.2.2.2.2.2.2.2.2.2.2.2.2.2.2.2.2.2.2.2.1.1 ?_
    refine J_iload_n (k0 := 2) (pc := 99) 2 hX (by decide +kernel) rfl rfl ?_
    refine J_ldA (pc := 100) hX (by decide +kernel) hL.2.2.2.2.2.2.2.2.2.2.2.2.2.2.2.2.2.2.2.2.2.2.2.2.2.2.2.2.2.2.2.2.2.2.2.1.2 (fun x1 => ?_)
    refine J_icmp_gt (pc := 101) (off := 7) (tgt := 108) hX (by decide +kernel) (by decide +kernel) (fun _ => ?_) (fun _ => ?_)
    · refine J_aload_n (k0 := 0) (pc := 108) 0 hX (by decide +kernel) rfl rfl ?_
      refine J_iload_n (k0 := 1) (pc := 109) 1 hX (by decide +kernel) rfl rfl ?_
      refine J_aload_n (k0 := 0) (pc := 110) 0 hX (by decide +kernel) rfl rfl ?_
      refine J_gr (pc := 111) hX (by decide +kernel) fl_Mo_113 hL.1 rfl hL.2.2.2.2.2.2.2.2.2.2.2.2.2.2.2.2.2.2.2.2.2.2.2.2.2.2.2.2.2.2.2.2.2.2.1.1 ?_
      refine J_iload_n (k0 := 2) (pc := 114) 2 hX (by decide +kernel) rfl rfl ?_
      refine J_ldA (pc := 115) hX (by decide +kernel) hL.2.2.2.2.2.2.2.2.2.2.2.2.2.2.2.2.2.2.2.2.2.2.2.2.2.2.2.2.2.2.2.2.2.2.1.2 (fun x2 => ?_)
      refine J_imul (pc := 116) hX (by decide +kernel) ?_
      refine J_iload_n (k0 := 1) (pc := 117) 1 hX (by decide +kernel) rfl rfl ?_
      refine J_aload_n (k0 := 0) (pc := 118) 0 hX (by decide +kernel) rfl rfl ?_
      refine J_gr (pc := 119) hX (by decide +kernel) fl_Mo_116 hL.1 rfl hL.2.2.2.2.2.2.2.2.2.2.2.2.2.2.2.2.2.2.2.2.2.2.2.2.2.2.2.2.2.2.2.2.2.2.2.1.1 ?_
      refine J_iload_n (k0 := 2) (pc := 122) 2 hX (by decide +kernel) rfl rfl ?_
      refine J_ldA (pc := 123) hX (by decide +kernel) hL.2.2.2.2.2.2.2.2.2.2.2.2.2.2.2.2.2.2.2.2.2.2.2.2.2.2.2.2.2.2.2.2.2.2.2.1.2 (fun x3 => ?_)
      refine J_isub (pc := 124) hX (by decide +kernel) ?_
      refine J_cVi (pc := 125) (idx := 462) [.int (v1 * x2), .int (v1 - x3)] hX (by decide +kernel) (mq mt_8 181 (by decide +kernel)) mv_Mo_common hL.1 rfl rfl (Nat.le_of_ble_eq_true rfl) (Nat.le_of_ble_eq_true rfl) (c_Mo_common hL (v1 * x2) (v1 - x3) μ) (fun x5 μ4 => ?_)
      refine J_istore (pc := 128) [(4, .int x5), (0, .ref (G.1 + a)), (1, .int v1), (2, .int v2), (3, .int v3)] hX (by decide +kernel) (by decide) rfl ?_
      refine J_iload_n (k0 := 3) (pc := 130) 4 hX (by decide +kernel) rfl rfl ?_
      refine J_if_ne (pc := 131) (off := 17) (tgt := 148) hX (by decide +kernel) (by decide +kernel) (fun _ => ?_) (fun _ => ?_)
      · refine J_iload_n (k0 := 1) (pc := 148) 2 hX (by decide +kernel) rfl rfl ?_
        refine J_aload_n (k0 := 0) (pc := 149) 1 hX (by decide +kernel) rfl rfl ?_
        refine J_gr (pc := 150) hX (by decide +kernel) fl_Mo_116 hL.1 rfl hL.2.2.2.2.2.2.2.2.2.2.2.2.2.2.2.2.2.2.2.2.2.2.2.2.2.2.2.2.2.2.2.2.2.2.2.1.1 ?_
        refine J_iload_n (k0 := 2) (pc := 153) 3 hX (by decide +kernel) rfl rfl ?_
        refine J_ldA (pc := 154) hX (by decide +kernel) hL.2.2.2.2.2.2.2.2.2.2.2.2.2.2.2.2.2.2.2.2.2.2.2.2.2.2.2.2.2.2.2.2.2.2.2.1.2 (fun x6 => ?_)
        refine J_isub (pc := 155) hX (by decide +kernel) ?_
        refine J_iload (pc := 156) 0 hX (by decide +kernel) rfl ?_
        refine J_idiv (pc := 158) hX (by decide +kernel) (fun _ => ?_)
        exact J_iret (pc := 159) hX (by decide +kernel) rfl trivial
      · refine J_iload_n (k0 := 1) (pc := 134) 2 hX (by decide +kernel) rfl rfl ?_
        refine J_aload_n (k0 := 0) (pc := 135) 1 hX (by decide +kernel) rfl rfl ?_
        refine J_gr (pc := 136) hX (by decide +kernel) fl_Mo_113 hL.1 rfl hL.2.2.2.2.2.2.2.2.2.2.2.2.2.2.2.2.2.2.2.2.2.2.2.2.2.2.2.2.2.2.2.2.2.2.1.1 ?_
        refine J_iload_n (k0 := 2) (pc := 139) 3 hX (by decide +kernel) rfl rfl ?_
        refine J_ldA (pc := 140) hX (by decide +kernel) hL.2.2.2.2.2.2.2.2.2.2.2.2.2.2.2.2.2.2.2.2.2.2.2.2.2.2.2.2.2.2.2.2.2.2.1.2 (fun x7 => ?_)
        refine J_imul (pc := 141) hX (by decide +kernel) ?_
        refine J_iload (pc := 142) 0 hX (by decide +kernel) rfl ?_
        refine J_idiv (pc := 144) hX (by decide +kernel) (fun _ => ?_)
        refine J_goto (pc := 145) (off := 14) (tgt := 159) hX (by decide +kernel) (by decide +kernel) ?_
        exact J_iret (pc := 159) hX (by decide +kernel) rfl trivial
    · refine J_iconst (pc := 104) (n := 1) (v := 1) hX (by decide +kernel) (by decide +kernel) ?_
      refine J_iload_n (k0 := 3) (pc := 105) 3 hX (by decide +kernel) rfl rfl ?_
      refine J_isub (pc := 106) hX (by decide +kernel) ?_
      exact J_iret (pc := 107) hX (by decide +kernel) rfl trivial
  · refine J_iconst (pc := 54) (n := 0) (v := 0) hX (by decide +kernel) (by decide +kernel) ?_
    refine J_istore (pc := 55) [(4, .int 0), (0, .ref (G.1 + a)), (1, .int v1), (2, .int v2), (3, .int v3)] hX (by decide +kernel) (by decide) rfl ?_
    refine J_iconst (pc := 57) (n := 0) (v := 0) hX (by decide +kernel) (by decide +kernel) ?_
    refine J_istore (pc := 58) [(5, .int 0), (4, .int 0), (0, .ref (G.1 + a)), (1, .int v1), (2, .int v2), (3, .int v3)] hX (by decide +kernel) (by decide) rfl ?_
    exact J_sub [2, 3, 1, 0] _ rfl (jMo_light_60 hL hX v1 FU 0 0 μ)
set_option maxRecDepth 100000 in
set_option maxHeartbeats 4000000 in
theorem jMo_light {X : Cx} {l : Launch} {G : Gx} {y : Ly} {a : Nat} (hL : LyMo y a ) (hX : Ok X l G prog_13_method_125_code 6 (some .int) "SaltFiguresModel") (v1 : Int32) (v2 : Int32) (v3 : Int32) (μ : Mu) : J X G 6 2 y (emy y) rvI tpT 0 [(0, .ref (G.1 + a)), (1, .int v1), (2, .int v2), (3, .int v3)] [] (μ, y) (Mo_light a v1 v2 v3 μ) := by
  unfold Mo_light
  refine J_aload_n (k0 := 0) (pc := 0) 0 hX (by decide +kernel) rfl rfl ?_
  refine J_iconst (pc := 1) (n := 0) (v := 0) hX (by decide +kernel) (by decide +kernel) ?_
  refine J_pF (pc := 2) hX (by decide +kernel) fl_Mo_131 hL.1 rfl (fun μ1 => ?_)
  refine J_aload_n (k0 := 0) (pc := 5) 0 hX (by decide +kernel) rfl rfl ?_
  refine J_iload_n (k0 := 1) (pc := 6) 1 hX (by decide +kernel) rfl rfl ?_
  refine J_iconst (pc := 7) (n := 1) (v := 1) hX (by decide +kernel) (by decide +kernel) ?_
  refine J_bipush (pc := 8) (n := 60) (v := 60) hX (by decide +kernel) (by decide +kernel) ?_
  refine J_cVi (pc := 10) (idx := 154) [.int v1, .int 1, .int 60] hX (by decide +kernel) (mq mt_6 226 (by decide +kernel)) mv_Mo_isIn hL.1 rfl rfl (Nat.le_of_ble_eq_true rfl) (Nat.le_of_ble_eq_true rfl) (c_Mo_isIn hL v1 1 60 μ1) (fun x3 μ2 => ?_)
  refine J_if_eq (pc := 13) (off := 33) (tgt := 46) hX (by decide +kernel) (by decide +kernel) (fun _ => ?_) (fun _ => ?_)
  · refine J_bipush (pc := 46) (n := -2) (v := (-2)) hX (by decide +kernel) (by decide +kernel) ?_
    exact J_iret (pc := 48) hX (by decide +kernel) rfl trivial
  · refine J_aload_n (k0 := 0) (pc := 16) 0 hX (by decide +kernel) rfl rfl ?_
    refine J_iload_n (k0 := 3) (pc := 17) 3 hX (by decide +kernel) rfl rfl ?_
    refine J_iconst (pc := 18) (n := 0) (v := 0) hX (by decide +kernel) (by decide +kernel) ?_
    refine J_iconst (pc := 19) (n := 2) (v := 2) hX (by decide +kernel) (by decide +kernel) ?_
    refine J_cVi (pc := 20) (idx := 154) [.int v3, .int 0, .int 2] hX (by decide +kernel) (mq mt_6 226 (by decide +kernel)) mv_Mo_isIn hL.1 rfl rfl (Nat.le_of_ble_eq_true rfl) (Nat.le_of_ble_eq_true rfl) (c_Mo_isIn hL v3 0 2 μ2) (fun x5 μ4 => ?_)
    refine J_if_eq (pc := 23) (off := 23) (tgt := 46) hX (by decide +kernel) (by decide +kernel) (fun _ => ?_) (fun _ => ?_)
    · refine J_bipush (pc := 46) (n := -2) (v := (-2)) hX (by decide +kernel) (by decide +kernel) ?_
      exact J_iret (pc := 48) hX (by decide +kernel) rfl trivial
    · refine J_iload_n (k0 := 3) (pc := 26) 3 hX (by decide +kernel) rfl rfl ?_
      refine J_iconst (pc := 27) (n := 2) (v := 2) hX (by decide +kernel) (by decide +kernel) ?_
      refine J_icmp_ge (pc := 28) (off := 21) (tgt := 49) hX (by decide +kernel) (by decide +kernel) (fun _ => ?_) (fun _ => ?_)
      · exact J_sub [0, 1, 2, 3] _ rfl (jMo_light_49 hL hX v1 v2 v3 μ4)
      · refine J_aload_n (k0 := 0) (pc := 31) 0 hX (by decide +kernel) rfl rfl ?_
        refine J_iload_n (k0 := 2) (pc := 32) 2 hX (by decide +kernel) rfl rfl ?_
        refine J_iconst (pc := 33) (n := 0) (v := 0) hX (by decide +kernel) (by decide +kernel) ?_
        refine J_aload_n (k0 := 0) (pc := 34) 0 hX (by decide +kernel) rfl rfl ?_
        refine J_gF (pc := 35) hX (by decide +kernel) fl_Mo_477 hL.1 rfl (fun x6 => ?_)
        refine J_iconst (pc := 38) (n := 1) (v := 1) hX (by decide +kernel) (by decide +kernel) ?_
        refine J_isub (pc := 39) hX (by decide +kernel) ?_
        refine J_cVi (pc := 40) (idx := 154) [.int v2, .int 0, .int (x6 - 1)] hX (by decide +kernel) (mq mt_6 226 (by decide +kernel)) mv_Mo_isIn hL.1 rfl rfl (Nat.le_of_ble_eq_true rfl) (Nat.le_of_ble_eq_true rfl) (c_Mo_isIn hL v2 0 (x6 - 1) μ4) (fun x8 μ7 => ?_)
        refine J_if_ne (pc := 43) (off := 6) (tgt := 49) hX (by decide +kernel) (by decide +kernel) (fun _ => ?_) (fun _ => ?_)
        · exact J_sub [0, 1, 2, 3] _ rfl (jMo_light_49 hL hX v1 v2 v3 μ7)
        · refine J_bipush (pc := 46) (n := -2) (v := (-2)) hX (by decide +kernel) (by decide +kernel) ?_
          exact J_iret (pc := 48) hX (by decide +kernel) rfl trivial
set_option maxRecDepth 100000 in
set_option maxHeartbeats 4000000 in
theorem c_Mo_light {l : Launch} {G : Gx} {y : Ly} {a : Nat} (hL : LyMo y a ) (v1 : Int32) (v2 : Int32) (v3 : Int32) (μ : Mu) : Cn l G ⟨"SaltFiguresModel", "light", "(III)I"⟩ prog_13_method_125_code 6 (some .int) 2 [.ref (G.1 + a), .int v1, .int v2, .int v3] (μ, y) (emy y) rvI tpT (Mo_light a v1 v2 v3 μ) := cn_of (by decide +kernel) (Nat.le_of_ble_eq_true rfl) (fun _ _ _ => ⟨List.prefix_refl _, trivial⟩) (fun X hX _ => jMo_light hL hX v1 v2 v3 μ)

def Mo_look (a : Nat) (v1 : Int32) (μ : Mu) : Option (Int32 × Mu) := pF μ a 0 0 (fun μ1 => (if v1 = 0 then gF μ1 a 6 (fun x21 => some (x21, μ1)) else (if v1 = 1 then cl (Mo_aliveSet a μ1) (fun x20 μ19 => some (x20, μ19)) else (if v1 = 2 then ldA μ1 (a + 1) 118 3 (fun x18 => some (x18, μ1)) else (if v1 = 3 then ldA μ1 (a + 1) 118 4 (fun x17 => some (x17, μ1)) else (if v1 = 4 then ldA μ1 (a + 1) 118 5 (fun x16 => some (x16, μ1)) else (if v1 = 5 then ldA μ1 (a + 1) 118 0 (fun x15 => some (x15, μ1)) else (if v1 = 6 then cl (Mo_tallest a μ1) (fun x14 μ13 => some (x14, μ13)) else (if v1 = 7 then ldA μ1 (a + 1) 118 2 (fun x12 => some (x12, μ1)) else (if v1 = 8 then ldA μ1 (a + 1) 118 1 (fun x11 => some (x11, μ1)) else (if v1 = 9 then ldA μ1 (a + 7) 2 0 (fun x10 => some (x10, μ1)) else (if v1 = 10 then gF μ1 a 31 (fun x9 => some (x9, μ1)) else (if v1 = 11 then gF μ1 a 34 (fun x8 => some (x8, μ1)) else (if v1 = 12 then gF μ1 a 36 (fun x7 => some (x7, μ1)) else (if v1 = 13 then gF μ1 a 3 (fun x6 => some (x6, μ1)) else cl (Mo_isIn a v1 20 35 μ1) (fun x3 μ2 => (if x3 = 0 then some ((-100000), μ2) else cl (Mo_whoHas a (v1 - 20) μ2) (fun x5 μ4 => some (x5, μ4)))))))))))))))))))
set_option maxRecDepth 100000 in
set_option maxHeartbeats 4000000 in
theorem jMo_look {X : Cx} {l : Launch} {G : Gx} {y : Ly} {a : Nat} (hL : LyMo y a ) (hX : Ok X l G prog_13_method_136_code 2 (some .int) "SaltFiguresModel") (v1 : Int32) (μ : Mu) : J X G 2 3 y (emy y) rvI tpT 0 [(0, .ref (G.1 + a)), (1, .int v1)] [] (μ, y) (Mo_look a v1 μ) := by
  unfold Mo_look
  refine J_aload_n (k0 := 0) (pc := 0) 0 hX (by decide +kernel) rfl rfl ?_
  refine J_iconst (pc := 1) (n := 0) (v := 0) hX (by decide +kernel) (by decide +kernel) ?_
  refine J_pF (pc := 2) hX (by decide +kernel) fl_Mo_131 hL.1 rfl (fun μ1 => ?_)
  refine J_iload_n (k0 := 1) (pc := 5) 1 hX (by decide +kernel) rfl rfl ?_
  refine J_if_ne (pc := 6) (off := 8) (tgt := 14) hX (by decide +kernel) (by decide +kernel) (fun _ => ?_) (fun _ => ?_)
  · refine J_iload_n (k0 := 1) (pc := 14) 1 hX (by decide +kernel) rfl rfl ?_
    refine J_iconst (pc := 15) (n := 1) (v := 1) hX (by decide +kernel) (by decide +kernel) ?_
    refine J_icmp_ne (pc := 16) (off := 8) (tgt := 24) hX (by decide +kernel) (by decide +kernel) (fun _ => ?_) (fun _ => ?_)
    · refine J_iload_n (k0 := 1) (pc := 24) 1 hX (by decide +kernel) rfl rfl ?_
      refine J_iconst (pc := 25) (n := 2) (v := 2) hX (by decide +kernel) (by decide +kernel) ?_
      refine J_icmp_ne (pc := 26) (off := 10) (tgt := 36) hX (by decide +kernel) (by decide +kernel) (fun _ => ?_) (fun _ => ?_)
      · refine J_iload_n (k0 := 1) (pc := 36) 1 hX (by decide +kernel) rfl rfl ?_
        refine J_iconst (pc := 37) (n := 3) (v := 3) hX (by decide +kernel) (by decide +kernel) ?_
        refine J_icmp_ne (pc := 38) (off := 10) (tgt := 48) hX (by decide +kernel) (by decide +kernel) (fun _ => ?_) (fun _ => ?_)
        · refine J_iload_n (k0 := 1) (pc := 48) 1 hX (by decide +kernel) rfl rfl ?_
          refine J_iconst (pc := 49) (n := 4) (v := 4) hX (by decide +kernel) (by decide +kernel) ?_
          refine J_icmp_ne (pc := 50) (off := 10) (tgt := 60) hX (by decide +kernel) (by decide +kernel) (fun _ => ?_) (fun _ => ?_)
          · refine J_iload_n (k0 := 1) (pc := 60) 1 hX (by decide +kernel) rfl rfl ?_
            refine J_iconst (pc := 61) (n := 5) (v := 5) hX (by decide +kernel) (by decide +kernel) ?_
            refine J_icmp_ne (pc := 62) (off := 10) (tgt := 72) hX (by decide +kernel) (by decide +kernel) (fun _ => ?_) (fun _ => ?_)
            · refine J_iload_n (k0 := 1) (pc := 72) 1 hX (by decide +kernel) rfl rfl ?_
              refine J_bipush (pc := 73) (n := 6) (v := 6) hX (by decide +kernel) (by decide +kernel) ?_
              refine J_icmp_ne (pc := 75) (off := 8) (tgt := 83) hX (by decide +kernel) (by decide +kernel) (fun _ => ?_) (fun _ => ?_)
              · refine J_iload_n (k0 := 1) (pc := 83) 1 hX (by decide +kernel) rfl rfl ?_
                refine J_bipush (pc := 84) (n := 7) (v := 7) hX (by decide +kernel) (by decide +kernel) ?_
                refine J_icmp_ne (pc := 86) (off := 10) (tgt := 96) hX (by decide +kernel) (by decide +kernel) (fun _ => ?_) (fun _ => ?_)
                · refine J_iload_n (k0 := 1) (pc := 96) 1 hX (by decide +kernel) rfl rfl ?_
                  refine J_bipush (pc := 97) (n := 8) (v := 8) hX (by decide +kernel) (by decide +kernel) ?_
                  refine J_icmp_ne (pc := 99) (off := 10) (tgt := 109) hX (by decide +kernel) (by decide +kernel) (fun _ => ?_) (fun _ => ?_)
                  · refine J_iload_n (k0 := 1) (pc := 109) 1 hX (by decide +kernel) rfl rfl ?_
                    refine J_bipush (pc := 110) (n := 9) (v := 9) hX (by decide +kernel) (by decide +kernel) ?_
                    refine J_icmp_ne (pc := 112) (off := 10) (tgt := 122) hX (by decide +kernel) (by decide +kernel) (fun _ => ?_) (fun _ => ?_)
                    · refine J_iload_n (k0 := 1) (pc := 122) 1 hX (by decide +kernel) rfl rfl ?_
                      refine J_bipush (pc := 123) (n := 10) (v := 10) hX (by decide +kernel) (by decide +kernel) ?_
                      refine J_icmp_ne (pc := 125) (off := 8) (tgt := 133) hX (by decide +kernel) (by decide +kernel) (fun _ => ?_) (fun _ => ?_)
                      · refine J_iload_n (k0 := 1) (pc := 133) 1 hX (by decide +kernel) rfl rfl ?_
                        refine J_bipush (pc := 134) (n := 11) (v := 11) hX (by decide +kernel) (by decide +kernel) ?_
                        refine J_icmp_ne (pc := 136) (off := 8) (tgt := 144) hX (by decide +kernel) (by decide +kernel) (fun _ => ?_) (fun _ => ?_)
                        · refine J_iload_n (k0 := 1) (pc := 144) 1 hX (by decide +kernel) rfl rfl ?_
                          refine J_bipush (pc := 145) (n := 12) (v := 12) hX (by decide +kernel) (by decide +kernel) ?_
                          refine J_icmp_ne (pc := 147) (off := 8) (tgt := 155) hX (by decide +kernel) (by decide +kernel) (fun _ => ?_) (fun _ => ?_)
                          · refine J_iload_n (k0 := 1) (pc := 155) 1 hX (by decide +kernel) rfl rfl ?_
                            refine J_bipush (pc := 156) (n := 13) (v := 13) hX (by decide +kernel) (by decide +kernel) ?_
                            refine J_icmp_ne (pc := 158) (off := 8) (tgt := 166) hX (by decide +kernel) (by decide +kernel) (fun _ => ?_) (fun _ => ?_)
                            · refine J_aload_n (k0 := 0) (pc := 166) 0 hX (by decide +kernel) rfl rfl ?_
                              refine J_iload_n (k0 := 1) (pc := 167) 1 hX (by decide +kernel) rfl rfl ?_
                              refine J_bipush (pc := 168) (n := 20) (v := 20) hX (by decide +kernel) (by decide +kernel) ?_
                              refine J_bipush (pc := 170) (n := 35) (v := 35) hX (by decide +kernel) (by decide +kernel) ?_
                              refine J_cVi (pc := 172) (idx := 154) [.int v1, .int 20, .int 35] hX (by decide +kernel) (mq mt_6 226 (by decide +kernel)) mv_Mo_isIn hL.1 rfl rfl (Nat.le_of_ble_eq_true rfl) (Nat.le_of_ble_eq_true rfl) (c_Mo_isIn hL v1 20 35 μ1) (fun x3 μ2 => ?_)
                              refine J_if_eq (pc := 175) (off := 14) (tgt := 189) hX (by decide +kernel) (by decide +kernel) (fun _ => ?_) (fun _ => ?_)
                              · refine J_ldcw (pc := 189) (idx := 513) (v := (-100000)) hX (by decide +kernel) (mq mt_9 29 (by decide +kernel)) ?_
                                exact J_iret (pc := 192) hX (by decide +kernel) rfl trivial
                              · refine J_aload_n (k0 := 0) (pc := 178) 0 hX (by decide +kernel) rfl rfl ?_
                                refine J_iload_n (k0 := 1) (pc := 179) 1 hX (by decide +kernel) rfl rfl ?_
                                refine J_bipush (pc := 180) (n := 20) (v := 20) hX (by decide +kernel) (by decide +kernel) ?_
                                refine J_isub (pc := 182) hX (by decide +kernel) ?_
                                refine J_cVi (pc := 183) (idx := 151) [.int (v1 - 20)] hX (by decide +kernel) (mq mt_7 150 (by decide +kernel)) mv_Mo_whoHas hL.1 rfl rfl (Nat.le_of_ble_eq_true rfl) (Nat.le_of_ble_eq_true rfl) (c_Mo_whoHas hL (v1 - 20) μ2) (fun x5 μ4 => ?_)
                                refine J_goto (pc := 186) (off := 6) (tgt := 192) hX (by decide +kernel) (by decide +kernel) ?_
                                exact J_iret (pc := 192) hX (by decide +kernel) rfl trivial
                            · refine J_aload_n (k0 := 0) (pc := 161) 0 hX (by decide +kernel) rfl rfl ?_
                              refine J_gF (pc := 162) hX (by decide +kernel) fl_Mo_135 hL.1 rfl (fun x6 => ?_)
                              exact J_iret (pc := 165) hX (by decide +kernel) rfl trivial
                          · refine J_aload_n (k0 := 0) (pc := 150) 0 hX (by decide +kernel) rfl rfl ?_
                            refine J_gF (pc := 151) hX (by decide +kernel) fl_Mo_297 hL.1 rfl (fun x7 => ?_)
                            exact J_iret (pc := 154) hX (by decide +kernel) rfl trivial
                        · refine J_aload_n (k0 := 0) (pc := 139) 0 hX (by decide +kernel) rfl rfl ?_
                          refine J_gF (pc := 140) hX (by decide +kernel) fl_Mo_303 hL.1 rfl (fun x8 => ?_)
                          exact J_iret (pc := 143) hX (by decide +kernel) rfl trivial
                      · refine J_aload_n (k0 := 0) (pc := 128) 0 hX (by decide +kernel) rfl rfl ?_
                        refine J_gF (pc := 129) hX (by decide +kernel) fl_Mo_294 hL.1 rfl (fun x9 => ?_)
                        exact J_iret (pc := 132) hX (by decide +kernel) rfl trivial
                    · refine J_aload_n (k0 := 0) (pc := 115) 0 hX (by decide +kernel) rfl rfl ?_
                      refine J_gr (pc := 116) hX (by decide +kernel) fl_Mo_28 hL.1 rfl hL.2.2.2.2.2.2.2.1.1 ?_
                      refine J_iconst (pc := 119) (n := 0) (v := 0) hX (by decide +kernel) (by decide +kernel) ?_
                      refine J_ldA (pc := 120) hX (by decide +kernel) hL.2.2.2.2.2.2.2.1.2 (fun x10 => ?_)
                      exact J_iret (pc := 121) hX (by decide +kernel) rfl trivial
                  · refine J_aload_n (k0 := 0) (pc := 102) 0 hX (by decide +kernel) rfl rfl ?_
                    refine J_gr (pc := 103) hX (by decide +kernel) fl_Mo_7 hL.1 rfl hL.2.1.1 ?_
                    refine J_iconst (pc := 106) (n := 1) (v := 1) hX (by decide +kernel) (by decide +kernel) ?_
                    refine J_ldA (pc := 107) hX (by decide +kernel) hL.2.1.2 (fun x11 => ?_)
                    exact J_iret (pc := 108) hX (by decide +kernel) rfl trivial
                · refine J_aload_n (k0 := 0) (pc := 89) 0 hX (by decide +kernel) rfl rfl ?_
                  refine J_gr (pc := 90) hX (by decide +kernel) fl_Mo_7 hL.1 rfl hL.2.1.1 ?_
                  refine J_iconst (pc := 93) (n := 2) (v := 2) hX (by decide +kernel) (by decide +kernel) ?_
                  refine J_ldA (pc := 94) hX (by decide +kernel) hL.2.1.2 (fun x12 => ?_)
                  exact J_iret (pc := 95) hX (by decide +kernel) rfl trivial
              · refine J_aload_n (k0 := 0) (pc := 78) 0 hX (by decide +kernel) rfl rfl ?_
                refine J_cVi (pc := 79) (idx := 373) [] hX (by decide +kernel) (mq mt_8 10 (by decide +kernel)) mv_Mo_tallest hL.1 rfl rfl (Nat.le_of_ble_eq_true rfl) (Nat.le_of_ble_eq_true rfl) (c_Mo_tallest hL μ1) (fun x14 μ13 => ?_)
                exact J_iret (pc := 82) hX (by decide +kernel) rfl trivial
            · refine J_aload_n (k0 := 0) (pc := 65) 0 hX (by decide +kernel) rfl rfl ?_
              refine J_gr (pc := 66) hX (by decide +kernel) fl_Mo_7 hL.1 rfl hL.2.1.1 ?_
              refine J_iconst (pc := 69) (n := 0) (v := 0) hX (by decide +kernel) (by decide +kernel) ?_
              refine J_ldA (pc := 70) hX (by decide +kernel) hL.2.1.2 (fun x15 => ?_)
              exact J_iret (pc := 71) hX (by decide +kernel) rfl trivial
          · refine J_aload_n (k0 := 0) (pc := 53) 0 hX (by decide +kernel) rfl rfl ?_
            refine J_gr (pc := 54) hX (by decide +kernel) fl_Mo_7 hL.1 rfl hL.2.1.1 ?_
            refine J_iconst (pc := 57) (n := 5) (v := 5) hX (by decide +kernel) (by decide +kernel) ?_
            refine J_ldA (pc := 58) hX (by decide +kernel) hL.2.1.2 (fun x16 => ?_)
            exact J_iret (pc := 59) hX (by decide +kernel) rfl trivial
        · refine J_aload_n (k0 := 0) (pc := 41) 0 hX (by decide +kernel) rfl rfl ?_
          refine J_gr (pc := 42) hX (by decide +kernel) fl_Mo_7 hL.1 rfl hL.2.1.1 ?_
          refine J_iconst (pc := 45) (n := 4) (v := 4) hX (by decide +kernel) (by decide +kernel) ?_
          refine J_ldA (pc := 46) hX (by decide +kernel) hL.2.1.2 (fun x17 => ?_)
          exact J_iret (pc := 47) hX (by decide +kernel) rfl trivial
      · refine J_aload_n (k0 := 0) (pc := 29) 0 hX (by decide +kernel) rfl rfl ?_
        refine J_gr (pc := 30) hX (by decide +kernel) fl_Mo_7 hL.1 rfl hL.2.1.1 ?_
        refine J_iconst (pc := 33) (n := 3) (v := 3) hX (by decide +kernel) (by decide +kernel) ?_
        refine J_ldA (pc := 34) hX (by decide +kernel) hL.2.1.2 (fun x18 => ?_)
        exact J_iret (pc := 35) hX (by decide +kernel) rfl trivial
    · refine J_aload_n (k0 := 0) (pc := 19) 0 hX (by decide +kernel) rfl rfl ?_
      refine J_cVi (pc := 20) (idx := 510) [] hX (by decide +kernel) (mq mt_9 25 (by decide +kernel)) mv_Mo_aliveSet hL.1 rfl rfl (Nat.le_of_ble_eq_true rfl) (Nat.le_of_ble_eq_true rfl) (c_Mo_aliveSet hL μ1) (fun x20 μ19 => ?_)
      exact J_iret (pc := 23) hX (by decide +kernel) rfl trivial
  · refine J_aload_n (k0 := 0) (pc := 9) 0 hX (by decide +kernel) rfl rfl ?_
    refine J_gF (pc := 10) hX (by decide +kernel) fl_Mo_144 hL.1 rfl (fun x21 => ?_)
    exact J_iret (pc := 13) hX (by decide +kernel) rfl trivial
set_option maxRecDepth 100000 in
set_option maxHeartbeats 4000000 in
theorem c_Mo_look {l : Launch} {G : Gx} {y : Ly} {a : Nat} (hL : LyMo y a ) (v1 : Int32) (μ : Mu) : Cn l G ⟨"SaltFiguresModel", "look", "(I)I"⟩ prog_13_method_136_code 2 (some .int) 3 [.ref (G.1 + a), .int v1] (μ, y) (emy y) rvI tpT (Mo_look a v1 μ) := cn_of (by decide +kernel) (Nat.le_of_ble_eq_true rfl) (fun _ _ _ => ⟨List.prefix_refl _, trivial⟩) (fun X hX _ => jMo_look hL hX v1 μ)

def Mo_of (a : Nat) (v1 : Int32) (v2 : Int32) (μ : Mu) : Option (Int32 × Mu) := pF μ a 0 0 (fun μ1 => cl (Mo_isPerson a v1 μ1) (fun x3 μ2 => (if x3 = 0 then some ((-2), μ2) else cl (Mo_isIn a v2 0 4 μ2) (fun x5 μ4 => (if x5 = 0 then (if v2 = 5 then ldA μ4 (a + 1) 118 (86 + v1) (fun x15 => some (1 - x15, μ4)) else (if v2 = 6 then cl (Mo_seatOf a v1 μ4) (fun x14 μ13 => some (x14, μ13)) else (if v2 = 7 then cl (Mo_spillsOf a v1 μ4) (fun x12 μ11 => some (x12, μ11)) else (if v2 = 8 then cl (Mo_throwsOf a v1 μ4) (fun x10 μ9 => some (x10, μ9)) else (if v2 = 9 then cl (Mo_runsOf a v1 μ4) (fun x8 μ7 => some (x8, μ7)) else (if v2 = 10 then ldA μ4 (a + 18) 32 v1 (fun x6 => some (x6 - 1, μ4)) else some ((-2), μ4))))))) else ldA μ4 (a + 1) 118 ((6 + (16 * v2)) + v1) (fun x16 => some (x16, μ4)))))))
set_option maxRecDepth 100000 in
set_option maxHeartbeats 4000000 in
theorem jMo_of {X : Cx} {l : Launch} {G : Gx} {y : Ly} {a : Nat} (hL : LyMo y a ) (hX : Ok X l G prog_13_method_85_code 3 (some .int) "SaltFiguresModel") (v1 : Int32) (v2 : Int32) (μ : Mu) : J X G 3 6 y (emy y) rvI tpT 0 [(0, .ref (G.1 + a)), (1, .int v1), (2, .int v2)] [] (μ, y) (Mo_of a v1 v2 μ) := by
  unfold Mo_of
  refine J_aload_n (k0 := 0) (pc := 0) 0 hX (by decide +kernel) rfl rfl ?_
  refine J_iconst (pc := 1) (n := 0) (v := 0) hX (by decide +kernel) (by decide +kernel) ?_
  refine J_pF (pc := 2) hX (by decide +kernel) fl_Mo_131 hL.1 rfl (fun μ1 => ?_)
  refine J_aload_n (k0 := 0) (pc := 5) 0 hX (by decide +kernel) rfl rfl ?_
  refine J_iload_n (k0 := 1) (pc := 6) 1 hX (by decide +kernel) rfl rfl ?_
  refine J_cVi (pc := 7) (idx := 158) [.int v1] hX (by decide +kernel) (mq mt_6 234 (by decide +kernel)) mv_Mo_isPerson hL.1 rfl rfl (Nat.le_of_ble_eq_true rfl) (Nat.le_of_ble_eq_true rfl) (c_Mo_isPerson hL v1 μ1) (fun x3 μ2 => ?_)
  refine J_if_ne (pc := 10) (off := 6) (tgt := 16) hX (by decide +kernel) (by decide +kernel) (fun _ => ?_) (fun _ => ?_)
  · refine J_aload_n (k0 := 0) (pc := 16) 0 hX (by decide +kernel) rfl rfl ?_
    refine J_iload_n (k0 := 2) (pc := 17) 2 hX (by decide +kernel) rfl rfl ?_
    refine J_iconst (pc := 18) (n := 0) (v := 0) hX (by decide +kernel) (by decide +kernel) ?_
    refine J_iconst (pc := 19) (n := 4) (v := 4) hX (by decide +kernel) (by decide +kernel) ?_
    refine J_cVi (pc := 20) (idx := 154) [.int v2, .int 0, .int 4] hX (by decide +kernel) (mq mt_6 226 (by decide +kernel)) mv_Mo_isIn hL.1 rfl rfl (Nat.le_of_ble_eq_true rfl) (Nat.le_of_ble_eq_true rfl) (c_Mo_isIn hL v2 0 4 μ2) (fun x5 μ4 => ?_)
    refine J_if_eq (pc := 23) (off := 18) (tgt := 41) hX (by decide +kernel) (by decide +kernel) (fun _ => ?_) (fun _ => ?_)
    · refine J_iload_n (k0 := 2) (pc := 41) 2 hX (by decide +kernel) rfl rfl ?_
      refine J_iconst (pc := 42) (n := 5) (v := 5) hX (by decide +kernel) (by decide +kernel) ?_
      refine J_icmp_ne (pc := 43) (off := 15) (tgt := 58) hX (by decide +kernel) (by decide +kernel) (fun _ => ?_) (fun _ => ?_)
      · refine J_iload_n (k0 := 2) (pc := 58) 2 hX (by decide +kernel) rfl rfl ?_
        refine J_bipush (pc := 59) (n := 6) (v := 6) hX (by decide +kernel) (by decide +kernel) ?_
        refine J_icmp_ne (pc := 61) (off := 9) (tgt := 70) hX (by decide +kernel) (by decide +kernel) (fun _ => ?_) (fun _ => ?_)
        · refine J_iload_n (k0 := 2) (pc := 70) 2 hX (by decide +kernel) rfl rfl ?_
          refine J_bipush (pc := 71) (n := 7) (v := 7) hX (by decide +kernel) (by decide +kernel) ?_
          refine J_icmp_ne (pc := 73) (off := 9) (tgt := 82) hX (by decide +kernel) (by decide +kernel) (fun _ => ?_) (fun _ => ?_)
          · refine J_iload_n (k0 := 2) (pc := 82) 2 hX (by decide +kernel) rfl rfl ?_
            refine J_bipush (pc := 83) (n := 8) (v := 8) hX (by decide +kernel) (by decide +kernel) ?_
            refine J_icmp_ne (pc := 85) (off := 11) (tgt := 96) hX (by decide +kernel) (by decide +kernel) (fun _ => ?_) (fun _ => ?_)
            · refine J_iload_n (k0 := 2) (pc := 96) 2 hX (by decide +kernel) rfl rfl ?_
              refine J_bipush (pc := 97) (n := 9) (v := 9) hX (by decide +kernel) (by decide +kernel) ?_
              refine J_icmp_ne (pc := 99) (off := 11) (tgt := 110) hX (by decide +kernel) (by decide +kernel) (fun _ => ?_) (fun _ => ?_)
              · refine J_iload_n (k0 := 2) (pc := 110) 2 hX (by decide +kernel) rfl rfl ?_
                refine J_bipush (pc := 111) (n := 10) (v := 10) hX (by decide +kernel) (by decide +kernel) ?_
                refine J_icmp_ne (pc := 113) (off := 14) (tgt := 127) hX (by decide +kernel) (by decide +kernel) (fun _ => ?_) (fun _ => ?_)
                · refine J_bipush (pc := 127) (n := -2) (v := (-2)) hX (by decide +kernel) (by decide +kernel) ?_
                  exact J_iret (pc := 129) hX (by decide +kernel) rfl trivial
                · refine J_aload_n (k0 := 0) (pc := 116) 0 hX (by decide +kernel) rfl rfl ?_
                  refine J_gr (pc := 117) hX (by decide +kernel) fl_Mo_65 hL.1 rfl hL.2.2.2.2.2.2.2.2.2.2.2.2.2.2.2.2.2.2.1.1 ?_
                  refine J_iload_n (k0 := 1) (pc := 120) 1 hX (by decide +kernel) rfl rfl ?_
                  refine J_ldA (pc := 121) hX (by decide +kernel) hL.2.2.2.2.2.2.2.2.2.2.2.2.2.2.2.2.2.2.1.2 (fun x6 => ?_)
                  refine J_iconst (pc := 122) (n := 1) (v := 1) hX (by decide +kernel) (by decide +kernel) ?_
                  refine J_isub (pc := 123) hX (by decide +kernel) ?_
                  refine J_goto (pc := 124) (off := 5) (tgt := 129) hX (by decide +kernel) (by decide +kernel) ?_
                  exact J_iret (pc := 129) hX (by decide +kernel) rfl trivial
              · refine J_aload_n (k0 := 0) (pc := 102) 0 hX (by decide +kernel) rfl rfl ?_
                refine J_iload_n (k0 := 1) (pc := 103) 1 hX (by decide +kernel) rfl rfl ?_
                refine J_cVi (pc := 104) (idx := 382) [.int v1] hX (by decide +kernel) (mq mt_8 36 (by decide +kernel)) mv_Mo_runsOf hL.1 rfl rfl (Nat.le_of_ble_eq_true rfl) (Nat.le_of_ble_eq_true rfl) (c_Mo_runsOf hL v1 μ4) (fun x8 μ7 => ?_)
                refine J_goto (pc := 107) (off := 22) (tgt := 129) hX (by decide +kernel) (by decide +kernel) ?_
                exact J_iret (pc := 129) hX (by decide +kernel) rfl trivial
            · refine J_aload_n (k0 := 0) (pc := 88) 0 hX (by decide +kernel) rfl rfl ?_
              refine J_iload_n (k0 := 1) (pc := 89) 1 hX (by decide +kernel) rfl rfl ?_
              refine J_cVi (pc := 90) (idx := 345) [.int v1] hX (by decide +kernel) (mq mt_7 178 (by decide +kernel)) mv_Mo_throwsOf hL.1 rfl rfl (Nat.le_of_ble_eq_true rfl) (Nat.le_of_ble_eq_true rfl) (c_Mo_throwsOf hL v1 μ4) (fun x10 μ9 => ?_)
              refine J_goto (pc := 93) (off := 36) (tgt := 129) hX (by decide +kernel) (by decide +kernel) ?_
              exact J_iret (pc := 129) hX (by decide +kernel) rfl trivial
          · refine J_aload_n (k0 := 0) (pc := 76) 0 hX (by decide +kernel) rfl rfl ?_
            refine J_iload_n (k0 := 1) (pc := 77) 1 hX (by decide +kernel) rfl rfl ?_
            refine J_cVi (pc := 78) (idx := 388) [.int v1] hX (by decide +kernel) (mq mt_8 18 (by decide +kernel)) mv_Mo_spillsOf hL.1 rfl rfl (Nat.le_of_ble_eq_true rfl) (Nat.le_of_ble_eq_true rfl) (c_Mo_spillsOf hL v1 μ4) (fun x12 μ11 => ?_)
            exact J_iret (pc := 81) hX (by decide +kernel) rfl trivial
        · refine J_aload_n (k0 := 0) (pc := 64) 0 hX (by decide +kernel) rfl rfl ?_
          refine J_iload_n (k0 := 1) (pc := 65) 1 hX (by decide +kernel) rfl rfl ?_
          refine J_cVi (pc := 66) (idx := 147) [.int v1] hX (by decide +kernel) (mq mt_7 154 (by decide +kernel)) mv_Mo_seatOf hL.1 rfl rfl (Nat.le_of_ble_eq_true rfl) (Nat.le_of_ble_eq_true rfl) (c_Mo_seatOf hL v1 μ4) (fun x14 μ13 => ?_)
          exact J_iret (pc := 69) hX (by decide +kernel) rfl trivial
      · refine J_iconst (pc := 46) (n := 1) (v := 1) hX (by decide +kernel) (by decide +kernel) ?_
        refine J_aload_n (k0 := 0) (pc := 47) 0 hX (by decide +kernel) rfl rfl ?_
        refine J_gr (pc := 48) hX (by decide +kernel) fl_Mo_7 hL.1 rfl hL.2.1.1 ?_
        refine J_bipush (pc := 51) (n := 86) (v := 86) hX (by decide +kernel) (by decide +kernel) ?_
        refine J_iload_n (k0 := 1) (pc := 53) 1 hX (by decide +kernel) rfl rfl ?_
        refine J_iadd (pc := 54) hX (by decide +kernel) ?_
        refine J_ldA (pc := 55) hX (by decide +kernel) hL.2.1.2 (fun x15 => ?_)
        refine J_isub (pc := 56) hX (by decide +kernel) ?_
        exact J_iret (pc := 57) hX (by decide +kernel) rfl trivial
    · refine J_aload_n (k0 := 0) (pc := 26) 0 hX (by decide +kernel) rfl rfl ?_
      refine J_gr (pc := 27) hX (by decide +kernel) fl_Mo_7 hL.1 rfl hL.2.1.1 ?_
      refine J_bipush (pc := 30) (n := 6) (v := 6) hX (by decide +kernel) (by decide +kernel) ?_
      refine J_bipush (pc := 32) (n := 16) (v := 16) hX (by decide +kernel) (by decide +kernel) ?_
      refine J_iload_n (k0 := 2) (pc := 34) 2 hX (by decide +kernel) rfl rfl ?_
      refine J_imul (pc := 35) hX (by decide +kernel) ?_
      refine J_iadd (pc := 36) hX (by decide +kernel) ?_
      refine J_iload_n (k0 := 1) (pc := 37) 1 hX (by decide +kernel) rfl rfl ?_
      refine J_iadd (pc := 38) hX (by decide +kernel) ?_
      refine J_ldA (pc := 39) hX (by decide +kernel) hL.2.1.2 (fun x16 => ?_)
      exact J_iret (pc := 40) hX (by decide +kernel) rfl trivial
  · refine J_bipush (pc := 13) (n := -2) (v := (-2)) hX (by decide +kernel) (by decide +kernel) ?_
    exact J_iret (pc := 15) hX (by decide +kernel) rfl trivial
set_option maxRecDepth 100000 in
set_option maxHeartbeats 4000000 in
theorem c_Mo_of {l : Launch} {G : Gx} {y : Ly} {a : Nat} (hL : LyMo y a ) (v1 : Int32) (v2 : Int32) (μ : Mu) : Cn l G ⟨"SaltFiguresModel", "of", "(II)I"⟩ prog_13_method_85_code 3 (some .int) 6 [.ref (G.1 + a), .int v1, .int v2] (μ, y) (emy y) rvI tpT (Mo_of a v1 v2 μ) := cn_of (by decide +kernel) (Nat.le_of_ble_eq_true rfl) (fun _ _ _ => ⟨List.prefix_refl _, trivial⟩) (fun X hX _ => jMo_of hL hX v1 v2 μ)

def Mo_person_30b (a : Nat)  (kb30 : Int32 → Mu → Option (Int32 × Mu)) (v1 : Int32) (v2 : Int32)  (μ : Mu) : Option (Int32 × Mu) := (if 118 ≤ v2 then gF μ a 6 (fun x1 => stA μ (a + 1) 118 (6 + x1) v1 (fun μ2 => gF μ2 a 6 (fun x3 => pF μ2 a 6 (x3 + 1) (fun μ4 => pF μ4 a 3 0 (fun μ5 => gF μ5 a 6 (fun x6 => some (x6 - 1, μ5))))))) else gF μ a 6 (fun x7 => stA μ (a + 1) 118 (v2 + x7) 0 (fun μ8 => kb30 (v2 + 16) μ8)))
def Mo_person_30 (a : Nat)  (v1 : Int32) (fu : Nat) : Int32 → Mu → Option (Int32 × Mu) := lp (fun kb => Mo_person_30b a  kb v1) (fun _ _ => none) fu
def Mo_person (a : Nat) (v1 : Int32) (μ : Mu) : Option (Int32 × Mu) := pF μ a 0 0 (fun μ1 => cl (Mo_isIn a v1 0 9 μ1) (fun x3 μ2 => (if x3 = 0 then some ((-1), μ2) else gF μ2 a 6 (fun x4 => (if x4 = 16 then some ((-1), μ2) else Mo_person_30 a v1 FU 6 μ2)))))
set_option maxRecDepth 100000 in
set_option maxHeartbeats 4000000 in
theorem jMo_person_30b {X : Cx} {l : Launch} {G : Gx} {y : Ly} {a : Nat} (hL : LyMo y a ) (hX : Ok X l G prog_13_method_21_code 3 (some .int) "SaltFiguresModel") (v1 : Int32)  {kb30 : Int32 → Mu → Option (Int32 × Mu)}  (hk30 : ∀ (v2 : Int32) (μ : Mu), J X G 3 2 y (emy y) rvI tpT 30 [(0, .ref (G.1 + a)), (1, .int v1), (2, .int v2)] [] (μ, y) (kb30 v2 μ)) (v2 : Int32)  (μ : Mu) : J X G 3 2 y (emy y) rvI tpT 30 [(0, .ref (G.1 + a)), (1, .int v1), (2, .int v2)] [] (μ, y) (Mo_person_30b a  kb30 v1 v2  μ) := by
  unfold Mo_person_30b
  refine J_iload_n (k0 := 2) (pc := 30) 2 hX (by decide +kernel) rfl rfl ?_
  refine J_bipush (pc := 31) (n := 118) (v := 118) hX (by decide +kernel) (by decide +kernel) ?_
  refine J_icmp_ge (pc := 33) (off := 23) (tgt := 56) hX (by decide +kernel) (by decide +kernel) (fun _ => ?_) (fun _ => ?_)
  · refine J_aload_n (k0 := 0) (pc := 56) 0 hX (by decide +kernel) rfl rfl ?_
    refine J_gr (pc := 57) hX (by decide +kernel) fl_Mo_7 hL.1 rfl hL.2.1.1 ?_
    refine J_bipush (pc := 60) (n := 6) (v := 6) hX (by decide +kernel) (by decide +kernel) ?_
    refine J_aload_n (k0 := 0) (pc := 62) 0 hX (by decide +kernel) rfl rfl ?_
    refine J_gF (pc := 63) hX (by decide +kernel) fl_Mo_144 hL.1 rfl (fun x1 => ?_)
    refine J_iadd (pc := 66) hX (by decide +kernel) ?_
    refine J_iload_n (k0 := 1) (pc := 67) 1 hX (by decide +kernel) rfl rfl ?_
    refine J_stA (pc := 68) hX (by decide +kernel) hL.2.1.2 (fun μ2 => ?_)
    refine J_aload_n (k0 := 0) (pc := 69) 0 hX (by decide +kernel) rfl rfl ?_
    refine J_aload_n (k0 := 0) (pc := 70) 0 hX (by decide +kernel) rfl rfl ?_
    refine J_gF (pc := 71) hX (by decide +kernel) fl_Mo_144 hL.1 rfl (fun x3 => ?_)
    refine J_iconst (pc := 74) (n := 1) (v := 1) hX (by decide +kernel) (by decide +kernel) ?_
    refine J_iadd (pc := 75) hX (by decide +kernel) ?_
    refine J_pF (pc := 76) hX (by decide +kernel) fl_Mo_144 hL.1 rfl (fun μ4 => ?_)
    refine J_aload_n (k0 := 0) (pc := 79) 0 hX (by decide +kernel) rfl rfl ?_
    refine J_iconst (pc := 80) (n := 0) (v := 0) hX (by decide +kernel) (by decide +kernel) ?_
    refine J_pF (pc := 81) hX (by decide +kernel) fl_Mo_135 hL.1 rfl (fun μ5 => ?_)
    refine J_aload_n (k0 := 0) (pc := 84) 0 hX (by decide +kernel) rfl rfl ?_
    refine J_gF (pc := 85) hX (by decide +kernel) fl_Mo_144 hL.1 rfl (fun x6 => ?_)
    refine J_iconst (pc := 88) (n := 1) (v := 1) hX (by decide +kernel) (by decide +kernel) ?_
    refine J_isub (pc := 89) hX (by decide +kernel) ?_
    exact J_iret (pc := 90) hX (by decide +kernel) rfl trivial
  · refine J_aload_n (k0 := 0) (pc := 36) 0 hX (by decide +kernel) rfl rfl ?_
    refine J_gr (pc := 37) hX (by decide +kernel) fl_Mo_7 hL.1 rfl hL.2.1.1 ?_
    refine J_iload_n (k0 := 2) (pc := 40) 2 hX (by decide +kernel) rfl rfl ?_
    refine J_aload_n (k0 := 0) (pc := 41) 0 hX (by decide +kernel) rfl rfl ?_
    refine J_gF (pc := 42) hX (by decide +kernel) fl_Mo_144 hL.1 rfl (fun x7 => ?_)
    refine J_iadd (pc := 45) hX (by decide +kernel) ?_
    refine J_iconst (pc := 46) (n := 0) (v := 0) hX (by decide +kernel) (by decide +kernel) ?_
    refine J_stA (pc := 47) hX (by decide +kernel) hL.2.1.2 (fun μ8 => ?_)
    refine J_iload_n (k0 := 2) (pc := 48) 2 hX (by decide +kernel) rfl rfl ?_
    refine J_bipush (pc := 49) (n := 16) (v := 16) hX (by decide +kernel) (by decide +kernel) ?_
    refine J_iadd (pc := 51) hX (by decide +kernel) ?_
    refine J_istore_n (k0 := 2) (pc := 52) [(2, .int (v2 + 16)), (0, .ref (G.1 + a)), (1, .int v1)] hX (by decide +kernel) rfl (by decide) rfl ?_
    refine J_goto (pc := 53) (off := -23) (tgt := 30) hX (by decide +kernel) (by decide +kernel) ?_
    exact J_sub [1, 2, 0] _ rfl (hk30 (v2 + 16) μ8)
set_option maxRecDepth 100000 in
set_option maxHeartbeats 4000000 in
theorem jMo_person_30 {X : Cx} {l : Launch} {G : Gx} {y : Ly} {a : Nat} (hL : LyMo y a ) (hX : Ok X l G prog_13_method_21_code 3 (some .int) "SaltFiguresModel") (v1 : Int32)   : ∀ (fu : Nat) (v2 : Int32) (μ : Mu), J X G 3 2 y (emy y) rvI tpT 30 [(0, .ref (G.1 + a)), (1, .int v1), (2, .int v2)] [] (μ, y) (Mo_person_30 a  v1 fu v2 μ) := by
  intro fu
  induction fu with
  | zero => intros; exact J_none
  | succ fu ih => intro v2 μ; exact jMo_person_30b hL hX v1  ih v2 μ
set_option maxRecDepth 100000 in
set_option maxHeartbeats 4000000 in
theorem jMo_person {X : Cx} {l : Launch} {G : Gx} {y : Ly} {a : Nat} (hL : LyMo y a ) (hX : Ok X l G prog_13_method_21_code 3 (some .int) "SaltFiguresModel") (v1 : Int32) (μ : Mu) : J X G 3 2 y (emy y) rvI tpT 0 [(0, .ref (G.1 + a)), (1, .int v1)] [] (μ, y) (Mo_person a v1 μ) := by
  unfold Mo_person
  refine J_aload_n (k0 := 0) (pc := 0) 0 hX (by decide +kernel) rfl rfl ?_
  refine J_iconst (pc := 1) (n := 0) (v := 0) hX (by decide +kernel) (by decide +kernel) ?_
  refine J_pF (pc := 2) hX (by decide +kernel) fl_Mo_131 hL.1 rfl (fun μ1 => ?_)
  refine J_aload_n (k0 := 0) (pc := 5) 0 hX (by decide +kernel) rfl rfl ?_
  refine J_iload_n (k0 := 1) (pc := 6) 1 hX (by decide +kernel) rfl rfl ?_
  refine J_iconst (pc := 7) (n := 0) (v := 0) hX (by decide +kernel) (by decide +kernel) ?_
  refine J_bipush (pc := 8) (n := 9) (v := 9) hX (by decide +kernel) (by decide +kernel) ?_
  refine J_cVi (pc := 10) (idx := 154) [.int v1, .int 0, .int 9] hX (by decide +kernel) (mq mt_6 226 (by decide +kernel)) mv_Mo_isIn hL.1 rfl rfl (Nat.le_of_ble_eq_true rfl) (Nat.le_of_ble_eq_true rfl) (c_Mo_isIn hL v1 0 9 μ1) (fun x3 μ2 => ?_)
  refine J_if_eq (pc := 13) (off := 12) (tgt := 25) hX (by decide +kernel) (by decide +kernel) (fun _ => ?_) (fun _ => ?_)
  · refine J_iconst (pc := 25) (n := -1) (v := (-1)) hX (by decide +kernel) (by decide +kernel) ?_
    exact J_iret (pc := 26) hX (by decide +kernel) rfl trivial
  · refine J_aload_n (k0 := 0) (pc := 16) 0 hX (by decide +kernel) rfl rfl ?_
    refine J_gF (pc := 17) hX (by decide +kernel) fl_Mo_144 hL.1 rfl (fun x4 => ?_)
    refine J_bipush (pc := 20) (n := 16) (v := 16) hX (by decide +kernel) (by decide +kernel) ?_
    refine J_icmp_ne (pc := 22) (off := 5) (tgt := 27) hX (by decide +kernel) (by decide +kernel) (fun _ => ?_) (fun _ => ?_)
    · refine J_bipush (pc := 27) (n := 6) (v := 6) hX (by decide +kernel) (by decide +kernel) ?_
      refine J_istore_n (k0 := 2) (pc := 29) [(2, .int 6), (0, .ref (G.1 + a)), (1, .int v1)] hX (by decide +kernel) rfl (by decide) rfl ?_
      exact J_sub [1, 2, 0] _ rfl (jMo_person_30 hL hX v1 FU 6 μ2)
    · refine J_iconst (pc := 25) (n := -1) (v := (-1)) hX (by decide +kernel) (by decide +kernel) ?_
      exact J_iret (pc := 26) hX (by decide +kernel) rfl trivial
set_option maxRecDepth 100000 in
set_option maxHeartbeats 4000000 in
theorem c_Mo_person {l : Launch} {G : Gx} {y : Ly} {a : Nat} (hL : LyMo y a ) (v1 : Int32) (μ : Mu) : Cn l G ⟨"SaltFiguresModel", "person", "(I)I"⟩ prog_13_method_21_code 3 (some .int) 2 [.ref (G.1 + a), .int v1] (μ, y) (emy y) rvI tpT (Mo_person a v1 μ) := cn_of (by decide +kernel) (Nat.le_of_ble_eq_true rfl) (fun _ _ _ => ⟨List.prefix_refl _, trivial⟩) (fun X hX _ => jMo_person hL hX v1 μ)

def Mo_point_86 (a : Nat) (kb56 : Int32 → Mu → Option (Int32 × Mu))  (v1 : Int32) (v2 : Int32) (v3 : Int32)  (μ : Mu) : Option (Int32 × Mu) := kb56 (v3 + 1) μ
def Mo_point_56b (a : Nat)  (kb56 : Int32 → Mu → Option (Int32 × Mu)) (v1 : Int32) (v2 : Int32) (v3 : Int32)  (μ : Mu) : Option (Int32 × Mu) := gF μ a 42 (fun x1 => (if x1 ≤ v3 then gF μ a 42 (fun x2 => stA μ (a + 22) 8 x2 v1 (fun μ3 => gF μ3 a 42 (fun x4 => stA μ3 (a + 23) 8 x4 v2 (fun μ5 => gF μ5 a 42 (fun x6 => pF μ5 a 42 (x6 + 1) (fun μ7 => gF μ7 a 42 (fun x8 => some (x8, μ7)))))))) else ldA μ (a + 22) 8 v3 (fun x9 => (if x9 = v1 then ldA μ (a + 23) 8 v3 (fun x10 => (if x10 = v2 then some ((-1), μ) else Mo_point_86 a kb56 v1 v2 v3 μ)) else Mo_point_86 a kb56 v1 v2 v3 μ))))
def Mo_point_56 (a : Nat)  (v1 : Int32) (v2 : Int32) (fu : Nat) : Int32 → Mu → Option (Int32 × Mu) := lp (fun kb => Mo_point_56b a  kb v1 v2) (fun _ _ => none) fu
def Mo_point (a : Nat) (v1 : Int32) (v2 : Int32) (μ : Mu) : Option (Int32 × Mu) := pF μ a 0 0 (fun μ1 => (if v1 = ((-1000)) then pF μ1 a 42 0 (fun μ7 => some (0, μ7)) else cl (Mo_isIn a v1 ((-99)) 99 μ1) (fun x3 μ2 => (if x3 = 0 then some ((-1), μ2) else cl (Mo_isIn a v2 ((-99)) 99 μ2) (fun x5 μ4 => (if x5 = 0 then some ((-1), μ4) else gF μ4 a 42 (fun x6 => (if x6 = 8 then some ((-1), μ4) else Mo_point_56 a v1 v2 FU 0 μ4))))))))
set_option maxRecDepth 100000 in
set_option maxHeartbeats 4000000 in
theorem jMo_point_86 {X : Cx} {l : Launch} {G : Gx} {y : Ly} {a : Nat} (hL : LyMo y a ) (hX : Ok X l G prog_13_method_99_code 4 (some .int) "SaltFiguresModel")  (v1 : Int32) (v2 : Int32) (v3 : Int32)  {kb56 : Int32 → Mu → Option (Int32 × Mu)} (hk56 : ∀ (v3 : Int32) (μ : Mu), J X G 4 2 y (emy y) rvI tpT 56 [(0, .ref (G.1 + a)), (1, .int v1), (2, .int v2), (3, .int v3)] [] (μ, y) (kb56 v3 μ)) (μ : Mu) : J X G 4 2 y (emy y) rvI tpT 86 [(0, .ref (G.1 + a)), (1, .int v1), (2, .int v2), (3, .int v3)] [] (μ, y) (Mo_point_86 a kb56  v1 v2 v3  μ) := by
  unfold Mo_point_86
  refine J_iinc (pc := 86) (n := 1) 3 [(3, .int (v3 + 1)), (0, .ref (G.1 + a)), (1, .int v1), (2, .int v2)] hX (by decide +kernel) rfl rfl (by decide) rfl ?_
  refine J_goto (pc := 89) (off := -33) (tgt := 56) hX (by decide +kernel) (by decide +kernel) ?_
  exact J_sub [1, 2, 3, 0] _ rfl (hk56 (v3 + 1) μ)
set_option maxRecDepth 100000 in
set_option maxHeartbeats 4000000 in
theorem jMo_point_56b {X : Cx} {l : Launch} {G : Gx} {y : Ly} {a : Nat} (hL : LyMo y a ) (hX : Ok X l G prog_13_method_99_code 4 (some .int) "SaltFiguresModel") (v1 : Int32) (v2 : Int32)  {kb56 : Int32 → Mu → Option (Int32 × Mu)}  (hk56 : ∀ (v3 : Int32) (μ : Mu), J X G 4 2 y (emy y) rvI tpT 56 [(0, .ref (G.1 + a)), (1, .int v1), (2, .int v2), (3, .int v3)] [] (μ, y) (kb56 v3 μ)) (v3 : Int32)  (μ : Mu) : J X G 4 2 y (emy y) rvI tpT 56 [(0, .ref (G.1 + a)), (1, .int v1), (2, .int v2), (3, .int v3)] [] (μ, y) (Mo_point_56b a  kb56 v1 v2 v3  μ) := by
  unfold Mo_point_56b
  refine J_iload_n (k0 := 3) (pc := 56) 3 hX (by decide +kernel) rfl rfl ?_
  refine J_aload_n (k0 := 0) (pc := 57) 0 hX (by decide +kernel) rfl rfl ?_
  refine J_gF (pc := 58) hX (by decide +kernel) fl_Mo_432 hL.1 rfl (fun x1 => ?_)
  refine J_icmp_ge (pc := 61) (off := 31) (tgt := 92) hX (by decide +kernel) (by decide +kernel) (fun _ => ?_) (fun _ => ?_)
  · refine J_aload_n (k0 := 0) (pc := 92) 0 hX (by decide +kernel) rfl rfl ?_
    refine J_gr (pc := 93) hX (by decide +kernel) fl_Mo_77 hL.1 rfl hL.2.2.2.2.2.2.2.2.2.2.2.2.2.2.2.2.2.2.2.2.2.2.1.1 ?_
    refine J_aload_n (k0 := 0) (pc := 96) 0 hX (by decide +kernel) rfl rfl ?_
    refine J_gF (pc := 97) hX (by decide +kernel) fl_Mo_432 hL.1 rfl (fun x2 => ?_)
    refine J_iload_n (k0 := 1) (pc := 100) 1 hX (by decide +kernel) rfl rfl ?_
    refine J_stA (pc := 101) hX (by decide +kernel) hL.2.2.2.2.2.2.2.2.2.2.2.2.2.2.2.2.2.2.2.2.2.2.1.2 (fun μ3 => ?_)
    refine J_aload_n (k0 := 0) (pc := 102) 0 hX (by decide +kernel) rfl rfl ?_
    refine J_gr (pc := 103) hX (by decide +kernel) fl_Mo_80 hL.1 rfl hL.2.2.2.2.2.2.2.2.2.2.2.2.2.2.2.2.2.2.2.2.2.2.2.1.1 ?_
    refine J_aload_n (k0 := 0) (pc := 106) 0 hX (by decide +kernel) rfl rfl ?_
    refine J_gF (pc := 107) hX (by decide +kernel) fl_Mo_432 hL.1 rfl (fun x4 => ?_)
    refine J_iload_n (k0 := 2) (pc := 110) 2 hX (by decide +kernel) rfl rfl ?_
    refine J_stA (pc := 111) hX (by decide +kernel) hL.2.2.2.2.2.2.2.2.2.2.2.2.2.2.2.2.2.2.2.2.2.2.2.1.2 (fun μ5 => ?_)
    refine J_aload_n (k0 := 0) (pc := 112) 0 hX (by decide +kernel) rfl rfl ?_
    refine J_aload_n (k0 := 0) (pc := 113) 0 hX (by decide +kernel) rfl rfl ?_
    refine J_gF (pc := 114) hX (by decide +kernel) fl_Mo_432 hL.1 rfl (fun x6 => ?_)
    refine J_iconst (pc := 117) (n := 1) (v := 1) hX (by decide +kernel) (by decide +kernel) ?_
    refine J_iadd (pc := 118) hX (by decide +kernel) ?_
    refine J_pF (pc := 119) hX (by decide +kernel) fl_Mo_432 hL.1 rfl (fun μ7 => ?_)
    refine J_aload_n (k0 := 0) (pc := 122) 0 hX (by decide +kernel) rfl rfl ?_
    refine J_gF (pc := 123) hX (by decide +kernel) fl_Mo_432 hL.1 rfl (fun x8 => ?_)
    exact J_iret (pc := 126) hX (by decide +kernel) rfl trivial
  · refine J_aload_n (k0 := 0) (pc := 64) 0 hX (by decide +kernel) rfl rfl ?_
    refine J_gr (pc := 65) hX (by decide +kernel) fl_Mo_77 hL.1 rfl hL.2.2.2.2.2.2.2.2.2.2.2.2.2.2.2.2.2.2.2.2.2.2.1.1 ?_
    refine J_iload_n (k0 := 3) (pc := 68) 3 hX (by decide +kernel) rfl rfl ?_
    refine J_ldA (pc := 69) hX (by decide +kernel) hL.2.2.2.2.2.2.2.2.2.2.2.2.2.2.2.2.2.2.2.2.2.2.1.2 (fun x9 => ?_)
    refine J_iload_n (k0 := 1) (pc := 70) 1 hX (by decide +kernel) rfl rfl ?_
    refine J_icmp_ne (pc := 71) (off := 15) (tgt := 86) hX (by decide +kernel) (by decide +kernel) (fun _ => ?_) (fun _ => ?_)
    · exact J_sub [0, 1, 2, 3] _ rfl (jMo_point_86 hL hX v1 v2 v3 hk56 μ)
    · refine J_aload_n (k0 := 0) (pc := 74) 0 hX (by decide +kernel) rfl rfl ?_
      refine J_gr (pc := 75) hX (by decide +kernel) fl_Mo_80 hL.1 rfl hL.2.2.2.2.2.2.2.2.2.2.2.2.2.2.2.2.2.2.2.2.2.2.2.1.1 ?_
      refine J_iload_n (k0 := 3) (pc := 78) 3 hX (by decide +kernel) rfl rfl ?_
      refine J_ldA (pc := 79) hX (by decide +kernel) hL.2.2.2.2.2.2.2.2.2.2.2.2.2.2.2.2.2.2.2.2.2.2.2.1.2 (fun x10 => ?_)
      refine J_iload_n (k0 := 2) (pc := 80) 2 hX (by decide +kernel) rfl rfl ?_
      refine J_icmp_ne (pc := 81) (off := 5) (tgt := 86) hX (by decide +kernel) (by decide +kernel) (fun _ => ?_) (fun _ => ?_)
      · exact J_sub [0, 1, 2, 3] _ rfl (jMo_point_86 hL hX v1 v2 v3 hk56 μ)
      · refine J_iconst (pc := 84) (n := -1) (v := (-1)) hX (by decide +kernel) (by decide +kernel) ?_
        exact J_iret (pc := 85) hX (by decide +kernel) rfl trivial
set_option maxRecDepth 100000 in
set_option maxHeartbeats 4000000 in
theorem jMo_point_56 {X : Cx} {l : Launch} {G : Gx} {y : Ly} {a : Nat} (hL : LyMo y a ) (hX : Ok X l G prog_13_method_99_code 4 (some .int) "SaltFiguresModel") (v1 : Int32) (v2 : Int32)   : ∀ (fu : Nat) (v3 : Int32) (μ : Mu), J X G 4 2 y (emy y) rvI tpT 56 [(0, .ref (G.1 + a)), (1, .int v1), (2, .int v2), (3, .int v3)] [] (μ, y) (Mo_point_56 a  v1 v2 fu v3 μ) := by
  intro fu
  induction fu with
  | zero => intros; exact J_none
  | succ fu ih => intro v3 μ; exact jMo_point_56b hL hX v1 v2  ih v3 μ
set_option maxRecDepth 100000 in
set_option maxHeartbeats 4000000 in
theorem jMo_point {X : Cx} {l : Launch} {G : Gx} {y : Ly} {a : Nat} (hL : LyMo y a ) (hX : Ok X l G prog_13_method_99_code 4 (some .int) "SaltFiguresModel") (v1 : Int32) (v2 : Int32) (μ : Mu) : J X G 4 2 y (emy y) rvI tpT 0 [(0, .ref (G.1 + a)), (1, .int v1), (2, .int v2)] [] (μ, y) (Mo_point a v1 v2 μ) := by
  unfold Mo_point
  refine J_aload_n (k0 := 0) (pc := 0) 0 hX (by decide +kernel) rfl rfl ?_
  refine J_iconst (pc := 1) (n := 0) (v := 0) hX (by decide +kernel) (by decide +kernel) ?_
  refine J_pF (pc := 2) hX (by decide +kernel) fl_Mo_131 hL.1 rfl (fun μ1 => ?_)
  refine J_iload_n (k0 := 1) (pc := 5) 1 hX (by decide +kernel) rfl rfl ?_
  refine J_sipush (pc := 6) (n := -1000) (v := (-1000)) hX (by decide +kernel) (by decide +kernel) ?_
  refine J_icmp_ne (pc := 9) (off := 10) (tgt := 19) hX (by decide +kernel) (by decide +kernel) (fun _ => ?_) (fun _ => ?_)
  · refine J_aload_n (k0 := 0) (pc := 19) 0 hX (by decide +kernel) rfl rfl ?_
    refine J_iload_n (k0 := 1) (pc := 20) 1 hX (by decide +kernel) rfl rfl ?_
    refine J_bipush (pc := 21) (n := -99) (v := (-99)) hX (by decide +kernel) (by decide +kernel) ?_
    refine J_bipush (pc := 23) (n := 99) (v := 99) hX (by decide +kernel) (by decide +kernel) ?_
    refine J_cVi (pc := 25) (idx := 154) [.int v1, .int ((-99)), .int 99] hX (by decide +kernel) (mq mt_6 226 (by decide +kernel)) mv_Mo_isIn hL.1 rfl rfl (Nat.le_of_ble_eq_true rfl) (Nat.le_of_ble_eq_true rfl) (c_Mo_isIn hL v1 ((-99)) 99 μ1) (fun x3 μ2 => ?_)
    refine J_if_eq (pc := 28) (off := 24) (tgt := 52) hX (by decide +kernel) (by decide +kernel) (fun _ => ?_) (fun _ => ?_)
    · refine J_iconst (pc := 52) (n := -1) (v := (-1)) hX (by decide +kernel) (by decide +kernel) ?_
      exact J_iret (pc := 53) hX (by decide +kernel) rfl trivial
    · refine J_aload_n (k0 := 0) (pc := 31) 0 hX (by decide +kernel) rfl rfl ?_
      refine J_iload_n (k0 := 2) (pc := 32) 2 hX (by decide +kernel) rfl rfl ?_
      refine J_bipush (pc := 33) (n := -99) (v := (-99)) hX (by decide +kernel) (by decide +kernel) ?_
      refine J_bipush (pc := 35) (n := 99) (v := 99) hX (by decide +kernel) (by decide +kernel) ?_
      refine J_cVi (pc := 37) (idx := 154) [.int v2, .int ((-99)), .int 99] hX (by decide +kernel) (mq mt_6 226 (by decide +kernel)) mv_Mo_isIn hL.1 rfl rfl (Nat.le_of_ble_eq_true rfl) (Nat.le_of_ble_eq_true rfl) (c_Mo_isIn hL v2 ((-99)) 99 μ2) (fun x5 μ4 => ?_)
      refine J_if_eq (pc := 40) (off := 12) (tgt := 52) hX (by decide +kernel) (by decide +kernel) (fun _ => ?_) (fun _ => ?_)
      · refine J_iconst (pc := 52) (n := -1) (v := (-1)) hX (by decide +kernel) (by decide +kernel) ?_
        exact J_iret (pc := 53) hX (by decide +kernel) rfl trivial
      · refine J_aload_n (k0 := 0) (pc := 43) 0 hX (by decide +kernel) rfl rfl ?_
        refine J_gF (pc := 44) hX (by decide +kernel) fl_Mo_432 hL.1 rfl (fun x6 => ?_)
        refine J_bipush (pc := 47) (n := 8) (v := 8) hX (by decide +kernel) (by decide +kernel) ?_
        refine J_icmp_ne (pc := 49) (off := 5) (tgt := 54) hX (by decide +kernel) (by decide +kernel) (fun _ => ?_) (fun _ => ?_)
        · refine J_iconst (pc := 54) (n := 0) (v := 0) hX (by decide +kernel) (by decide +kernel) ?_
          refine J_istore_n (k0 := 3) (pc := 55) [(3, .int 0), (0, .ref (G.1 + a)), (1, .int v1), (2, .int v2)] hX (by decide +kernel) rfl (by decide) rfl ?_
          exact J_sub [1, 2, 3, 0] _ rfl (jMo_point_56 hL hX v1 v2 FU 0 μ4)
        · refine J_iconst (pc := 52) (n := -1) (v := (-1)) hX (by decide +kernel) (by decide +kernel) ?_
          exact J_iret (pc := 53) hX (by decide +kernel) rfl trivial
  · refine J_aload_n (k0 := 0) (pc := 12) 0 hX (by decide +kernel) rfl rfl ?_
    refine J_iconst (pc := 13) (n := 0) (v := 0) hX (by decide +kernel) (by decide +kernel) ?_
    refine J_pF (pc := 14) hX (by decide +kernel) fl_Mo_432 hL.1 rfl (fun μ7 => ?_)
    refine J_iconst (pc := 17) (n := 0) (v := 0) hX (by decide +kernel) (by decide +kernel) ?_
    exact J_iret (pc := 18) hX (by decide +kernel) rfl trivial
set_option maxRecDepth 100000 in
set_option maxHeartbeats 4000000 in
theorem c_Mo_point {l : Launch} {G : Gx} {y : Ly} {a : Nat} (hL : LyMo y a ) (v1 : Int32) (v2 : Int32) (μ : Mu) : Cn l G ⟨"SaltFiguresModel", "point", "(II)I"⟩ prog_13_method_99_code 4 (some .int) 2 [.ref (G.1 + a), .int v1, .int v2] (μ, y) (emy y) rvI tpT (Mo_point a v1 v2 μ) := cn_of (by decide +kernel) (Nat.le_of_ble_eq_true rfl) (fun _ _ _ => ⟨List.prefix_refl _, trivial⟩) (fun X hX _ => jMo_point hL hX v1 v2 μ)

def Mo_post (a : Nat) (v1 : Int32) (v2 : Int32) (μ : Mu) : Option (Int32 × Mu) := pF μ a 0 0 (fun μ1 => (if v1 = ((-1)) then pF μ1 a 58 0 (fun μ14 => some (0, μ14)) else cl (Mo_isIn a v1 1 99 μ1) (fun x3 μ2 => (if x3 = 0 then some ((-1), μ2) else cl (Mo_isIn a v2 1 60 μ2) (fun x5 μ4 => (if x5 = 0 then some ((-1), μ4) else gF μ4 a 58 (fun x6 => (if x6 = 8 then some ((-1), μ4) else gF μ4 a 58 (fun x7 => stA μ4 (a + 34) 8 x7 v1 (fun μ8 => gF μ8 a 58 (fun x9 => stA μ8 (a + 35) 8 x9 v2 (fun μ10 => gF μ10 a 58 (fun x11 => pF μ10 a 58 (x11 + 1) (fun μ12 => gF μ12 a 58 (fun x13 => some (x13, μ12))))))))))))))))
set_option maxRecDepth 100000 in
set_option maxHeartbeats 4000000 in
theorem jMo_post {X : Cx} {l : Launch} {G : Gx} {y : Ly} {a : Nat} (hL : LyMo y a ) (hX : Ok X l G prog_13_method_123_code 3 (some .int) "SaltFiguresModel") (v1 : Int32) (v2 : Int32) (μ : Mu) : J X G 3 2 y (emy y) rvI tpT 0 [(0, .ref (G.1 + a)), (1, .int v1), (2, .int v2)] [] (μ, y) (Mo_post a v1 v2 μ) := by
  unfold Mo_post
  refine J_aload_n (k0 := 0) (pc := 0) 0 hX (by decide +kernel) rfl rfl ?_
  refine J_iconst (pc := 1) (n := 0) (v := 0) hX (by decide +kernel) (by decide +kernel) ?_
  refine J_pF (pc := 2) hX (by decide +kernel) fl_Mo_131 hL.1 rfl (fun μ1 => ?_)
  refine J_iload_n (k0 := 1) (pc := 5) 1 hX (by decide +kernel) rfl rfl ?_
  refine J_iconst (pc := 6) (n := -1) (v := (-1)) hX (by decide +kernel) (by decide +kernel) ?_
  refine J_icmp_ne (pc := 7) (off := 10) (tgt := 17) hX (by decide +kernel) (by decide +kernel) (fun _ => ?_) (fun _ => ?_)
  · refine J_aload_n (k0 := 0) (pc := 17) 0 hX (by decide +kernel) rfl rfl ?_
    refine J_iload_n (k0 := 1) (pc := 18) 1 hX (by decide +kernel) rfl rfl ?_
    refine J_iconst (pc := 19) (n := 1) (v := 1) hX (by decide +kernel) (by decide +kernel) ?_
    refine J_bipush (pc := 20) (n := 99) (v := 99) hX (by decide +kernel) (by decide +kernel) ?_
    refine J_cVi (pc := 22) (idx := 154) [.int v1, .int 1, .int 99] hX (by decide +kernel) (mq mt_6 226 (by decide +kernel)) mv_Mo_isIn hL.1 rfl rfl (Nat.le_of_ble_eq_true rfl) (Nat.le_of_ble_eq_true rfl) (c_Mo_isIn hL v1 1 99 μ1) (fun x3 μ2 => ?_)
    refine J_if_eq (pc := 25) (off := 23) (tgt := 48) hX (by decide +kernel) (by decide +kernel) (fun _ => ?_) (fun _ => ?_)
    · refine J_iconst (pc := 48) (n := -1) (v := (-1)) hX (by decide +kernel) (by decide +kernel) ?_
      exact J_iret (pc := 49) hX (by decide +kernel) rfl trivial
    · refine J_aload_n (k0 := 0) (pc := 28) 0 hX (by decide +kernel) rfl rfl ?_
      refine J_iload_n (k0 := 2) (pc := 29) 2 hX (by decide +kernel) rfl rfl ?_
      refine J_iconst (pc := 30) (n := 1) (v := 1) hX (by decide +kernel) (by decide +kernel) ?_
      refine J_bipush (pc := 31) (n := 60) (v := 60) hX (by decide +kernel) (by decide +kernel) ?_
      refine J_cVi (pc := 33) (idx := 154) [.int v2, .int 1, .int 60] hX (by decide +kernel) (mq mt_6 226 (by decide +kernel)) mv_Mo_isIn hL.1 rfl rfl (Nat.le_of_ble_eq_true rfl) (Nat.le_of_ble_eq_true rfl) (c_Mo_isIn hL v2 1 60 μ2) (fun x5 μ4 => ?_)
      refine J_if_eq (pc := 36) (off := 12) (tgt := 48) hX (by decide +kernel) (by decide +kernel) (fun _ => ?_) (fun _ => ?_)
      · refine J_iconst (pc := 48) (n := -1) (v := (-1)) hX (by decide +kernel) (by decide +kernel) ?_
        exact J_iret (pc := 49) hX (by decide +kernel) rfl trivial
      · refine J_aload_n (k0 := 0) (pc := 39) 0 hX (by decide +kernel) rfl rfl ?_
        refine J_gF (pc := 40) hX (by decide +kernel) fl_Mo_477 hL.1 rfl (fun x6 => ?_)
        refine J_bipush (pc := 43) (n := 8) (v := 8) hX (by decide +kernel) (by decide +kernel) ?_
        refine J_icmp_ne (pc := 45) (off := 5) (tgt := 50) hX (by decide +kernel) (by decide +kernel) (fun _ => ?_) (fun _ => ?_)
        · refine J_aload_n (k0 := 0) (pc := 50) 0 hX (by decide +kernel) rfl rfl ?_
          refine J_gr (pc := 51) hX (by decide +kernel) fl_Mo_113 hL.1 rfl hL.2.2.2.2.2.2.2.2.2.2.2.2.2.2.2.2.2.2.2.2.2.2.2.2.2.2.2.2.2.2.2.2.2.2.1.1 ?_
          refine J_aload_n (k0 := 0) (pc := 54) 0 hX (by decide +kernel) rfl rfl ?_
          refine J_gF (pc := 55) hX (by decide +kernel) fl_Mo_477 hL.1 rfl (fun x7 => ?_)
          refine J_iload_n (k0 := 1) (pc := 58) 1 hX (by decide +kernel) rfl rfl ?_
          refine J_stA (pc := 59) hX (by decide +kernel) hL.2.2.2.2.2.2.2.2.2.2.2.2.2.2.2.2.2.2.2.2.2.2.2.2.2.2.2.2.2.2.2.2.2.2.1.2 (fun μ8 => ?_)
          refine J_aload_n (k0 := 0) (pc := 60) 0 hX (by decide +kernel) rfl rfl ?_
          refine J_gr (pc := 61) hX (by decide +kernel) fl_Mo_116 hL.1 rfl hL.2.2.2.2.2.2.2.2.2.2.2.2.2.2.2.2.2.2.2.2.2.2.2.2.2.2.2.2.2.2.2.2.2.2.2.1.1 ?_
          refine J_aload_n (k0 := 0) (pc := 64) 0 hX (by decide +kernel) rfl rfl ?_
          refine J_gF (pc := 65) hX (by decide +kernel) fl_Mo_477 hL.1 rfl (fun x9 => ?_)
          refine J_iload_n (k0 := 2) (pc := 68) 2 hX (by decide +kernel) rfl rfl ?_
          refine J_stA (pc := 69) hX (by decide +kernel) hL.2.2.2.2.2.2.2.2.2.2.2.2.2.2.2.2.2.2.2.2.2.2.2.2.2.2.2.2.2.2.2.2.2.2.2.1.2 (fun μ10 => ?_)
          refine J_aload_n (k0 := 0) (pc := 70) 0 hX (by decide +kernel) rfl rfl ?_
          refine J_aload_n (k0 := 0) (pc := 71) 0 hX (by decide +kernel) rfl rfl ?_
          refine J_gF (pc := 72) hX (by decide +kernel) fl_Mo_477 hL.1 rfl (fun x11 => ?_)
          refine J_iconst (pc := 75) (n := 1) (v := 1) hX (by decide +kernel) (by decide +kernel) ?_
          refine J_iadd (pc := 76) hX (by decide +kernel) ?_
          refine J_pF (pc := 77) hX (by decide +kernel) fl_Mo_477 hL.1 rfl (fun μ12 => ?_)
          refine J_aload_n (k0 := 0) (pc := 80) 0 hX (by decide +kernel) rfl rfl ?_
          refine J_gF (pc := 81) hX (by decide +kernel) fl_Mo_477 hL.1 rfl (fun x13 => ?_)
          exact J_iret (pc := 84) hX (by decide +kernel) rfl trivial
        · refine J_iconst (pc := 48) (n := -1) (v := (-1)) hX (by decide +kernel) (by decide +kernel) ?_
          exact J_iret (pc := 49) hX (by decide +kernel) rfl trivial
  · refine J_aload_n (k0 := 0) (pc := 10) 0 hX (by decide +kernel) rfl rfl ?_
    refine J_iconst (pc := 11) (n := 0) (v := 0) hX (by decide +kernel) (by decide +kernel) ?_
    refine J_pF (pc := 12) hX (by decide +kernel) fl_Mo_477 hL.1 rfl (fun μ14 => ?_)
    refine J_iconst (pc := 15) (n := 0) (v := 0) hX (by decide +kernel) (by decide +kernel) ?_
    exact J_iret (pc := 16) hX (by decide +kernel) rfl trivial
set_option maxRecDepth 100000 in
set_option maxHeartbeats 4000000 in
theorem c_Mo_post {l : Launch} {G : Gx} {y : Ly} {a : Nat} (hL : LyMo y a ) (v1 : Int32) (v2 : Int32) (μ : Mu) : Cn l G ⟨"SaltFiguresModel", "post", "(II)I"⟩ prog_13_method_123_code 3 (some .int) 2 [.ref (G.1 + a), .int v1, .int v2] (μ, y) (emy y) rvI tpT (Mo_post a v1 v2 μ) := cn_of (by decide +kernel) (Nat.le_of_ble_eq_true rfl) (fun _ _ _ => ⟨List.prefix_refl _, trivial⟩) (fun X hX _ => jMo_post hL hX v1 v2 μ)

def Mo_raw (a : Nat) (v1 : Int32) (μ : Mu) : Option (Int32 × Mu) := gF μ a 9 (fun x1 => (if x1 ≤ v1 then some ((-1), μ) else ldA μ (a + 5) 400 v1 (fun x2 => some (x2, μ))))
set_option maxRecDepth 100000 in
set_option maxHeartbeats 4000000 in
theorem jMo_raw {X : Cx} {l : Launch} {G : Gx} {y : Ly} {a : Nat} (hL : LyMo y a ) (hX : Ok X l G prog_13_method_26_code 2 (some .int) "SaltFiguresModel") (v1 : Int32) (μ : Mu) : J X G 2 1 y (emy y) rvI tpT 0 [(0, .ref (G.1 + a)), (1, .int v1)] [] (μ, y) (Mo_raw a v1 μ) := by
  unfold Mo_raw
  refine J_iload_n (k0 := 1) (pc := 0) 1 hX (by decide +kernel) rfl rfl ?_
  refine J_aload_n (k0 := 0) (pc := 1) 0 hX (by decide +kernel) rfl rfl ?_
  refine J_gF (pc := 2) hX (by decide +kernel) fl_Mo_165 hL.1 rfl (fun x1 => ?_)
  refine J_icmp_ge (pc := 5) (off := 12) (tgt := 17) hX (by decide +kernel) (by decide +kernel) (fun _ => ?_) (fun _ => ?_)
  · refine J_iconst (pc := 17) (n := -1) (v := (-1)) hX (by decide +kernel) (by decide +kernel) ?_
    exact J_iret (pc := 18) hX (by decide +kernel) rfl trivial
  · refine J_aload_n (k0 := 0) (pc := 8) 0 hX (by decide +kernel) rfl rfl ?_
    refine J_gr (pc := 9) hX (by decide +kernel) fl_Mo_22 hL.1 rfl hL.2.2.2.2.2.1.1 ?_
    refine J_iload_n (k0 := 1) (pc := 12) 1 hX (by decide +kernel) rfl rfl ?_
    refine J_ldA (pc := 13) hX (by decide +kernel) hL.2.2.2.2.2.1.2 (fun x2 => ?_)
    refine J_goto (pc := 14) (off := 4) (tgt := 18) hX (by decide +kernel) (by decide +kernel) ?_
    exact J_iret (pc := 18) hX (by decide +kernel) rfl trivial
set_option maxRecDepth 100000 in
set_option maxHeartbeats 4000000 in
theorem c_Mo_raw {l : Launch} {G : Gx} {y : Ly} {a : Nat} (hL : LyMo y a ) (v1 : Int32) (μ : Mu) : Cn l G ⟨"SaltFiguresModel", "raw", "(I)I"⟩ prog_13_method_26_code 2 (some .int) 1 [.ref (G.1 + a), .int v1] (μ, y) (emy y) rvI tpT (Mo_raw a v1 μ) := cn_of (by decide +kernel) (Nat.le_of_ble_eq_true rfl) (fun _ _ _ => ⟨List.prefix_refl _, trivial⟩) (fun X hX _ => jMo_raw hL hX v1 μ)

def Mo_waits (a : Nat) (v1 : Int32) (μ : Mu) : Option (Unit × Mu) := gF μ a 26 (fun x1 => stA μ (a + 14) 40 x1 v1 (fun μ2 => gF μ2 a 26 (fun x3 => pF μ2 a 26 (x3 + 1) (fun μ4 => some ((), μ4)))))
set_option maxRecDepth 100000 in
set_option maxHeartbeats 4000000 in
theorem jMo_waits {X : Cx} {l : Launch} {G : Gx} {y : Ly} {a : Nat} (hL : LyMo y a ) (hX : Ok X l G prog_13_method_41_code 2 none "SaltFiguresModel") (v1 : Int32) (μ : Mu) : J X G 2 1 y (emy y) rvV tpT 0 [(0, .ref (G.1 + a)), (1, .int v1)] [] (μ, y) (Mo_waits a v1 μ) := by
  unfold Mo_waits
  refine J_aload_n (k0 := 0) (pc := 0) 0 hX (by decide +kernel) rfl rfl ?_
  refine J_gr (pc := 1) hX (by decide +kernel) fl_Mo_49 hL.1 rfl hL.2.2.2.2.2.2.2.2.2.2.2.2.2.2.1.1 ?_
  refine J_aload_n (k0 := 0) (pc := 4) 0 hX (by decide +kernel) rfl rfl ?_
  refine J_gF (pc := 5) hX (by decide +kernel) fl_Mo_235 hL.1 rfl (fun x1 => ?_)
  refine J_iload_n (k0 := 1) (pc := 8) 1 hX (by decide +kernel) rfl rfl ?_
  refine J_stA (pc := 9) hX (by decide +kernel) hL.2.2.2.2.2.2.2.2.2.2.2.2.2.2.1.2 (fun μ2 => ?_)
  refine J_aload_n (k0 := 0) (pc := 10) 0 hX (by decide +kernel) rfl rfl ?_
  refine J_aload_n (k0 := 0) (pc := 11) 0 hX (by decide +kernel) rfl rfl ?_
  refine J_gF (pc := 12) hX (by decide +kernel) fl_Mo_235 hL.1 rfl (fun x3 => ?_)
  refine J_iconst (pc := 15) (n := 1) (v := 1) hX (by decide +kernel) (by decide +kernel) ?_
  refine J_iadd (pc := 16) hX (by decide +kernel) ?_
  refine J_pF (pc := 17) hX (by decide +kernel) fl_Mo_235 hL.1 rfl (fun μ4 => ?_)
  exact J_vret (pc := 20) hX (by decide +kernel) rfl trivial
set_option maxRecDepth 100000 in
set_option maxHeartbeats 4000000 in
theorem c_Mo_waits {l : Launch} {G : Gx} {y : Ly} {a : Nat} (hL : LyMo y a ) (v1 : Int32) (μ : Mu) : Cn l G ⟨"SaltFiguresModel", "waits", "(I)V"⟩ prog_13_method_41_code 2 none 1 [.ref (G.1 + a), .int v1] (μ, y) (emy y) rvV tpT (Mo_waits a v1 μ) := cn_of (by decide +kernel) (Nat.le_of_ble_eq_true rfl) (fun _ _ _ => ⟨List.prefix_refl _, trivial⟩) (fun X hX _ => jMo_waits hL hX v1 μ)

def Mo_wordAt_94b (a : Nat) (kb5 : Int32 → Int32 → Mu → Option (Int32 × Mu)) (kb94 : Int32 → Mu → Option (Int32 × Mu)) (v1 : Int32) (v2 : Int32) (v3 : Int32) (v4 : Int32)  (μ : Mu) : Option (Int32 × Mu) := ldA μ (a + 6) 132 v4 (fun x1 => (if x1 = 32 then kb5 v3 v4 μ else kb94 (v4 + 1) μ))
def Mo_wordAt_94 (a : Nat) (kb5 : Int32 → Int32 → Mu → Option (Int32 × Mu)) (v1 : Int32) (v2 : Int32) (v3 : Int32) (fu : Nat) : Int32 → Mu → Option (Int32 × Mu) := lp (fun kb => Mo_wordAt_94b a kb5 kb v1 v2 v3) (fun _ _ => none) fu
def Mo_wordAt_88 (a : Nat) (kb5 : Int32 → Int32 → Mu → Option (Int32 × Mu))  (v1 : Int32) (v2 : Int32) (v3 : Int32) (v4 : Int32)  (μ : Mu) : Option (Int32 × Mu) := Mo_wordAt_94 a kb5 v1 v2 v3 FU (v4 + 1) μ
def Mo_wordAt_61 (a : Nat) (kb5 : Int32 → Int32 → Mu → Option (Int32 × Mu))  (v1 : Int32) (v2 : Int32) (v3 : Int32) (v4 : Int32) (v5 : Int32)  (μ : Mu) : Option (Int32 × Mu) := (if (v1 + v5) = v2 then ldA μ (a + 6) 132 ((v4 + 1) + v5) (fun x1 => (if x1 = 32 then some (v3, μ) else Mo_wordAt_88 a kb5 v1 v2 v3 v4 μ)) else Mo_wordAt_88 a kb5 v1 v2 v3 v4 μ)
def Mo_wordAt_20b (a : Nat) (kb5 : Int32 → Int32 → Mu → Option (Int32 × Mu)) (kb20 : Int32 → Mu → Option (Int32 × Mu)) (v1 : Int32) (v2 : Int32) (v3 : Int32) (v4 : Int32) (v5 : Int32)  (μ : Mu) : Option (Int32 × Mu) := (if v2 ≤ (v1 + v5) then Mo_wordAt_61 a kb5 v1 v2 v3 v4 v5 μ else ldA μ (a + 6) 132 ((v4 + 1) + v5) (fun x1 => ldA μ (a + 5) 400 (v1 + v5) (fun x2 => (if x1 = x2 then kb20 (v5 + 1) μ else Mo_wordAt_61 a kb5 v1 v2 v3 v4 v5 μ))))
def Mo_wordAt_20 (a : Nat) (kb5 : Int32 → Int32 → Mu → Option (Int32 × Mu)) (v1 : Int32) (v2 : Int32) (v3 : Int32) (v4 : Int32) (fu : Nat) : Int32 → Mu → Option (Int32 × Mu) := lp (fun kb => Mo_wordAt_20b a kb5 kb v1 v2 v3 v4) (fun _ _ => none) fu
def Mo_wordAt_5b (a : Nat)  (kb5 : Int32 → Int32 → Mu → Option (Int32 × Mu)) (v1 : Int32) (v2 : Int32) (v3 : Int32) (v4 : Int32)  (μ : Mu) : Option (Int32 × Mu) := (if 131 ≤ v4 then some ((-1), μ) else Mo_wordAt_20 a kb5 v1 v2 (v3 + 1) v4 FU 0 μ)
def Mo_wordAt_5 (a : Nat)  (v1 : Int32) (v2 : Int32) (fu : Nat) : Int32 → Int32 → Mu → Option (Int32 × Mu) := lp (fun kb => Mo_wordAt_5b a  kb v1 v2) (fun _ _ _ => none) fu
def Mo_wordAt (a : Nat) (v1 : Int32) (v2 : Int32) (μ : Mu) : Option (Int32 × Mu) := Mo_wordAt_5 a v1 v2 FU ((-1)) 0 μ
set_option maxRecDepth 100000 in
set_option maxHeartbeats 4000000 in
theorem jMo_wordAt_94b {X : Cx} {l : Launch} {G : Gx} {y : Ly} {a : Nat} (hL : LyMo y a ) (hX : Ok X l G prog_13_method_30_code 6 (some .int) "SaltFiguresModel") (v1 : Int32) (v2 : Int32) (v3 : Int32) {kb5 : Int32 → Int32 → Mu → Option (Int32 × Mu)} {kb94 : Int32 → Mu → Option (Int32 × Mu)} (hk5 : ∀ (v3 : Int32) (v4 : Int32) (μ : Mu), J X G 6 1 y (emy y) rvI tpT 5 [(0, .ref (G.1 + a)), (1, .int v1), (2, .int v2), (3, .int v3), (4, .int v4)] [] (μ, y) (kb5 v3 v4 μ)) (hk94 : ∀ (v4 : Int32) (μ : Mu), J X G 6 1 y (emy y) rvI tpT 94 [(0, .ref (G.1 + a)), (1, .int v1), (2, .int v2), (3, .int v3), (4, .int v4)] [] (μ, y) (kb94 v4 μ)) (v4 : Int32)  (μ : Mu) : J X G 6 1 y (emy y) rvI tpT 94 [(0, .ref (G.1 + a)), (1, .int v1), (2, .int v2), (3, .int v3), (4, .int v4)] [] (μ, y) (Mo_wordAt_94b a kb5 kb94 v1 v2 v3 v4  μ) := by
  unfold Mo_wordAt_94b
  refine J_aload_n (k0 := 0) (pc := 94) 0 hX (by decide +kernel) rfl rfl ?_
  refine J_gr (pc := 95) hX (by decide +kernel) fl_Mo_25 hL.1 rfl hL.2.2.2.2.2.2.1.1 ?_
  refine J_iload (pc := 98) 4 hX (by decide +kernel) rfl ?_
  refine J_ldA (pc := 100) hX (by decide +kernel) hL.2.2.2.2.2.2.1.2 (fun x1 => ?_)
  refine J_bipush (pc := 101) (n := 32) (v := 32) hX (by decide +kernel) (by decide +kernel) ?_
  refine J_icmp_eq (pc := 103) (off := 12) (tgt := 115) hX (by decide +kernel) (by decide +kernel) (fun _ => ?_) (fun _ => ?_)
  · refine J_goto (pc := 115) (off := -110) (tgt := 5) hX (by decide +kernel) (by decide +kernel) ?_
    exact J_sub [0, 1, 2, 3, 4] _ rfl (hk5 v3 v4 μ)
  · refine J_iload (pc := 106) 4 hX (by decide +kernel) rfl ?_
    refine J_iconst (pc := 108) (n := 1) (v := 1) hX (by decide +kernel) (by decide +kernel) ?_
    refine J_iadd (pc := 109) hX (by decide +kernel) ?_
    refine J_istore (pc := 110) [(4, .int (v4 + 1)), (0, .ref (G.1 + a)), (1, .int v1), (2, .int v2), (3, .int v3)] hX (by decide +kernel) (by decide) rfl ?_
    refine J_goto (pc := 112) (off := -18) (tgt := 94) hX (by decide +kernel) (by decide +kernel) ?_
    exact J_sub [1, 2, 3, 4, 0] _ rfl (hk94 (v4 + 1) μ)
set_option maxRecDepth 100000 in
set_option maxHeartbeats 4000000 in
theorem jMo_wordAt_94 {X : Cx} {l : Launch} {G : Gx} {y : Ly} {a : Nat} (hL : LyMo y a ) (hX : Ok X l G prog_13_method_30_code 6 (some .int) "SaltFiguresModel") (v1 : Int32) (v2 : Int32) (v3 : Int32) {kb5 : Int32 → Int32 → Mu → Option (Int32 × Mu)} (hk5 : ∀ (v3 : Int32) (v4 : Int32) (μ : Mu), J X G 6 1 y (emy y) rvI tpT 5 [(0, .ref (G.1 + a)), (1, .int v1), (2, .int v2), (3, .int v3), (4, .int v4)] [] (μ, y) (kb5 v3 v4 μ)) : ∀ (fu : Nat) (v4 : Int32) (μ : Mu), J X G 6 1 y (emy y) rvI tpT 94 [(0, .ref (G.1 + a)), (1, .int v1), (2, .int v2), (3, .int v3), (4, .int v4)] [] (μ, y) (Mo_wordAt_94 a kb5 v1 v2 v3 fu v4 μ) := by
  intro fu
  induction fu with
  | zero => intros; exact J_none
  | succ fu ih => intro v4 μ; exact jMo_wordAt_94b hL hX v1 v2 v3 hk5 ih v4 μ
set_option maxRecDepth 100000 in
set_option maxHeartbeats 4000000 in
theorem jMo_wordAt_88 {X : Cx} {l : Launch} {G : Gx} {y : Ly} {a : Nat} (hL : LyMo y a ) (hX : Ok X l G prog_13_method_30_code 6 (some .int) "SaltFiguresModel")  (v1 : Int32) (v2 : Int32) (v3 : Int32) (v4 : Int32)  {kb5 : Int32 → Int32 → Mu → Option (Int32 × Mu)} (hk5 : ∀ (v3 : Int32) (v4 : Int32) (μ : Mu), J X G 6 1 y (emy y) rvI tpT 5 [(0, .ref (G.1 + a)), (1, .int v1), (2, .int v2), (3, .int v3), (4, .int v4)] [] (μ, y) (kb5 v3 v4 μ)) (μ : Mu) : J X G 6 1 y (emy y) rvI tpT 88 [(0, .ref (G.1 + a)), (1, .int v1), (2, .int v2), (3, .int v3), (4, .int v4)] [] (μ, y) (Mo_wordAt_88 a kb5  v1 v2 v3 v4  μ) := by
  unfold Mo_wordAt_88
  refine J_iload (pc := 88) 4 hX (by decide +kernel) rfl ?_
  refine J_iconst (pc := 90) (n := 1) (v := 1) hX (by decide +kernel) (by decide +kernel) ?_
  refine J_iadd (pc := 91) hX (by decide +kernel) ?_
  refine J_istore (pc := 92) [(4, .int (v4 + 1)), (0, .ref (G.1 + a)), (1, .int v1), (2, .int v2), (3, .int v3)] hX (by decide +kernel) (by decide) rfl ?_
  exact J_sub [1, 2, 3, 4, 0] _ rfl (jMo_wordAt_94 hL hX v1 v2 v3 hk5 FU (v4 + 1) μ)
set_option maxRecDepth 100000 in
set_option maxHeartbeats 4000000 in
theorem jMo_wordAt_61 {X : Cx} {l : Launch} {G : Gx} {y : Ly} {a : Nat} (hL : LyMo y a ) (hX : Ok X l G prog_13_method_30_code 6 (some .int) "SaltFiguresModel")  (v1 : Int32) (v2 : Int32) (v3 : Int32) (v4 : Int32) (v5 : Int32)  {kb5 : Int32 → Int32 → Mu → Option (Int32 × Mu)} (hk5 : ∀ (v3 : Int32) (v4 : Int32) (μ : Mu), J X G 6 1 y (emy y) rvI tpT 5 [(0, .ref (G.1 + a)), (1, .int v1), (2, .int v2), (3, .int v3), (4, .int v4)] [] (μ, y) (kb5 v3 v4 μ)) (μ : Mu) : J X G 6 1 y (emy y) rvI tpT 61 [(0, .ref (G.1 + a)), (1, .int v1), (2, .int v2), (3, .int v3), (4, .int v4), (5, .int v5)] [] (μ, y) (Mo_wordAt_61 a kb5  v1 v2 v3 v4 v5  μ) := by
  unfold Mo_wordAt_61
  refine J_iload_n (k0 := 1) (pc := 61) 1 hX (by decide +kernel) rfl rfl ?_
  refine J_iload (pc := 62) 5 hX (by decide +kernel) rfl ?_
  refine J_iadd (pc := 64) hX (by decide +kernel) ?_
  refine J_iload_n (k0 := 2) (pc := 65) 2 hX (by decide +kernel) rfl rfl ?_
  refine J_icmp_ne (pc := 66) (off := 22) (tgt := 88) hX (by decide +kernel) (by decide +kernel) (fun _ => ?_) (fun _ => ?_)
  · exact J_sub [0, 1, 2, 3, 4] _ rfl (jMo_wordAt_88 hL hX v1 v2 v3 v4 hk5 μ)
  · refine J_aload_n (k0 := 0) (pc := 69) 0 hX (by decide +kernel) rfl rfl ?_
    refine J_gr (pc := 70) hX (by decide +kernel) fl_Mo_25 hL.1 rfl hL.2.2.2.2.2.2.1.1 ?_
    refine J_iload (pc := 73) 4 hX (by decide +kernel) rfl ?_
    refine J_iconst (pc := 75) (n := 1) (v := 1) hX (by decide +kernel) (by decide +kernel) ?_
    refine J_iadd (pc := 76) hX (by decide +kernel) ?_
    refine J_iload (pc := 77) 5 hX (by decide +kernel) rfl ?_
    refine J_iadd (pc := 79) hX (by decide +kernel) ?_
    refine J_ldA (pc := 80) hX (by decide +kernel) hL.2.2.2.2.2.2.1.2 (fun x1 => ?_)
    refine J_bipush (pc := 81) (n := 32) (v := 32) hX (by decide +kernel) (by decide +kernel) ?_
    refine J_icmp_ne (pc := 83) (off := 5) (tgt := 88) hX (by decide +kernel) (by decide +kernel) (fun _ => ?_) (fun _ => ?_)
    · exact J_sub [0, 1, 2, 3, 4] _ rfl (jMo_wordAt_88 hL hX v1 v2 v3 v4 hk5 μ)
    · refine J_iload_n (k0 := 3) (pc := 86) 3 hX (by decide +kernel) rfl rfl ?_
      exact J_iret (pc := 87) hX (by decide +kernel) rfl trivial
set_option maxRecDepth 100000 in
set_option maxHeartbeats 4000000 in
theorem jMo_wordAt_20b {X : Cx} {l : Launch} {G : Gx} {y : Ly} {a : Nat} (hL : LyMo y a ) (hX : Ok X l G prog_13_method_30_code 6 (some .int) "SaltFiguresModel") (v1 : Int32) (v2 : Int32) (v3 : Int32) (v4 : Int32) {kb5 : Int32 → Int32 → Mu → Option (Int32 × Mu)} {kb20 : Int32 → Mu → Option (Int32 × Mu)} (hk5 : ∀ (v3 : Int32) (v4 : Int32) (μ : Mu), J X G 6 1 y (emy y) rvI tpT 5 [(0, .ref (G.1 + a)), (1, .int v1), (2, .int v2), (3, .int v3), (4, .int v4)] [] (μ, y) (kb5 v3 v4 μ)) (hk20 : ∀ (v5 : Int32) (μ : Mu), J X G 6 1 y (emy y) rvI tpT 20 [(0, .ref (G.1 + a)), (1, .int v1), (2, .int v2), (3, .int v3), (4, .int v4), (5, .int v5)] [] (μ, y) (kb20 v5 μ)) (v5 : Int32)  (μ : Mu) : J X G 6 1 y (emy y) rvI tpT 20 [(0, .ref (G.1 + a)), (1, .int v1), (2, .int v2), (3, .int v3), (4, .int v4), (5, .int v5)] [] (μ, y) (Mo_wordAt_20b a kb5 kb20 v1 v2 v3 v4 v5  μ) := by
  unfold Mo_wordAt_20b
  refine J_iload_n (k0 := 1) (pc := 20) 1 hX (by decide +kernel) rfl rfl ?_
  refine J_iload (pc := 21) 5 hX (by decide +kernel) rfl ?_
  refine J_iadd (pc := 23) hX (by decide +kernel) ?_
  refine J_iload_n (k0 := 2) (pc := 24) 2 hX (by decide +kernel) rfl rfl ?_
  refine J_icmp_ge (pc := 25) (off := 36) (tgt := 61) hX (by decide +kernel) (by decide +kernel) (fun _ => ?_) (fun _ => ?_)
  · exact J_sub [0, 1, 2, 3, 4, 5] _ rfl (jMo_wordAt_61 hL hX v1 v2 v3 v4 v5 hk5 μ)
  · refine J_aload_n (k0 := 0) (pc := 28) 0 hX (by decide +kernel) rfl rfl ?_
    refine J_gr (pc := 29) hX (by decide +kernel) fl_Mo_25 hL.1 rfl hL.2.2.2.2.2.2.1.1 ?_
    refine J_iload (pc := 32) 4 hX (by decide +kernel) rfl ?_
    refine J_iconst (pc := 34) (n := 1) (v := 1) hX (by decide +kernel) (by decide +kernel) ?_
    refine J_iadd (pc := 35) hX (by decide +kernel) ?_
    refine J_iload (pc := 36) 5 hX (by decide +kernel) rfl ?_
    refine J_iadd (pc := 38) hX (by decide +kernel) ?_
    refine J_ldA (pc := 39) hX (by decide +kernel) hL.2.2.2.2.2.2.1.2 (fun x1 => ?_)
    refine J_aload_n (k0 := 0) (pc := 40) 0 hX (by decide +kernel) rfl rfl ?_
    refine J_gr (pc := 41) hX (by decide +kernel) fl_Mo_22 hL.1 rfl hL.2.2.2.2.2.1.1 ?_
    refine J_iload_n (k0 := 1) (pc := 44) 1 hX (by decide +kernel) rfl rfl ?_
    refine J_iload (pc := 45) 5 hX (by decide +kernel) rfl ?_
    refine J_iadd (pc := 47) hX (by decide +kernel) ?_
    refine J_ldA (pc := 48) hX (by decide +kernel) hL.2.2.2.2.2.1.2 (fun x2 => ?_)
    refine J_icmp_ne (pc := 49) (off := 12) (tgt := 61) hX (by decide +kernel) (by decide +kernel) (fun _ => ?_) (fun _ => ?_)
    · exact J_sub [0, 1, 2, 3, 4, 5] _ rfl (jMo_wordAt_61 hL hX v1 v2 v3 v4 v5 hk5 μ)
    · refine J_iload (pc := 52) 5 hX (by decide +kernel) rfl ?_
      refine J_iconst (pc := 54) (n := 1) (v := 1) hX (by decide +kernel) (by decide +kernel) ?_
      refine J_iadd (pc := 55) hX (by decide +kernel) ?_
      refine J_istore (pc := 56) [(5, .int (v5 + 1)), (0, .ref (G.1 + a)), (1, .int v1), (2, .int v2), (3, .int v3), (4, .int v4)] hX (by decide +kernel) (by decide) rfl ?_
      refine J_goto (pc := 58) (off := -38) (tgt := 20) hX (by decide +kernel) (by decide +kernel) ?_
      exact J_sub [1, 2, 3, 4, 5, 0] _ rfl (hk20 (v5 + 1) μ)
set_option maxRecDepth 100000 in
set_option maxHeartbeats 4000000 in
theorem jMo_wordAt_20 {X : Cx} {l : Launch} {G : Gx} {y : Ly} {a : Nat} (hL : LyMo y a ) (hX : Ok X l G prog_13_method_30_code 6 (some .int) "SaltFiguresModel") (v1 : Int32) (v2 : Int32) (v3 : Int32) (v4 : Int32) {kb5 : Int32 → Int32 → Mu → Option (Int32 × Mu)} (hk5 : ∀ (v3 : Int32) (v4 : Int32) (μ : Mu), J X G 6 1 y (emy y) rvI tpT 5 [(0, .ref (G.1 + a)), (1, .int v1), (2, .int v2), (3, .int v3), (4, .int v4)] [] (μ, y) (kb5 v3 v4 μ)) : ∀ (fu : Nat) (v5 : Int32) (μ : Mu), J X G 6 1 y (emy y) rvI tpT 20 [(0, .ref (G.1 + a)), (1, .int v1), (2, .int v2), (3, .int v3), (4, .int v4), (5, .int v5)] [] (μ, y) (Mo_wordAt_20 a kb5 v1 v2 v3 v4 fu v5 μ) := by
  intro fu
  induction fu with
  | zero => intros; exact J_none
  | succ fu ih => intro v5 μ; exact jMo_wordAt_20b hL hX v1 v2 v3 v4 hk5 ih v5 μ
set_option maxRecDepth 100000 in
set_option maxHeartbeats 4000000 in
theorem jMo_wordAt_5b {X : Cx} {l : Launch} {G : Gx} {y : Ly} {a : Nat} (hL : LyMo y a ) (hX : Ok X l G prog_13_method_30_code 6 (some .int) "SaltFiguresModel") (v1 : Int32) (v2 : Int32)  {kb5 : Int32 → Int32 → Mu → Option (Int32 × Mu)}  (hk5 : ∀ (v3 : Int32) (v4 : Int32) (μ : Mu), J X G 6 1 y (emy y) rvI tpT 5 [(0, .ref (G.1 + a)), (1, .int v1), (2, .int v2), (3, .int v3), (4, .int v4)] [] (μ, y) (kb5 v3 v4 μ)) (v3 : Int32) (v4 : Int32)  (μ : Mu) : J X G 6 1 y (emy y) rvI tpT 5 [(0, .ref (G.1 + a)), (1, .int v1), (2, .int v2), (3, .int v3), (4, .int v4)] [] (μ, y) (Mo_wordAt_5b a  kb5 v1 v2 v3 v4  μ) := by
  unfold Mo_wordAt_5b
  refine J_iload (pc := 5) 4 hX (by decide +kernel) rfl ?_
  refine J_sipush (pc := 7) (n := 131) (v := 131) hX (by decide +kernel) (by decide +kernel) ?_
  refine J_icmp_ge (pc := 10) (off := 108) (tgt := 118) hX (by decide +kernel) (by decide +kernel) (fun _ => ?_) (fun _ => ?_)
  · refine J_iconst (pc := 118) (n := -1) (v := (-1)) hX (by decide +kernel) (by decide +kernel) ?_
    exact J_iret (pc := 119) hX (by decide +kernel) rfl trivial
  · refine J_iconst (pc := 13) (n := 0) (v := 0) hX (by decide +kernel) (by decide +kernel) ?_
    refine J_istore (pc := 14) [(5, .int 0), (0, .ref (G.1 + a)), (1, .int v1), (2, .int v2), (3, .int v3), (4, .int v4)] hX (by decide +kernel) (by decide) rfl ?_
    refine J_iload_n (k0 := 3) (pc := 16) 4 hX (by decide +kernel) rfl rfl ?_
    refine J_iconst (pc := 17) (n := 1) (v := 1) hX (by decide +kernel) (by decide +kernel) ?_
    refine J_iadd (pc := 18) hX (by decide +kernel) ?_
    refine J_istore_n (k0 := 3) (pc := 19) [(3, .int (v3 + 1)), (5, .int 0), (0, .ref (G.1 + a)), (1, .int v1), (2, .int v2), (4, .int v4)] hX (by decide +kernel) rfl (by decide) rfl ?_
    exact J_sub [2, 3, 4, 0, 5, 1] _ rfl (jMo_wordAt_20 hL hX v1 v2 (v3 + 1) v4 hk5 FU 0 μ)
set_option maxRecDepth 100000 in
set_option maxHeartbeats 4000000 in
theorem jMo_wordAt_5 {X : Cx} {l : Launch} {G : Gx} {y : Ly} {a : Nat} (hL : LyMo y a ) (hX : Ok X l G prog_13_method_30_code 6 (some .int) "SaltFiguresModel") (v1 : Int32) (v2 : Int32)   : ∀ (fu : Nat) (v3 : Int32) (v4 : Int32) (μ : Mu), J X G 6 1 y (emy y) rvI tpT 5 [(0, .ref (G.1 + a)), (1, .int v1), (2, .int v2), (3, .int v3), (4, .int v4)] [] (μ, y) (Mo_wordAt_5 a  v1 v2 fu v3 v4 μ) := by
  intro fu
  induction fu with
  | zero => intros; exact J_none
  | succ fu ih => intro v3 v4 μ; exact jMo_wordAt_5b hL hX v1 v2  ih v3 v4 μ
set_option maxRecDepth 100000 in
set_option maxHeartbeats 4000000 in
theorem jMo_wordAt {X : Cx} {l : Launch} {G : Gx} {y : Ly} {a : Nat} (hL : LyMo y a ) (hX : Ok X l G prog_13_method_30_code 6 (some .int) "SaltFiguresModel") (v1 : Int32) (v2 : Int32) (μ : Mu) : J X G 6 1 y (emy y) rvI tpT 0 [(0, .ref (G.1 + a)), (1, .int v1), (2, .int v2)] [] (μ, y) (Mo_wordAt a v1 v2 μ) := by
  unfold Mo_wordAt
  refine J_iconst (pc := 0) (n := -1) (v := (-1)) hX (by decide +kernel) (by decide +kernel) ?_
  refine J_istore_n (k0 := 3) (pc := 1) [(3, .int ((-1))), (0, .ref (G.1 + a)), (1, .int v1), (2, .int v2)] hX (by decide +kernel) rfl (by decide) rfl ?_
  refine J_iconst (pc := 2) (n := 0) (v := 0) hX (by decide +kernel) (by decide +kernel) ?_
  refine J_istore (pc := 3) [(4, .int 0), (3, .int ((-1))), (0, .ref (G.1 + a)), (1, .int v1), (2, .int v2)] hX (by decide +kernel) (by decide) rfl ?_
  exact J_sub [2, 3, 4, 1, 0] _ rfl (jMo_wordAt_5 hL hX v1 v2 FU ((-1)) 0 μ)
set_option maxRecDepth 100000 in
set_option maxHeartbeats 4000000 in
theorem c_Mo_wordAt {l : Launch} {G : Gx} {y : Ly} {a : Nat} (hL : LyMo y a ) (v1 : Int32) (v2 : Int32) (μ : Mu) : Cn l G ⟨"SaltFiguresModel", "wordAt", "(II)I"⟩ prog_13_method_30_code 6 (some .int) 1 [.ref (G.1 + a), .int v1, .int v2] (μ, y) (emy y) rvI tpT (Mo_wordAt a v1 v2 μ) := cn_of (by decide +kernel) (Nat.le_of_ble_eq_true rfl) (fun _ _ _ => ⟨List.prefix_refl _, trivial⟩) (fun X hX _ => jMo_wordAt hL hX v1 v2 μ)

def Mo_reads_26 (a : Nat) (kb0 : Mu → Option (Unit × Mu))    (μ : Mu) : Option (Unit × Mu) := gF μ a 10 (fun x1 => pF μ a 10 (x1 + 1) (fun μ2 => kb0 μ2))
def Mo_reads_223 (a : Nat) (kb171 : Mu → Option (Unit × Mu))   (s0 : Int32) (μ : Mu) : Option (Unit × Mu) := pF μ a 13 s0 (fun μ1 => gF μ1 a 10 (fun x2 => pF μ1 a 10 (x2 + 1) (fun μ3 => kb171 μ3)))
def Mo_reads_171b (a : Nat)  (kb171 : Mu → Option (Unit × Mu))    (μ : Mu) : Option (Unit × Mu) := gF μ a 10 (fun x1 => cl (Mo_raw a x1 μ) (fun x3 μ2 => cl (Mo_isDigit a x3 μ2) (fun x5 μ4 => (if x5 = 0 then gF μ4 a 10 (fun x6 => gF μ4 a 11 (fun x7 => (if 5 ≤ (x6 - x7) then some ((), μ4) else pF μ4 a 12 3 (fun μ8 => some ((), μ8))))) else gF μ4 a 13 (fun x9 => (if 10000 ≤ x9 then gF μ4 a 13 (fun x10 => Mo_reads_223 a kb171 x10 μ4) else gF μ4 a 13 (fun x11 => gF μ4 a 10 (fun x12 => cl (Mo_raw a x12 μ4) (fun x14 μ13 => Mo_reads_223 a kb171 (((10 * x11) + x14) - 48) μ13)))))))))
def Mo_reads_171 (a : Nat)   (fu : Nat) : Mu → Option (Unit × Mu) := lp (fun kb => Mo_reads_171b a  kb ) (fun _ => none) fu
def Mo_reads_95b (a : Nat)  (kb95 : Mu → Option (Unit × Mu))    (μ : Mu) : Option (Unit × Mu) := gF μ a 10 (fun x1 => cl (Mo_raw a x1 μ) (fun x3 μ2 => cl (Mo_isLetter a x3 μ2) (fun x5 μ4 => (if x5 = 0 then gF μ4 a 11 (fun x6 => gF μ4 a 10 (fun x7 => cl (Mo_wordAt a x6 x7 μ4) (fun x9 μ8 => pF μ8 a 13 x9 (fun μ10 => gF μ10 a 13 (fun x11 => (if x11 = ((-1)) then some ((), μ10) else pF μ10 a 12 2 (fun μ12 => some ((), μ12)))))))) else gF μ4 a 10 (fun x13 => pF μ4 a 10 (x13 + 1) (fun μ14 => kb95 μ14))))))
def Mo_reads_95 (a : Nat)   (fu : Nat) : Mu → Option (Unit × Mu) := lp (fun kb => Mo_reads_95b a  kb ) (fun _ => none) fu
def Mo_reads_0b (a : Nat)  (kb0 : Mu → Option (Unit × Mu))    (μ : Mu) : Option (Unit × Mu) := gF μ a 10 (fun x1 => cl (Mo_raw a x1 μ) (fun x3 μ2 => (if x3 = 32 then Mo_reads_26 a kb0 μ2 else gF μ2 a 10 (fun x4 => cl (Mo_raw a x4 μ2) (fun x6 μ5 => (if x6 = 10 then Mo_reads_26 a kb0 μ5 else gF μ5 a 10 (fun x7 => pF μ5 a 11 x7 (fun μ8 => pF μ8 a 12 1 (fun μ9 => gF μ9 a 10 (fun x10 => cl (Mo_raw a x10 μ9) (fun x12 μ11 => (if x12 = ((-1)) then pF μ11 a 12 0 (fun μ24 => some ((), μ24)) else gF μ11 a 10 (fun x13 => pF μ11 a 10 (x13 + 1) (fun μ14 => pF μ14 a 13 x12 (fun μ15 => cl (Mo_isLetter a x12 μ15) (fun x17 μ16 => (if x17 = 0 then cl (Mo_isDigit a x12 μ16) (fun x19 μ18 => (if x19 = 0 then cl (Mo_isMarkSign a x12 μ18) (fun x21 μ20 => (if x21 = 0 then some ((), μ20) else pF μ20 a 12 4 (fun μ22 => some ((), μ22)))) else pF μ18 a 13 (x12 - 48) (fun μ23 => Mo_reads_171 a FU μ23))) else Mo_reads_95 a FU μ16)))))))))))))))))
def Mo_reads_0 (a : Nat)   (fu : Nat) : Mu → Option (Unit × Mu) := lp (fun kb => Mo_reads_0b a  kb ) (fun _ => none) fu
def Mo_reads (a : Nat)  (μ : Mu) : Option (Unit × Mu) := Mo_reads_0 a FU μ
set_option maxRecDepth 100000 in
set_option maxHeartbeats 4000000 in
theorem jMo_reads_26 {X : Cx} {l : Launch} {G : Gx} {y : Ly} {a : Nat} (hL : LyMo y a ) (hX : Ok X l G prog_13_method_31_code 2 none "SaltFiguresModel")    {kb0 : Mu → Option (Unit × Mu)} (hk0 : ∀  (μ : Mu), J X G 2 3 y (emy y) rvV tpT 0 [(0, .ref (G.1 + a))] [] (μ, y) (kb0  μ)) (μ : Mu) : J X G 2 3 y (emy y) rvV tpT 26 [(0, .ref (G.1 + a))] [] (μ, y) (Mo_reads_26 a kb0    μ) := by
  unfold Mo_reads_26
  refine J_aload_n (k0 := 0) (pc := 26) 0 hX (by decide +kernel) rfl rfl ?_
  refine J_aload_n (k0 := 0) (pc := 27) 0 hX (by decide +kernel) rfl rfl ?_
  refine J_gF (pc := 28) hX (by decide +kernel) fl_Mo_172 hL.1 rfl (fun x1 => ?_)
  refine J_iconst (pc := 31) (n := 1) (v := 1) hX (by decide +kernel) (by decide +kernel) ?_
  refine J_iadd (pc := 32) hX (by decide +kernel) ?_
  refine J_pF (pc := 33) hX (by decide +kernel) fl_Mo_172 hL.1 rfl (fun μ2 => ?_)
  refine J_goto (pc := 36) (off := -36) (tgt := 0) hX (by decide +kernel) (by decide +kernel) ?_
  exact J_sub [0] _ rfl (hk0 μ2)
set_option maxRecDepth 100000 in
set_option maxHeartbeats 4000000 in
theorem jMo_reads_223 {X : Cx} {l : Launch} {G : Gx} {y : Ly} {a : Nat} (hL : LyMo y a ) (hX : Ok X l G prog_13_method_31_code 2 none "SaltFiguresModel")   (s0 : Int32) {kb171 : Mu → Option (Unit × Mu)} (hk171 : ∀  (μ : Mu), J X G 2 3 y (emy y) rvV tpT 171 [(0, .ref (G.1 + a))] [] (μ, y) (kb171  μ)) (μ : Mu) : J X G 2 3 y (emy y) rvV tpT 223 [(0, .ref (G.1 + a))] [.int s0, .ref (G.1 + a)] (μ, y) (Mo_reads_223 a kb171   s0 μ) := by
  unfold Mo_reads_223
  refine J_pF (pc := 223) hX (by decide +kernel) fl_Mo_184 hL.1 rfl (fun μ1 => ?_)
  refine J_aload_n (k0 := 0) (pc := 226) 0 hX (by decide +kernel) rfl rfl ?_
  refine J_aload_n (k0 := 0) (pc := 227) 0 hX (by decide +kernel) rfl rfl ?_
  refine J_gF (pc := 228) hX (by decide +kernel) fl_Mo_172 hL.1 rfl (fun x2 => ?_)
  refine J_iconst (pc := 231) (n := 1) (v := 1) hX (by decide +kernel) (by decide +kernel) ?_
  refine J_iadd (pc := 232) hX (by decide +kernel) ?_
  refine J_pF (pc := 233) hX (by decide +kernel) fl_Mo_172 hL.1 rfl (fun μ3 => ?_)
  refine J_goto (pc := 236) (off := -65) (tgt := 171) hX (by decide +kernel) (by decide +kernel) ?_
  exact J_sub [0] _ rfl (hk171 μ3)
set_option maxRecDepth 100000 in
set_option maxHeartbeats 4000000 in
theorem jMo_reads_171b {X : Cx} {l : Launch} {G : Gx} {y : Ly} {a : Nat} (hL : LyMo y a ) (hX : Ok X l G prog_13_method_31_code 2 none "SaltFiguresModel")   {kb171 : Mu → Option (Unit × Mu)}  (hk171 : ∀  (μ : Mu), J X G 2 3 y (emy y) rvV tpT 171 [(0, .ref (G.1 + a))] [] (μ, y) (kb171  μ)) (μ : Mu) : J X G 2 3 y (emy y) rvV tpT 171 [(0, .ref (G.1 + a))] [] (μ, y) (Mo_reads_171b a  kb171    μ) := by
  unfold Mo_reads_171b
  refine J_aload_n (k0 := 0) (pc := 171) 0 hX (by decide +kernel) rfl rfl ?_
  refine J_aload_n (k0 := 0) (pc := 172) 0 hX (by decide +kernel) rfl rfl ?_
  refine J_aload_n (k0 := 0) (pc := 173) 0 hX (by decide +kernel) rfl rfl ?_
  refine J_gF (pc := 174) hX (by decide +kernel) fl_Mo_172 hL.1 rfl (fun x1 => ?_)
  refine J_cVi (pc := 177) (idx := 175) [.int x1] hX (by decide +kernel) (mq mt_7 26 (by decide +kernel)) mv_Mo_raw hL.1 rfl rfl (Nat.le_of_ble_eq_true rfl) (Nat.le_of_ble_eq_true rfl) (c_Mo_raw hL x1 μ) (fun x3 μ2 => ?_)
  refine J_cVi (pc := 180) (idx := 194) [.int x3] hX (by decide +kernel) (mq mt_7 38 (by decide +kernel)) mv_Mo_isDigit hL.1 rfl rfl (Nat.le_of_ble_eq_true rfl) (Nat.le_of_ble_eq_true rfl) (c_Mo_isDigit hL x3 μ2) (fun x5 μ4 => ?_)
  refine J_if_eq (pc := 183) (off := 56) (tgt := 239) hX (by decide +kernel) (by decide +kernel) (fun _ => ?_) (fun _ => ?_)
  · refine J_aload_n (k0 := 0) (pc := 239) 0 hX (by decide +kernel) rfl rfl ?_
    refine J_gF (pc := 240) hX (by decide +kernel) fl_Mo_172 hL.1 rfl (fun x6 => ?_)
    refine J_aload_n (k0 := 0) (pc := 243) 0 hX (by decide +kernel) rfl rfl ?_
    refine J_gF (pc := 244) hX (by decide +kernel) fl_Mo_178 hL.1 rfl (fun x7 => ?_)
    refine J_isub (pc := 247) hX (by decide +kernel) ?_
    refine J_iconst (pc := 248) (n := 5) (v := 5) hX (by decide +kernel) (by decide +kernel) ?_
    refine J_icmp_ge (pc := 249) (off := 24) (tgt := 273) hX (by decide +kernel) (by decide +kernel) (fun _ => ?_) (fun _ => ?_)
    · exact J_vret (pc := 273) hX (by decide +kernel) rfl trivial
    · refine J_aload_n (k0 := 0) (pc := 252) 0 hX (by decide +kernel) rfl rfl ?_
      refine J_iconst (pc := 253) (n := 3) (v := 3) hX (by decide +kernel) (by decide +kernel) ?_
      refine J_pF (pc := 254) hX (by decide +kernel) fl_Mo_181 hL.1 rfl (fun μ8 => ?_)
      refine J_goto (pc := 257) (off := 16) (tgt := 273) hX (by decide +kernel) (by decide +kernel) ?_
      exact J_vret (pc := 273) hX (by decide +kernel) rfl trivial
  · refine J_aload_n (k0 := 0) (pc := 186) 0 hX (by decide +kernel) rfl rfl ?_
    refine J_aload_n (k0 := 0) (pc := 187) 0 hX (by decide +kernel) rfl rfl ?_
    refine J_gF (pc := 188) hX (by decide +kernel) fl_Mo_184 hL.1 rfl (fun x9 => ?_)
    refine J_sipush (pc := 191) (n := 10000) (v := 10000) hX (by decide +kernel) (by decide +kernel) ?_
    refine J_icmp_ge (pc := 194) (off := 25) (tgt := 219) hX (by decide +kernel) (by decide +kernel) (fun _ => ?_) (fun _ => ?_)
    · refine J_aload_n (k0 := 0) (pc := 219) 0 hX (by decide +kernel) rfl rfl ?_
      refine J_gF (pc := 220) hX (by decide +kernel) fl_Mo_184 hL.1 rfl (fun x10 => ?_)
      exact J_sub [0] _ rfl (jMo_reads_223 hL hX x10 hk171 μ4)
    · refine J_bipush (pc := 197) (n := 10) (v := 10) hX (by decide +kernel) (by decide +kernel) ?_
      refine J_aload_n (k0 := 0) (pc := 199) 0 hX (by decide +kernel) rfl rfl ?_
      refine J_gF (pc := 200) hX (by decide +kernel) fl_Mo_184 hL.1 rfl (fun x11 => ?_)
      refine J_imul (pc := 203) hX (by decide +kernel) ?_
      refine J_aload_n (k0 := 0) (pc := 204) 0 hX (by decide +kernel) rfl rfl ?_
      refine J_aload_n (k0 := 0) (pc := 205) 0 hX (by decide +kernel) rfl rfl ?_
      refine J_gF (pc := 206) hX (by decide +kernel) fl_Mo_172 hL.1 rfl (fun x12 => ?_)
      refine J_cVi (pc := 209) (idx := 175) [.int x12] hX (by decide +kernel) (mq mt_7 26 (by decide +kernel)) mv_Mo_raw hL.1 rfl rfl (Nat.le_of_ble_eq_true rfl) (Nat.le_of_ble_eq_true rfl) (c_Mo_raw hL x12 μ4) (fun x14 μ13 => ?_)
      refine J_iadd (pc := 212) hX (by decide +kernel) ?_
      refine J_bipush (pc := 213) (n := 48) (v := 48) hX (by decide +kernel) (by decide +kernel) ?_
      refine J_isub (pc := 215) hX (by decide +kernel) ?_
      refine J_goto (pc := 216) (off := 7) (tgt := 223) hX (by decide +kernel) (by decide +kernel) ?_
      exact J_sub [0] _ rfl (jMo_reads_223 hL hX (((10 * x11) + x14) - 48) hk171 μ13)
set_option maxRecDepth 100000 in
set_option maxHeartbeats 4000000 in
theorem jMo_reads_171 {X : Cx} {l : Launch} {G : Gx} {y : Ly} {a : Nat} (hL : LyMo y a ) (hX : Ok X l G prog_13_method_31_code 2 none "SaltFiguresModel")    : ∀ (fu : Nat)  (μ : Mu), J X G 2 3 y (emy y) rvV tpT 171 [(0, .ref (G.1 + a))] [] (μ, y) (Mo_reads_171 a   fu  μ) := by
  intro fu
  induction fu with
  | zero => intros; exact J_none
  | succ fu ih => intro  μ; exact jMo_reads_171b hL hX   ih  μ
set_option maxRecDepth 100000 in
set_option maxHeartbeats 4000000 in
theorem jMo_reads_95b {X : Cx} {l : Launch} {G : Gx} {y : Ly} {a : Nat} (hL : LyMo y a ) (hX : Ok X l G prog_13_method_31_code 2 none "SaltFiguresModel")   {kb95 : Mu → Option (Unit × Mu)}  (hk95 : ∀  (μ : Mu), J X G 2 3 y (emy y) rvV tpT 95 [(0, .ref (G.1 + a))] [] (μ, y) (kb95  μ)) (μ : Mu) : J X G 2 3 y (emy y) rvV tpT 95 [(0, .ref (G.1 + a))] [] (μ, y) (Mo_reads_95b a  kb95    μ) := by
  unfold Mo_reads_95b
  refine J_aload_n (k0 := 0) (pc := 95) 0 hX (by decide +kernel) rfl rfl ?_
  refine J_aload_n (k0 := 0) (pc := 96) 0 hX (by decide +kernel) rfl rfl ?_
  refine J_aload_n (k0 := 0) (pc := 97) 0 hX (by decide +kernel) rfl rfl ?_
  refine J_gF (pc := 98) hX (by decide +kernel) fl_Mo_172 hL.1 rfl (fun x1 => ?_)
  refine J_cVi (pc := 101) (idx := 175) [.int x1] hX (by decide +kernel) (mq mt_7 26 (by decide +kernel)) mv_Mo_raw hL.1 rfl rfl (Nat.le_of_ble_eq_true rfl) (Nat.le_of_ble_eq_true rfl) (c_Mo_raw hL x1 μ) (fun x3 μ2 => ?_)
  refine J_cVi (pc := 104) (idx := 187) [.int x3] hX (by decide +kernel) (mq mt_7 30 (by decide +kernel)) mv_Mo_isLetter hL.1 rfl rfl (Nat.le_of_ble_eq_true rfl) (Nat.le_of_ble_eq_true rfl) (c_Mo_isLetter hL x3 μ2) (fun x5 μ4 => ?_)
  refine J_if_eq (pc := 107) (off := 16) (tgt := 123) hX (by decide +kernel) (by decide +kernel) (fun _ => ?_) (fun _ => ?_)
  · refine J_aload_n (k0 := 0) (pc := 123) 0 hX (by decide +kernel) rfl rfl ?_
    refine J_aload_n (k0 := 0) (pc := 124) 0 hX (by decide +kernel) rfl rfl ?_
    refine J_aload_n (k0 := 0) (pc := 125) 0 hX (by decide +kernel) rfl rfl ?_
    refine J_gF (pc := 126) hX (by decide +kernel) fl_Mo_178 hL.1 rfl (fun x6 => ?_)
    refine J_aload_n (k0 := 0) (pc := 129) 0 hX (by decide +kernel) rfl rfl ?_
    refine J_gF (pc := 130) hX (by decide +kernel) fl_Mo_172 hL.1 rfl (fun x7 => ?_)
    refine J_cVi (pc := 133) (idx := 190) [.int x6, .int x7] hX (by decide +kernel) (mq mt_7 34 (by decide +kernel)) mv_Mo_wordAt hL.1 rfl rfl (Nat.le_of_ble_eq_true rfl) (Nat.le_of_ble_eq_true rfl) (c_Mo_wordAt hL x6 x7 μ4) (fun x9 μ8 => ?_)
    refine J_pF (pc := 136) hX (by decide +kernel) fl_Mo_184 hL.1 rfl (fun μ10 => ?_)
    refine J_aload_n (k0 := 0) (pc := 139) 0 hX (by decide +kernel) rfl rfl ?_
    refine J_gF (pc := 140) hX (by decide +kernel) fl_Mo_184 hL.1 rfl (fun x11 => ?_)
    refine J_iconst (pc := 143) (n := -1) (v := (-1)) hX (by decide +kernel) (by decide +kernel) ?_
    refine J_icmp_eq (pc := 144) (off := 129) (tgt := 273) hX (by decide +kernel) (by decide +kernel) (fun _ => ?_) (fun _ => ?_)
    · exact J_vret (pc := 273) hX (by decide +kernel) rfl trivial
    · refine J_aload_n (k0 := 0) (pc := 147) 0 hX (by decide +kernel) rfl rfl ?_
      refine J_iconst (pc := 148) (n := 2) (v := 2) hX (by decide +kernel) (by decide +kernel) ?_
      refine J_pF (pc := 149) hX (by decide +kernel) fl_Mo_181 hL.1 rfl (fun μ12 => ?_)
      refine J_goto (pc := 152) (off := 121) (tgt := 273) hX (by decide +kernel) (by decide +kernel) ?_
      exact J_vret (pc := 273) hX (by decide +kernel) rfl trivial
  · refine J_aload_n (k0 := 0) (pc := 110) 0 hX (by decide +kernel) rfl rfl ?_
    refine J_aload_n (k0 := 0) (pc := 111) 0 hX (by decide +kernel) rfl rfl ?_
    refine J_gF (pc := 112) hX (by decide +kernel) fl_Mo_172 hL.1 rfl (fun x13 => ?_)
    refine J_iconst (pc := 115) (n := 1) (v := 1) hX (by decide +kernel) (by decide +kernel) ?_
    refine J_iadd (pc := 116) hX (by decide +kernel) ?_
    refine J_pF (pc := 117) hX (by decide +kernel) fl_Mo_172 hL.1 rfl (fun μ14 => ?_)
    refine J_goto (pc := 120) (off := -25) (tgt := 95) hX (by decide +kernel) (by decide +kernel) ?_
    exact J_sub [0] _ rfl (hk95 μ14)
set_option maxRecDepth 100000 in
set_option maxHeartbeats 4000000 in
theorem jMo_reads_95 {X : Cx} {l : Launch} {G : Gx} {y : Ly} {a : Nat} (hL : LyMo y a ) (hX : Ok X l G prog_13_method_31_code 2 none "SaltFiguresModel")    : ∀ (fu : Nat)  (μ : Mu), J X G 2 3 y (emy y) rvV tpT 95 [(0, .ref (G.1 + a))] [] (μ, y) (Mo_reads_95 a   fu  μ) := by
  intro fu
  induction fu with
  | zero => intros; exact J_none
  | succ fu ih => intro  μ; exact jMo_reads_95b hL hX   ih  μ
set_option maxRecDepth 100000 in
set_option maxHeartbeats 4000000 in
theorem jMo_reads_0b {X : Cx} {l : Launch} {G : Gx} {y : Ly} {a : Nat} (hL : LyMo y a ) (hX : Ok X l G prog_13_method_31_code 2 none "SaltFiguresModel")   {kb0 : Mu → Option (Unit × Mu)}  (hk0 : ∀  (μ : Mu), J X G 2 3 y (emy y) rvV tpT 0 [(0, .ref (G.1 + a))] [] (μ, y) (kb0  μ)) (μ : Mu) : J X G 2 3 y (emy y) rvV tpT 0 [(0, .ref (G.1 + a))] [] (μ, y) (Mo_reads_0b a  kb0    μ) := by
  unfold Mo_reads_0b
  refine J_aload_n (k0 := 0) (pc := 0) 0 hX (by decide +kernel) rfl rfl ?_
  refine J_aload_n (k0 := 0) (pc := 1) 0 hX (by decide +kernel) rfl rfl ?_
  refine J_gF (pc := 2) hX (by decide +kernel) fl_Mo_172 hL.1 rfl (fun x1 => ?_)
  refine J_cVi (pc := 5) (idx := 175) [.int x1] hX (by decide +kernel) (mq mt_7 26 (by decide +kernel)) mv_Mo_raw hL.1 rfl rfl (Nat.le_of_ble_eq_true rfl) (Nat.le_of_ble_eq_true rfl) (c_Mo_raw hL x1 μ) (fun x3 μ2 => ?_)
  refine J_bipush (pc := 8) (n := 32) (v := 32) hX (by decide +kernel) (by decide +kernel) ?_
  refine J_icmp_eq (pc := 10) (off := 16) (tgt := 26) hX (by decide +kernel) (by decide +kernel) (fun _ => ?_) (fun _ => ?_)
  · exact J_sub [0] _ rfl (jMo_reads_26 hL hX hk0 μ2)
  · refine J_aload_n (k0 := 0) (pc := 13) 0 hX (by decide +kernel) rfl rfl ?_
    refine J_aload_n (k0 := 0) (pc := 14) 0 hX (by decide +kernel) rfl rfl ?_
    refine J_gF (pc := 15) hX (by decide +kernel) fl_Mo_172 hL.1 rfl (fun x4 => ?_)
    refine J_cVi (pc := 18) (idx := 175) [.int x4] hX (by decide +kernel) (mq mt_7 26 (by decide +kernel)) mv_Mo_raw hL.1 rfl rfl (Nat.le_of_ble_eq_true rfl) (Nat.le_of_ble_eq_true rfl) (c_Mo_raw hL x4 μ2) (fun x6 μ5 => ?_)
    refine J_bipush (pc := 21) (n := 10) (v := 10) hX (by decide +kernel) (by decide +kernel) ?_
    refine J_icmp_ne (pc := 23) (off := 16) (tgt := 39) hX (by decide +kernel) (by decide +kernel) (fun _ => ?_) (fun _ => ?_)
    · refine J_aload_n (k0 := 0) (pc := 39) 0 hX (by decide +kernel) rfl rfl ?_
      refine J_aload_n (k0 := 0) (pc := 40) 0 hX (by decide +kernel) rfl rfl ?_
      refine J_gF (pc := 41) hX (by decide +kernel) fl_Mo_172 hL.1 rfl (fun x7 => ?_)
      refine J_pF (pc := 44) hX (by decide +kernel) fl_Mo_178 hL.1 rfl (fun μ8 => ?_)
      refine J_aload_n (k0 := 0) (pc := 47) 0 hX (by decide +kernel) rfl rfl ?_
      refine J_iconst (pc := 48) (n := 1) (v := 1) hX (by decide +kernel) (by decide +kernel) ?_
      refine J_pF (pc := 49) hX (by decide +kernel) fl_Mo_181 hL.1 rfl (fun μ9 => ?_)
      refine J_aload_n (k0 := 0) (pc := 52) 0 hX (by decide +kernel) rfl rfl ?_
      refine J_aload_n (k0 := 0) (pc := 53) 0 hX (by decide +kernel) rfl rfl ?_
      refine J_gF (pc := 54) hX (by decide +kernel) fl_Mo_172 hL.1 rfl (fun x10 => ?_)
      refine J_cVi (pc := 57) (idx := 175) [.int x10] hX (by decide +kernel) (mq mt_7 26 (by decide +kernel)) mv_Mo_raw hL.1 rfl rfl (Nat.le_of_ble_eq_true rfl) (Nat.le_of_ble_eq_true rfl) (c_Mo_raw hL x10 μ9) (fun x12 μ11 => ?_)
      refine J_istore_n (k0 := 1) (pc := 60) [(1, .int x12), (0, .ref (G.1 + a))] hX (by decide +kernel) rfl (by decide) rfl ?_
      refine J_iload_n (k0 := 1) (pc := 61) 0 hX (by decide +kernel) rfl rfl ?_
      refine J_iconst (pc := 62) (n := -1) (v := (-1)) hX (by decide +kernel) (by decide +kernel) ?_
      refine J_icmp_ne (pc := 63) (off := 9) (tgt := 72) hX (by decide +kernel) (by decide +kernel) (fun _ => ?_) (fun _ => ?_)
      · refine J_aload_n (k0 := 0) (pc := 72) 1 hX (by decide +kernel) rfl rfl ?_
        refine J_aload_n (k0 := 0) (pc := 73) 1 hX (by decide +kernel) rfl rfl ?_
        refine J_gF (pc := 74) hX (by decide +kernel) fl_Mo_172 hL.1 rfl (fun x13 => ?_)
        refine J_iconst (pc := 77) (n := 1) (v := 1) hX (by decide +kernel) (by decide +kernel) ?_
        refine J_iadd (pc := 78) hX (by decide +kernel) ?_
        refine J_pF (pc := 79) hX (by decide +kernel) fl_Mo_172 hL.1 rfl (fun μ14 => ?_)
        refine J_aload_n (k0 := 0) (pc := 82) 1 hX (by decide +kernel) rfl rfl ?_
        refine J_iload_n (k0 := 1) (pc := 83) 0 hX (by decide +kernel) rfl rfl ?_
        refine J_pF (pc := 84) hX (by decide +kernel) fl_Mo_184 hL.1 rfl (fun μ15 => ?_)
        refine J_aload_n (k0 := 0) (pc := 87) 1 hX (by decide +kernel) rfl rfl ?_
        refine J_iload_n (k0 := 1) (pc := 88) 0 hX (by decide +kernel) rfl rfl ?_
        refine J_cVi (pc := 89) (idx := 187) [.int x12] hX (by decide +kernel) (mq mt_7 30 (by decide +kernel)) mv_Mo_isLetter hL.1 rfl rfl (Nat.le_of_ble_eq_true rfl) (Nat.le_of_ble_eq_true rfl) (c_Mo_isLetter hL x12 μ15) (fun x17 μ16 => ?_)
        refine J_if_eq (pc := 92) (off := 63) (tgt := 155) hX (by decide +kernel) (by decide +kernel) (fun _ => ?_) (fun _ => ?_)
        · refine J_aload_n (k0 := 0) (pc := 155) 1 hX (by decide +kernel) rfl rfl ?_
          refine J_iload_n (k0 := 1) (pc := 156) 0 hX (by decide +kernel) rfl rfl ?_
          refine J_cVi (pc := 157) (idx := 194) [.int x12] hX (by decide +kernel) (mq mt_7 38 (by decide +kernel)) mv_Mo_isDigit hL.1 rfl rfl (Nat.le_of_ble_eq_true rfl) (Nat.le_of_ble_eq_true rfl) (c_Mo_isDigit hL x12 μ16) (fun x19 μ18 => ?_)
          refine J_if_eq (pc := 160) (off := 100) (tgt := 260) hX (by decide +kernel) (by decide +kernel) (fun _ => ?_) (fun _ => ?_)
          · refine J_aload_n (k0 := 0) (pc := 260) 1 hX (by decide +kernel) rfl rfl ?_
            refine J_iload_n (k0 := 1) (pc := 261) 0 hX (by decide +kernel) rfl rfl ?_
            refine J_cVi (pc := 262) (idx := 197) [.int x12] hX (by decide +kernel) (mq mt_7 42 (by decide +kernel)) mv_Mo_isMarkSign hL.1 rfl rfl (Nat.le_of_ble_eq_true rfl) (Nat.le_of_ble_eq_true rfl) (c_Mo_isMarkSign hL x12 μ18) (fun x21 μ20 => ?_)
            refine J_if_eq (pc := 265) (off := 8) (tgt := 273) hX (by decide +kernel) (by decide +kernel) (fun _ => ?_) (fun _ => ?_)
            · exact J_vret (pc := 273) hX (by decide +kernel) rfl trivial
            · refine J_aload_n (k0 := 0) (pc := 268) 1 hX (by decide +kernel) rfl rfl ?_
              refine J_iconst (pc := 269) (n := 4) (v := 4) hX (by decide +kernel) (by decide +kernel) ?_
              refine J_pF (pc := 270) hX (by decide +kernel) fl_Mo_181 hL.1 rfl (fun μ22 => ?_)
              exact J_vret (pc := 273) hX (by decide +kernel) rfl trivial
          · refine J_aload_n (k0 := 0) (pc := 163) 1 hX (by decide +kernel) rfl rfl ?_
            refine J_iload_n (k0 := 1) (pc := 164) 0 hX (by decide +kernel) rfl rfl ?_
            refine J_bipush (pc := 165) (n := 48) (v := 48) hX (by decide +kernel) (by decide +kernel) ?_
            refine J_isub (pc := 167) hX (by decide +kernel) ?_
            refine J_pF (pc := 168) hX (by decide +kernel) fl_Mo_184 hL.1 rfl (fun μ23 => ?_)
            exact J_sub [1] _ rfl (jMo_reads_171 hL hX FU μ23)
        · exact J_sub [1] _ rfl (jMo_reads_95 hL hX FU μ16)
      · refine J_aload_n (k0 := 0) (pc := 66) 1 hX (by decide +kernel) rfl rfl ?_
        refine J_iconst (pc := 67) (n := 0) (v := 0) hX (by decide +kernel) (by decide +kernel) ?_
        refine J_pF (pc := 68) hX (by decide +kernel) fl_Mo_181 hL.1 rfl (fun μ24 => ?_)
        exact J_vret (pc := 71) hX (by decide +kernel) rfl trivial
    · exact J_sub [0] _ rfl (jMo_reads_26 hL hX hk0 μ5)
set_option maxRecDepth 100000 in
set_option maxHeartbeats 4000000 in
theorem jMo_reads_0 {X : Cx} {l : Launch} {G : Gx} {y : Ly} {a : Nat} (hL : LyMo y a ) (hX : Ok X l G prog_13_method_31_code 2 none "SaltFiguresModel")    : ∀ (fu : Nat)  (μ : Mu), J X G 2 3 y (emy y) rvV tpT 0 [(0, .ref (G.1 + a))] [] (μ, y) (Mo_reads_0 a   fu  μ) := by
  intro fu
  induction fu with
  | zero => intros; exact J_none
  | succ fu ih => intro  μ; exact jMo_reads_0b hL hX   ih  μ
set_option maxRecDepth 100000 in
set_option maxHeartbeats 4000000 in
theorem jMo_reads {X : Cx} {l : Launch} {G : Gx} {y : Ly} {a : Nat} (hL : LyMo y a ) (hX : Ok X l G prog_13_method_31_code 2 none "SaltFiguresModel")  (μ : Mu) : J X G 2 3 y (emy y) rvV tpT 0 [(0, .ref (G.1 + a))] [] (μ, y) (Mo_reads a  μ) := by
  unfold Mo_reads
  exact J_sub [0] _ rfl (jMo_reads_0 hL hX FU μ)
set_option maxRecDepth 100000 in
set_option maxHeartbeats 4000000 in
theorem c_Mo_reads {l : Launch} {G : Gx} {y : Ly} {a : Nat} (hL : LyMo y a )  (μ : Mu) : Cn l G ⟨"SaltFiguresModel", "reads", "()V"⟩ prog_13_method_31_code 2 none 3 [.ref (G.1 + a)] (μ, y) (emy y) rvV tpT (Mo_reads a  μ) := cn_of (by decide +kernel) (Nat.le_of_ble_eq_true rfl) (fun _ _ _ => ⟨List.prefix_refl _, trivial⟩) (fun X hX _ => jMo_reads hL hX  μ)

def Mo_readUnit_71 (a : Nat)    (s0 : Int32) (s1 : Int32) (μ : Mu) : Option (Int32 × Mu) := cl (Mo_emits a s1 s0 μ) (fun _ μ1 => cl (Mo_reads a μ1) (fun _ μ2 => some (0, μ2)))
def Mo_readUnit_53 (a : Nat)   (v1 : Int32) (s0 : Int32) (μ : Mu) : Option (Int32 × Mu) := (if v1 = 0 then gF μ a 13 (fun x1 => Mo_readUnit_71 a x1 s0 μ) else gF μ a 13 (fun x2 => Mo_readUnit_71 a (x2 - 7) s0 μ))
def Mo_readUnit_43 (a : Nat)   (v1 : Int32)  (μ : Mu) : Option (Int32 × Mu) := (if v1 = 0 then Mo_readUnit_53 a v1 0 μ else Mo_readUnit_53 a v1 1 μ)
def Mo_readUnit_24 (a : Nat)    (s0 : Int32) (μ : Mu) : Option (Int32 × Mu) := (if s0 = 0 then gF μ a 12 (fun x1 => (if x1 = 3 then Mo_readUnit_43 a s0 μ else cl (Mo_errs a 1 μ) (fun x3 μ2 => some (x3, μ2)))) else Mo_readUnit_43 a s0 μ)
def Mo_readUnit_23 (a : Nat)     (μ : Mu) : Option (Int32 × Mu) := Mo_readUnit_24 a 0 μ
def Mo_readUnit (a : Nat)  (μ : Mu) : Option (Int32 × Mu) := gF μ a 12 (fun x1 => (if x1 = 2 then gF μ a 13 (fun x2 => cl (Mo_canAsk a x2 μ) (fun x4 μ3 => (if x4 = 0 then Mo_readUnit_23 a μ3 else Mo_readUnit_24 a 1 μ3))) else Mo_readUnit_23 a μ))
set_option maxRecDepth 100000 in
set_option maxHeartbeats 4000000 in
theorem jMo_readUnit_71 {X : Cx} {l : Launch} {G : Gx} {y : Ly} {a : Nat} (hL : LyMo y a ) (hX : Ok X l G prog_13_method_37_code 2 (some .int) "SaltFiguresModel")   (s0 : Int32) (s1 : Int32)   (μ : Mu) : J X G 2 4 y (emy y) rvI tpT 71 [(0, .ref (G.1 + a))] [.int s0, .int s1, .ref (G.1 + a)] (μ, y) (Mo_readUnit_71 a    s0 s1 μ) := by
  unfold Mo_readUnit_71
  refine J_cVv (pc := 71) (idx := 215) [.int s1, .int s0] hX (by decide +kernel) (mq mt_7 118 (by decide +kernel)) mv_Mo_emits hL.1 rfl rfl (Nat.le_of_ble_eq_true rfl) (Nat.le_of_ble_eq_true rfl) (c_Mo_emits hL s1 s0 μ) (fun μ1 => ?_)
  refine J_aload_n (k0 := 0) (pc := 74) 0 hX (by decide +kernel) rfl rfl ?_
  refine J_cVv (pc := 75) (idx := 219) [] hX (by decide +kernel) (mq mt_7 22 (by decide +kernel)) mv_Mo_reads hL.1 rfl rfl (Nat.le_of_ble_eq_true rfl) (Nat.le_of_ble_eq_true rfl) (c_Mo_reads hL μ1) (fun μ2 => ?_)
  refine J_iconst (pc := 78) (n := 0) (v := 0) hX (by decide +kernel) (by decide +kernel) ?_
  exact J_iret (pc := 79) hX (by decide +kernel) rfl trivial
set_option maxRecDepth 100000 in
set_option maxHeartbeats 4000000 in
theorem jMo_readUnit_53 {X : Cx} {l : Launch} {G : Gx} {y : Ly} {a : Nat} (hL : LyMo y a ) (hX : Ok X l G prog_13_method_37_code 2 (some .int) "SaltFiguresModel")  (v1 : Int32) (s0 : Int32)   (μ : Mu) : J X G 2 4 y (emy y) rvI tpT 53 [(0, .ref (G.1 + a)), (1, .int v1)] [.int s0, .ref (G.1 + a)] (μ, y) (Mo_readUnit_53 a   v1 s0 μ) := by
  unfold Mo_readUnit_53
  refine J_iload_n (k0 := 1) (pc := 53) 1 hX (by decide +kernel) rfl rfl ?_
  refine J_if_eq (pc := 54) (off := 13) (tgt := 67) hX (by decide +kernel) (by decide +kernel) (fun _ => ?_) (fun _ => ?_)
  · refine J_aload_n (k0 := 0) (pc := 67) 0 hX (by decide +kernel) rfl rfl ?_
    refine J_gF (pc := 68) hX (by decide +kernel) fl_Mo_184 hL.1 rfl (fun x1 => ?_)
    exact J_sub [0] _ rfl (jMo_readUnit_71 hL hX x1 s0 μ)
  · refine J_aload_n (k0 := 0) (pc := 57) 0 hX (by decide +kernel) rfl rfl ?_
    refine J_gF (pc := 58) hX (by decide +kernel) fl_Mo_184 hL.1 rfl (fun x2 => ?_)
    refine J_bipush (pc := 61) (n := 7) (v := 7) hX (by decide +kernel) (by decide +kernel) ?_
    refine J_isub (pc := 63) hX (by decide +kernel) ?_
    refine J_goto (pc := 64) (off := 7) (tgt := 71) hX (by decide +kernel) (by decide +kernel) ?_
    exact J_sub [0] _ rfl (jMo_readUnit_71 hL hX (x2 - 7) s0 μ)
set_option maxRecDepth 100000 in
set_option maxHeartbeats 4000000 in
theorem jMo_readUnit_43 {X : Cx} {l : Launch} {G : Gx} {y : Ly} {a : Nat} (hL : LyMo y a ) (hX : Ok X l G prog_13_method_37_code 2 (some .int) "SaltFiguresModel")  (v1 : Int32)    (μ : Mu) : J X G 2 4 y (emy y) rvI tpT 43 [(0, .ref (G.1 + a)), (1, .int v1)] [] (μ, y) (Mo_readUnit_43 a   v1  μ) := by
  unfold Mo_readUnit_43
  refine J_aload_n (k0 := 0) (pc := 43) 0 hX (by decide +kernel) rfl rfl ?_
  refine J_iload_n (k0 := 1) (pc := 44) 1 hX (by decide +kernel) rfl rfl ?_
  refine J_if_eq (pc := 45) (off := 7) (tgt := 52) hX (by decide +kernel) (by decide +kernel) (fun _ => ?_) (fun _ => ?_)
  · refine J_iconst (pc := 52) (n := 0) (v := 0) hX (by decide +kernel) (by decide +kernel) ?_
    exact J_sub [0, 1] _ rfl (jMo_readUnit_53 hL hX v1 0 μ)
  · refine J_iconst (pc := 48) (n := 1) (v := 1) hX (by decide +kernel) (by decide +kernel) ?_
    refine J_goto (pc := 49) (off := 4) (tgt := 53) hX (by decide +kernel) (by decide +kernel) ?_
    exact J_sub [0, 1] _ rfl (jMo_readUnit_53 hL hX v1 1 μ)
set_option maxRecDepth 100000 in
set_option maxHeartbeats 4000000 in
theorem jMo_readUnit_24 {X : Cx} {l : Launch} {G : Gx} {y : Ly} {a : Nat} (hL : LyMo y a ) (hX : Ok X l G prog_13_method_37_code 2 (some .int) "SaltFiguresModel")   (s0 : Int32)   (μ : Mu) : J X G 2 4 y (emy y) rvI tpT 24 [(0, .ref (G.1 + a))] [.int s0] (μ, y) (Mo_readUnit_24 a    s0 μ) := by
  unfold Mo_readUnit_24
  refine J_istore_n (k0 := 1) (pc := 24) [(1, .int s0), (0, .ref (G.1 + a))] hX (by decide +kernel) rfl (by decide) rfl ?_
  refine J_iload_n (k0 := 1) (pc := 25) 0 hX (by decide +kernel) rfl rfl ?_
  refine J_if_ne (pc := 26) (off := 17) (tgt := 43) hX (by decide +kernel) (by decide +kernel) (fun _ => ?_) (fun _ => ?_)
  · exact J_sub [1, 0] _ rfl (jMo_readUnit_43 hL hX s0 μ)
  · refine J_aload_n (k0 := 0) (pc := 29) 1 hX (by decide +kernel) rfl rfl ?_
    refine J_gF (pc := 30) hX (by decide +kernel) fl_Mo_181 hL.1 rfl (fun x1 => ?_)
    refine J_iconst (pc := 33) (n := 3) (v := 3) hX (by decide +kernel) (by decide +kernel) ?_
    refine J_icmp_eq (pc := 34) (off := 9) (tgt := 43) hX (by decide +kernel) (by decide +kernel) (fun _ => ?_) (fun _ => ?_)
    · exact J_sub [1, 0] _ rfl (jMo_readUnit_43 hL hX s0 μ)
    · refine J_aload_n (k0 := 0) (pc := 37) 1 hX (by decide +kernel) rfl rfl ?_
      refine J_iconst (pc := 38) (n := 1) (v := 1) hX (by decide +kernel) (by decide +kernel) ?_
      refine J_cVi (pc := 39) (idx := 212) [.int 1] hX (by decide +kernel) (mq mt_7 54 (by decide +kernel)) mv_Mo_errs hL.1 rfl rfl (Nat.le_of_ble_eq_true rfl) (Nat.le_of_ble_eq_true rfl) (c_Mo_errs hL 1 μ) (fun x3 μ2 => ?_)
      exact J_iret (pc := 42) hX (by decide +kernel) rfl trivial
set_option maxRecDepth 100000 in
set_option maxHeartbeats 4000000 in
theorem jMo_readUnit_23 {X : Cx} {l : Launch} {G : Gx} {y : Ly} {a : Nat} (hL : LyMo y a ) (hX : Ok X l G prog_13_method_37_code 2 (some .int) "SaltFiguresModel")      (μ : Mu) : J X G 2 4 y (emy y) rvI tpT 23 [(0, .ref (G.1 + a))] [] (μ, y) (Mo_readUnit_23 a     μ) := by
  unfold Mo_readUnit_23
  refine J_iconst (pc := 23) (n := 0) (v := 0) hX (by decide +kernel) (by decide +kernel) ?_
  exact J_sub [0] _ rfl (jMo_readUnit_24 hL hX 0 μ)
set_option maxRecDepth 100000 in
set_option maxHeartbeats 4000000 in
theorem jMo_readUnit {X : Cx} {l : Launch} {G : Gx} {y : Ly} {a : Nat} (hL : LyMo y a ) (hX : Ok X l G prog_13_method_37_code 2 (some .int) "SaltFiguresModel")  (μ : Mu) : J X G 2 4 y (emy y) rvI tpT 0 [(0, .ref (G.1 + a))] [] (μ, y) (Mo_readUnit a  μ) := by
  unfold Mo_readUnit
  refine J_aload_n (k0 := 0) (pc := 0) 0 hX (by decide +kernel) rfl rfl ?_
  refine J_gF (pc := 1) hX (by decide +kernel) fl_Mo_181 hL.1 rfl (fun x1 => ?_)
  refine J_iconst (pc := 4) (n := 2) (v := 2) hX (by decide +kernel) (by decide +kernel) ?_
  refine J_icmp_ne (pc := 5) (off := 18) (tgt := 23) hX (by decide +kernel) (by decide +kernel) (fun _ => ?_) (fun _ => ?_)
  · exact J_sub [0] _ rfl (jMo_readUnit_23 hL hX μ)
  · refine J_aload_n (k0 := 0) (pc := 8) 0 hX (by decide +kernel) rfl rfl ?_
    refine J_aload_n (k0 := 0) (pc := 9) 0 hX (by decide +kernel) rfl rfl ?_
    refine J_gF (pc := 10) hX (by decide +kernel) fl_Mo_184 hL.1 rfl (fun x2 => ?_)
    refine J_cVi (pc := 13) (idx := 209) [.int x2] hX (by decide +kernel) (mq mt_7 114 (by decide +kernel)) mv_Mo_canAsk hL.1 rfl rfl (Nat.le_of_ble_eq_true rfl) (Nat.le_of_ble_eq_true rfl) (c_Mo_canAsk hL x2 μ) (fun x4 μ3 => ?_)
    refine J_if_eq (pc := 16) (off := 7) (tgt := 23) hX (by decide +kernel) (by decide +kernel) (fun _ => ?_) (fun _ => ?_)
    · exact J_sub [0] _ rfl (jMo_readUnit_23 hL hX μ3)
    · refine J_iconst (pc := 19) (n := 1) (v := 1) hX (by decide +kernel) (by decide +kernel) ?_
      refine J_goto (pc := 20) (off := 4) (tgt := 24) hX (by decide +kernel) (by decide +kernel) ?_
      exact J_sub [0] _ rfl (jMo_readUnit_24 hL hX 1 μ3)
set_option maxRecDepth 100000 in
set_option maxHeartbeats 4000000 in
theorem c_Mo_readUnit {l : Launch} {G : Gx} {y : Ly} {a : Nat} (hL : LyMo y a )  (μ : Mu) : Cn l G ⟨"SaltFiguresModel", "readUnit", "()I"⟩ prog_13_method_37_code 2 (some .int) 4 [.ref (G.1 + a)] (μ, y) (emy y) rvI tpT (Mo_readUnit a  μ) := cn_of (by decide +kernel) (Nat.le_of_ble_eq_true rfl) (fun _ _ _ => ⟨List.prefix_refl _, trivial⟩) (fun X hX _ => jMo_readUnit hL hX  μ)

def Mo_readProduct_94 (a : Nat) (kb10 : Mu → Option (Int32 × Mu))   (s0 : Int32) (μ : Mu) : Option (Int32 × Mu) := cl (Mo_emits a s0 0 μ) (fun _ μ1 => kb10 μ1)
def Mo_readProduct_74 (a : Nat) (kb10 : Mu → Option (Int32 × Mu))  (v1 : Int32)  (μ : Mu) : Option (Int32 × Mu) := cl (Mo_readUnit a μ) (fun x2 μ1 => (if x2 = ((-1)) then some ((-1), μ1) else (if v1 = 0 then Mo_readProduct_94 a kb10 5 μ1 else Mo_readProduct_94 a kb10 4 μ1)))
def Mo_readProduct_57 (a : Nat) (kb10 : Mu → Option (Int32 × Mu))  (v1 : Int32)  (μ : Mu) : Option (Int32 × Mu) := (if v1 = 0 then gF μ a 13 (fun x1 => (if x1 = 0 then cl (Mo_errs a 2 μ) (fun x3 μ2 => some (x3, μ2)) else Mo_readProduct_74 a kb10 v1 μ)) else Mo_readProduct_74 a kb10 v1 μ)
def Mo_readProduct_28 (a : Nat) (kb10 : Mu → Option (Int32 × Mu))    (μ : Mu) : Option (Int32 × Mu) := cl (Mo_isSign a 42 μ) (fun x2 μ1 => cl (Mo_reads a μ1) (fun _ μ3 => (if x2 = 0 then gF μ3 a 12 (fun x4 => (if x4 = 3 then Mo_readProduct_57 a kb10 x2 μ3 else cl (Mo_errs a 1 μ3) (fun x6 μ5 => some (x6, μ5)))) else Mo_readProduct_57 a kb10 x2 μ3)))
def Mo_readProduct_10b (a : Nat)  (kb10 : Mu → Option (Int32 × Mu))    (μ : Mu) : Option (Int32 × Mu) := cl (Mo_isSign a 42 μ) (fun x2 μ1 => (if x2 = 0 then cl (Mo_isSign a 47 μ1) (fun x4 μ3 => (if x4 = 0 then some (0, μ3) else Mo_readProduct_28 a kb10 μ3)) else Mo_readProduct_28 a kb10 μ1))
def Mo_readProduct_10 (a : Nat)   (fu : Nat) : Mu → Option (Int32 × Mu) := lp (fun kb => Mo_readProduct_10b a  kb ) (fun _ => none) fu
def Mo_readProduct (a : Nat)  (μ : Mu) : Option (Int32 × Mu) := cl (Mo_readUnit a μ) (fun x2 μ1 => (if x2 = ((-1)) then some ((-1), μ1) else Mo_readProduct_10 a FU μ1))
set_option maxRecDepth 100000 in
set_option maxHeartbeats 4000000 in
theorem jMo_readProduct_94 {X : Cx} {l : Launch} {G : Gx} {y : Ly} {a : Nat} (hL : LyMo y a ) (hX : Ok X l G prog_13_method_38_code 2 (some .int) "SaltFiguresModel")   (s0 : Int32) {kb10 : Mu → Option (Int32 × Mu)} (hk10 : ∀  (μ : Mu), J X G 2 5 y (emy y) rvI tpT 10 [(0, .ref (G.1 + a))] [] (μ, y) (kb10  μ)) (μ : Mu) : J X G 2 5 y (emy y) rvI tpT 94 [(0, .ref (G.1 + a))] [.int s0, .ref (G.1 + a)] (μ, y) (Mo_readProduct_94 a kb10   s0 μ) := by
  unfold Mo_readProduct_94
  refine J_iconst (pc := 94) (n := 0) (v := 0) hX (by decide +kernel) (by decide +kernel) ?_
  refine J_cVv (pc := 95) (idx := 215) [.int s0, .int 0] hX (by decide +kernel) (mq mt_7 118 (by decide +kernel)) mv_Mo_emits hL.1 rfl rfl (Nat.le_of_ble_eq_true rfl) (Nat.le_of_ble_eq_true rfl) (c_Mo_emits hL s0 0 μ) (fun μ1 => ?_)
  refine J_goto (pc := 98) (off := -88) (tgt := 10) hX (by decide +kernel) (by decide +kernel) ?_
  exact J_sub [0] _ rfl (hk10 μ1)
set_option maxRecDepth 100000 in
set_option maxHeartbeats 4000000 in
theorem jMo_readProduct_74 {X : Cx} {l : Launch} {G : Gx} {y : Ly} {a : Nat} (hL : LyMo y a ) (hX : Ok X l G prog_13_method_38_code 2 (some .int) "SaltFiguresModel")  (v1 : Int32)  {kb10 : Mu → Option (Int32 × Mu)} (hk10 : ∀  (μ : Mu), J X G 2 5 y (emy y) rvI tpT 10 [(0, .ref (G.1 + a))] [] (μ, y) (kb10  μ)) (μ : Mu) : J X G 2 5 y (emy y) rvI tpT 74 [(0, .ref (G.1 + a)), (1, .int v1)] [] (μ, y) (Mo_readProduct_74 a kb10  v1  μ) := by
  unfold Mo_readProduct_74
  refine J_aload_n (k0 := 0) (pc := 74) 0 hX (by decide +kernel) rfl rfl ?_
  refine J_cVi (pc := 75) (idx := 222) [] hX (by decide +kernel) (mq mt_7 110 (by decide +kernel)) mv_Mo_readUnit hL.1 rfl rfl (Nat.le_of_ble_eq_true rfl) (Nat.le_of_ble_eq_true rfl) (c_Mo_readUnit hL μ) (fun x2 μ1 => ?_)
  refine J_iconst (pc := 78) (n := -1) (v := (-1)) hX (by decide +kernel) (by decide +kernel) ?_
  refine J_icmp_ne (pc := 79) (off := 5) (tgt := 84) hX (by decide +kernel) (by decide +kernel) (fun _ => ?_) (fun _ => ?_)
  · refine J_aload_n (k0 := 0) (pc := 84) 0 hX (by decide +kernel) rfl rfl ?_
    refine J_iload_n (k0 := 1) (pc := 85) 1 hX (by decide +kernel) rfl rfl ?_
    refine J_if_eq (pc := 86) (off := 7) (tgt := 93) hX (by decide +kernel) (by decide +kernel) (fun _ => ?_) (fun _ => ?_)
    · refine J_iconst (pc := 93) (n := 5) (v := 5) hX (by decide +kernel) (by decide +kernel) ?_
      exact J_sub [0] _ rfl (jMo_readProduct_94 hL hX 5 hk10 μ1)
    · refine J_iconst (pc := 89) (n := 4) (v := 4) hX (by decide +kernel) (by decide +kernel) ?_
      refine J_goto (pc := 90) (off := 4) (tgt := 94) hX (by decide +kernel) (by decide +kernel) ?_
      exact J_sub [0] _ rfl (jMo_readProduct_94 hL hX 4 hk10 μ1)
  · refine J_iconst (pc := 82) (n := -1) (v := (-1)) hX (by decide +kernel) (by decide +kernel) ?_
    exact J_iret (pc := 83) hX (by decide +kernel) rfl trivial
set_option maxRecDepth 100000 in
set_option maxHeartbeats 4000000 in
theorem jMo_readProduct_57 {X : Cx} {l : Launch} {G : Gx} {y : Ly} {a : Nat} (hL : LyMo y a ) (hX : Ok X l G prog_13_method_38_code 2 (some .int) "SaltFiguresModel")  (v1 : Int32)  {kb10 : Mu → Option (Int32 × Mu)} (hk10 : ∀  (μ : Mu), J X G 2 5 y (emy y) rvI tpT 10 [(0, .ref (G.1 + a))] [] (μ, y) (kb10  μ)) (μ : Mu) : J X G 2 5 y (emy y) rvI tpT 57 [(0, .ref (G.1 + a)), (1, .int v1)] [] (μ, y) (Mo_readProduct_57 a kb10  v1  μ) := by
  unfold Mo_readProduct_57
  refine J_iload_n (k0 := 1) (pc := 57) 1 hX (by decide +kernel) rfl rfl ?_
  refine J_if_ne (pc := 58) (off := 16) (tgt := 74) hX (by decide +kernel) (by decide +kernel) (fun _ => ?_) (fun _ => ?_)
  · exact J_sub [0, 1] _ rfl (jMo_readProduct_74 hL hX v1 hk10 μ)
  · refine J_aload_n (k0 := 0) (pc := 61) 0 hX (by decide +kernel) rfl rfl ?_
    refine J_gF (pc := 62) hX (by decide +kernel) fl_Mo_184 hL.1 rfl (fun x1 => ?_)
    refine J_if_ne (pc := 65) (off := 9) (tgt := 74) hX (by decide +kernel) (by decide +kernel) (fun _ => ?_) (fun _ => ?_)
    · exact J_sub [0, 1] _ rfl (jMo_readProduct_74 hL hX v1 hk10 μ)
    · refine J_aload_n (k0 := 0) (pc := 68) 0 hX (by decide +kernel) rfl rfl ?_
      refine J_iconst (pc := 69) (n := 2) (v := 2) hX (by decide +kernel) (by decide +kernel) ?_
      refine J_cVi (pc := 70) (idx := 212) [.int 2] hX (by decide +kernel) (mq mt_7 54 (by decide +kernel)) mv_Mo_errs hL.1 rfl rfl (Nat.le_of_ble_eq_true rfl) (Nat.le_of_ble_eq_true rfl) (c_Mo_errs hL 2 μ) (fun x3 μ2 => ?_)
      exact J_iret (pc := 73) hX (by decide +kernel) rfl trivial
set_option maxRecDepth 100000 in
set_option maxHeartbeats 4000000 in
theorem jMo_readProduct_28 {X : Cx} {l : Launch} {G : Gx} {y : Ly} {a : Nat} (hL : LyMo y a ) (hX : Ok X l G prog_13_method_38_code 2 (some .int) "SaltFiguresModel")    {kb10 : Mu → Option (Int32 × Mu)} (hk10 : ∀  (μ : Mu), J X G 2 5 y (emy y) rvI tpT 10 [(0, .ref (G.1 + a))] [] (μ, y) (kb10  μ)) (μ : Mu) : J X G 2 5 y (emy y) rvI tpT 28 [(0, .ref (G.1 + a))] [] (μ, y) (Mo_readProduct_28 a kb10    μ) := by
  unfold Mo_readProduct_28
  refine J_aload_n (k0 := 0) (pc := 28) 0 hX (by decide +kernel) rfl rfl ?_
  refine J_bipush (pc := 29) (n := 42) (v := 42) hX (by decide +kernel) (by decide +kernel) ?_
  refine J_cVi (pc := 31) (idx := 226) [.int 42] hX (by decide +kernel) (mq mt_7 70 (by decide +kernel)) mv_Mo_isSign hL.1 rfl rfl (Nat.le_of_ble_eq_true rfl) (Nat.le_of_ble_eq_true rfl) (c_Mo_isSign hL 42 μ) (fun x2 μ1 => ?_)
  refine J_istore_n (k0 := 1) (pc := 34) [(1, .int x2), (0, .ref (G.1 + a))] hX (by decide +kernel) rfl (by decide) rfl ?_
  refine J_aload_n (k0 := 0) (pc := 35) 1 hX (by decide +kernel) rfl rfl ?_
  refine J_cVv (pc := 36) (idx := 219) [] hX (by decide +kernel) (mq mt_7 22 (by decide +kernel)) mv_Mo_reads hL.1 rfl rfl (Nat.le_of_ble_eq_true rfl) (Nat.le_of_ble_eq_true rfl) (c_Mo_reads hL μ1) (fun μ3 => ?_)
  refine J_iload_n (k0 := 1) (pc := 39) 0 hX (by decide +kernel) rfl rfl ?_
  refine J_if_ne (pc := 40) (off := 17) (tgt := 57) hX (by decide +kernel) (by decide +kernel) (fun _ => ?_) (fun _ => ?_)
  · exact J_sub [1, 0] _ rfl (jMo_readProduct_57 hL hX x2 hk10 μ3)
  · refine J_aload_n (k0 := 0) (pc := 43) 1 hX (by decide +kernel) rfl rfl ?_
    refine J_gF (pc := 44) hX (by decide +kernel) fl_Mo_181 hL.1 rfl (fun x4 => ?_)
    refine J_iconst (pc := 47) (n := 3) (v := 3) hX (by decide +kernel) (by decide +kernel) ?_
    refine J_icmp_eq (pc := 48) (off := 9) (tgt := 57) hX (by decide +kernel) (by decide +kernel) (fun _ => ?_) (fun _ => ?_)
    · exact J_sub [1, 0] _ rfl (jMo_readProduct_57 hL hX x2 hk10 μ3)
    · refine J_aload_n (k0 := 0) (pc := 51) 1 hX (by decide +kernel) rfl rfl ?_
      refine J_iconst (pc := 52) (n := 1) (v := 1) hX (by decide +kernel) (by decide +kernel) ?_
      refine J_cVi (pc := 53) (idx := 212) [.int 1] hX (by decide +kernel) (mq mt_7 54 (by decide +kernel)) mv_Mo_errs hL.1 rfl rfl (Nat.le_of_ble_eq_true rfl) (Nat.le_of_ble_eq_true rfl) (c_Mo_errs hL 1 μ3) (fun x6 μ5 => ?_)
      exact J_iret (pc := 56) hX (by decide +kernel) rfl trivial
set_option maxRecDepth 100000 in
set_option maxHeartbeats 4000000 in
theorem jMo_readProduct_10b {X : Cx} {l : Launch} {G : Gx} {y : Ly} {a : Nat} (hL : LyMo y a ) (hX : Ok X l G prog_13_method_38_code 2 (some .int) "SaltFiguresModel")   {kb10 : Mu → Option (Int32 × Mu)}  (hk10 : ∀  (μ : Mu), J X G 2 5 y (emy y) rvI tpT 10 [(0, .ref (G.1 + a))] [] (μ, y) (kb10  μ)) (μ : Mu) : J X G 2 5 y (emy y) rvI tpT 10 [(0, .ref (G.1 + a))] [] (μ, y) (Mo_readProduct_10b a  kb10    μ) := by
  unfold Mo_readProduct_10b
  refine J_aload_n (k0 := 0) (pc := 10) 0 hX (by decide +kernel) rfl rfl ?_
  refine J_bipush (pc := 11) (n := 42) (v := 42) hX (by decide +kernel) (by decide +kernel) ?_
  refine J_cVi (pc := 13) (idx := 226) [.int 42] hX (by decide +kernel) (mq mt_7 70 (by decide +kernel)) mv_Mo_isSign hL.1 rfl rfl (Nat.le_of_ble_eq_true rfl) (Nat.le_of_ble_eq_true rfl) (c_Mo_isSign hL 42 μ) (fun x2 μ1 => ?_)
  refine J_if_ne (pc := 16) (off := 12) (tgt := 28) hX (by decide +kernel) (by decide +kernel) (fun _ => ?_) (fun _ => ?_)
  · exact J_sub [0] _ rfl (jMo_readProduct_28 hL hX hk10 μ1)
  · refine J_aload_n (k0 := 0) (pc := 19) 0 hX (by decide +kernel) rfl rfl ?_
    refine J_bipush (pc := 20) (n := 47) (v := 47) hX (by decide +kernel) (by decide +kernel) ?_
    refine J_cVi (pc := 22) (idx := 226) [.int 47] hX (by decide +kernel) (mq mt_7 70 (by decide +kernel)) mv_Mo_isSign hL.1 rfl rfl (Nat.le_of_ble_eq_true rfl) (Nat.le_of_ble_eq_true rfl) (c_Mo_isSign hL 47 μ1) (fun x4 μ3 => ?_)
    refine J_if_eq (pc := 25) (off := 76) (tgt := 101) hX (by decide +kernel) (by decide +kernel) (fun _ => ?_) (fun _ => ?_)
    · refine J_iconst (pc := 101) (n := 0) (v := 0) hX (by decide +kernel) (by decide +kernel) ?_
      exact J_iret (pc := 102) hX (by decide +kernel) rfl trivial
    · exact J_sub [0] _ rfl (jMo_readProduct_28 hL hX hk10 μ3)
set_option maxRecDepth 100000 in
set_option maxHeartbeats 4000000 in
theorem jMo_readProduct_10 {X : Cx} {l : Launch} {G : Gx} {y : Ly} {a : Nat} (hL : LyMo y a ) (hX : Ok X l G prog_13_method_38_code 2 (some .int) "SaltFiguresModel")    : ∀ (fu : Nat)  (μ : Mu), J X G 2 5 y (emy y) rvI tpT 10 [(0, .ref (G.1 + a))] [] (μ, y) (Mo_readProduct_10 a   fu  μ) := by
  intro fu
  induction fu with
  | zero => intros; exact J_none
  | succ fu ih => intro  μ; exact jMo_readProduct_10b hL hX   ih  μ
set_option maxRecDepth 100000 in
set_option maxHeartbeats 4000000 in
theorem jMo_readProduct {X : Cx} {l : Launch} {G : Gx} {y : Ly} {a : Nat} (hL : LyMo y a ) (hX : Ok X l G prog_13_method_38_code 2 (some .int) "SaltFiguresModel")  (μ : Mu) : J X G 2 5 y (emy y) rvI tpT 0 [(0, .ref (G.1 + a))] [] (μ, y) (Mo_readProduct a  μ) := by
  unfold Mo_readProduct
  refine J_aload_n (k0 := 0) (pc := 0) 0 hX (by decide +kernel) rfl rfl ?_
  refine J_cVi (pc := 1) (idx := 222) [] hX (by decide +kernel) (mq mt_7 110 (by decide +kernel)) mv_Mo_readUnit hL.1 rfl rfl (Nat.le_of_ble_eq_true rfl) (Nat.le_of_ble_eq_true rfl) (c_Mo_readUnit hL μ) (fun x2 μ1 => ?_)
  refine J_iconst (pc := 4) (n := -1) (v := (-1)) hX (by decide +kernel) (by decide +kernel) ?_
  refine J_icmp_ne (pc := 5) (off := 5) (tgt := 10) hX (by decide +kernel) (by decide +kernel) (fun _ => ?_) (fun _ => ?_)
  · exact J_sub [0] _ rfl (jMo_readProduct_10 hL hX FU μ1)
  · refine J_iconst (pc := 8) (n := -1) (v := (-1)) hX (by decide +kernel) (by decide +kernel) ?_
    exact J_iret (pc := 9) hX (by decide +kernel) rfl trivial
set_option maxRecDepth 100000 in
set_option maxHeartbeats 4000000 in
theorem c_Mo_readProduct {l : Launch} {G : Gx} {y : Ly} {a : Nat} (hL : LyMo y a )  (μ : Mu) : Cn l G ⟨"SaltFiguresModel", "readProduct", "()I"⟩ prog_13_method_38_code 2 (some .int) 5 [.ref (G.1 + a)] (μ, y) (emy y) rvI tpT (Mo_readProduct a  μ) := cn_of (by decide +kernel) (Nat.le_of_ble_eq_true rfl) (fun _ _ _ => ⟨List.prefix_refl _, trivial⟩) (fun X hX _ => jMo_readProduct hL hX  μ)

def Mo_readSum_42 (a : Nat) (kb10 : Mu → Option (Int32 × Mu))   (s0 : Int32) (μ : Mu) : Option (Int32 × Mu) := cl (Mo_reads a μ) (fun _ μ1 => cl (Mo_readProduct a μ1) (fun x3 μ2 => (if x3 = ((-1)) then some ((-1), μ2) else cl (Mo_emits a s0 0 μ2) (fun _ μ4 => kb10 μ4))))
def Mo_readSum_28 (a : Nat) (kb10 : Mu → Option (Int32 × Mu))    (μ : Mu) : Option (Int32 × Mu) := gF μ a 13 (fun x1 => (if x1 = 43 then Mo_readSum_42 a kb10 2 μ else Mo_readSum_42 a kb10 3 μ))
def Mo_readSum_10b (a : Nat)  (kb10 : Mu → Option (Int32 × Mu))    (μ : Mu) : Option (Int32 × Mu) := cl (Mo_isSign a 43 μ) (fun x2 μ1 => (if x2 = 0 then cl (Mo_isSign a 45 μ1) (fun x4 μ3 => (if x4 = 0 then some (0, μ3) else Mo_readSum_28 a kb10 μ3)) else Mo_readSum_28 a kb10 μ1))
def Mo_readSum_10 (a : Nat)   (fu : Nat) : Mu → Option (Int32 × Mu) := lp (fun kb => Mo_readSum_10b a  kb ) (fun _ => none) fu
def Mo_readSum (a : Nat)  (μ : Mu) : Option (Int32 × Mu) := cl (Mo_readProduct a μ) (fun x2 μ1 => (if x2 = ((-1)) then some ((-1), μ1) else Mo_readSum_10 a FU μ1))
set_option maxRecDepth 100000 in
set_option maxHeartbeats 4000000 in
theorem jMo_readSum_42 {X : Cx} {l : Launch} {G : Gx} {y : Ly} {a : Nat} (hL : LyMo y a ) (hX : Ok X l G prog_13_method_39_code 2 (some .int) "SaltFiguresModel")   (s0 : Int32) {kb10 : Mu → Option (Int32 × Mu)} (hk10 : ∀  (μ : Mu), J X G 2 6 y (emy y) rvI tpT 10 [(0, .ref (G.1 + a))] [] (μ, y) (kb10  μ)) (μ : Mu) : J X G 2 6 y (emy y) rvI tpT 42 [(0, .ref (G.1 + a))] [.int s0] (μ, y) (Mo_readSum_42 a kb10   s0 μ) := by
  unfold Mo_readSum_42
  refine J_istore_n (k0 := 1) (pc := 42) [(1, .int s0), (0, .ref (G.1 + a))] hX (by decide +kernel) rfl (by decide) rfl ?_
  refine J_aload_n (k0 := 0) (pc := 43) 1 hX (by decide +kernel) rfl rfl ?_
  refine J_cVv (pc := 44) (idx := 219) [] hX (by decide +kernel) (mq mt_7 22 (by decide +kernel)) mv_Mo_reads hL.1 rfl rfl (Nat.le_of_ble_eq_true rfl) (Nat.le_of_ble_eq_true rfl) (c_Mo_reads hL μ) (fun μ1 => ?_)
  refine J_aload_n (k0 := 0) (pc := 47) 1 hX (by decide +kernel) rfl rfl ?_
  refine J_cVi (pc := 48) (idx := 229) [] hX (by decide +kernel) (mq mt_7 106 (by decide +kernel)) mv_Mo_readProduct hL.1 rfl rfl (Nat.le_of_ble_eq_true rfl) (Nat.le_of_ble_eq_true rfl) (c_Mo_readProduct hL μ1) (fun x3 μ2 => ?_)
  refine J_iconst (pc := 51) (n := -1) (v := (-1)) hX (by decide +kernel) (by decide +kernel) ?_
  refine J_icmp_ne (pc := 52) (off := 5) (tgt := 57) hX (by decide +kernel) (by decide +kernel) (fun _ => ?_) (fun _ => ?_)
  · refine J_aload_n (k0 := 0) (pc := 57) 1 hX (by decide +kernel) rfl rfl ?_
    refine J_iload_n (k0 := 1) (pc := 58) 0 hX (by decide +kernel) rfl rfl ?_
    refine J_iconst (pc := 59) (n := 0) (v := 0) hX (by decide +kernel) (by decide +kernel) ?_
    refine J_cVv (pc := 60) (idx := 215) [.int s0, .int 0] hX (by decide +kernel) (mq mt_7 118 (by decide +kernel)) mv_Mo_emits hL.1 rfl rfl (Nat.le_of_ble_eq_true rfl) (Nat.le_of_ble_eq_true rfl) (c_Mo_emits hL s0 0 μ2) (fun μ4 => ?_)
    refine J_goto (pc := 63) (off := -53) (tgt := 10) hX (by decide +kernel) (by decide +kernel) ?_
    exact J_sub [1] _ rfl (hk10 μ4)
  · refine J_iconst (pc := 55) (n := -1) (v := (-1)) hX (by decide +kernel) (by decide +kernel) ?_
    exact J_iret (pc := 56) hX (by decide +kernel) rfl trivial
set_option maxRecDepth 100000 in
set_option maxHeartbeats 4000000 in
theorem jMo_readSum_28 {X : Cx} {l : Launch} {G : Gx} {y : Ly} {a : Nat} (hL : LyMo y a ) (hX : Ok X l G prog_13_method_39_code 2 (some .int) "SaltFiguresModel")    {kb10 : Mu → Option (Int32 × Mu)} (hk10 : ∀  (μ : Mu), J X G 2 6 y (emy y) rvI tpT 10 [(0, .ref (G.1 + a))] [] (μ, y) (kb10  μ)) (μ : Mu) : J X G 2 6 y (emy y) rvI tpT 28 [(0, .ref (G.1 + a))] [] (μ, y) (Mo_readSum_28 a kb10    μ) := by
  unfold Mo_readSum_28
  refine J_aload_n (k0 := 0) (pc := 28) 0 hX (by decide +kernel) rfl rfl ?_
  refine J_gF (pc := 29) hX (by decide +kernel) fl_Mo_184 hL.1 rfl (fun x1 => ?_)
  refine J_bipush (pc := 32) (n := 43) (v := 43) hX (by decide +kernel) (by decide +kernel) ?_
  refine J_icmp_ne (pc := 34) (off := 7) (tgt := 41) hX (by decide +kernel) (by decide +kernel) (fun _ => ?_) (fun _ => ?_)
  · refine J_iconst (pc := 41) (n := 3) (v := 3) hX (by decide +kernel) (by decide +kernel) ?_
    exact J_sub [0] _ rfl (jMo_readSum_42 hL hX 3 hk10 μ)
  · refine J_iconst (pc := 37) (n := 2) (v := 2) hX (by decide +kernel) (by decide +kernel) ?_
    refine J_goto (pc := 38) (off := 4) (tgt := 42) hX (by decide +kernel) (by decide +kernel) ?_
    exact J_sub [0] _ rfl (jMo_readSum_42 hL hX 2 hk10 μ)
set_option maxRecDepth 100000 in
set_option maxHeartbeats 4000000 in
theorem jMo_readSum_10b {X : Cx} {l : Launch} {G : Gx} {y : Ly} {a : Nat} (hL : LyMo y a ) (hX : Ok X l G prog_13_method_39_code 2 (some .int) "SaltFiguresModel")   {kb10 : Mu → Option (Int32 × Mu)}  (hk10 : ∀  (μ : Mu), J X G 2 6 y (emy y) rvI tpT 10 [(0, .ref (G.1 + a))] [] (μ, y) (kb10  μ)) (μ : Mu) : J X G 2 6 y (emy y) rvI tpT 10 [(0, .ref (G.1 + a))] [] (μ, y) (Mo_readSum_10b a  kb10    μ) := by
  unfold Mo_readSum_10b
  refine J_aload_n (k0 := 0) (pc := 10) 0 hX (by decide +kernel) rfl rfl ?_
  refine J_bipush (pc := 11) (n := 43) (v := 43) hX (by decide +kernel) (by decide +kernel) ?_
  refine J_cVi (pc := 13) (idx := 226) [.int 43] hX (by decide +kernel) (mq mt_7 70 (by decide +kernel)) mv_Mo_isSign hL.1 rfl rfl (Nat.le_of_ble_eq_true rfl) (Nat.le_of_ble_eq_true rfl) (c_Mo_isSign hL 43 μ) (fun x2 μ1 => ?_)
  refine J_if_ne (pc := 16) (off := 12) (tgt := 28) hX (by decide +kernel) (by decide +kernel) (fun _ => ?_) (fun _ => ?_)
  · exact J_sub [0] _ rfl (jMo_readSum_28 hL hX hk10 μ1)
  · refine J_aload_n (k0 := 0) (pc := 19) 0 hX (by decide +kernel) rfl rfl ?_
    refine J_bipush (pc := 20) (n := 45) (v := 45) hX (by decide +kernel) (by decide +kernel) ?_
    refine J_cVi (pc := 22) (idx := 226) [.int 45] hX (by decide +kernel) (mq mt_7 70 (by decide +kernel)) mv_Mo_isSign hL.1 rfl rfl (Nat.le_of_ble_eq_true rfl) (Nat.le_of_ble_eq_true rfl) (c_Mo_isSign hL 45 μ1) (fun x4 μ3 => ?_)
    refine J_if_eq (pc := 25) (off := 41) (tgt := 66) hX (by decide +kernel) (by decide +kernel) (fun _ => ?_) (fun _ => ?_)
    · refine J_iconst (pc := 66) (n := 0) (v := 0) hX (by decide +kernel) (by decide +kernel) ?_
      exact J_iret (pc := 67) hX (by decide +kernel) rfl trivial
    · exact J_sub [0] _ rfl (jMo_readSum_28 hL hX hk10 μ3)
set_option maxRecDepth 100000 in
set_option maxHeartbeats 4000000 in
theorem jMo_readSum_10 {X : Cx} {l : Launch} {G : Gx} {y : Ly} {a : Nat} (hL : LyMo y a ) (hX : Ok X l G prog_13_method_39_code 2 (some .int) "SaltFiguresModel")    : ∀ (fu : Nat)  (μ : Mu), J X G 2 6 y (emy y) rvI tpT 10 [(0, .ref (G.1 + a))] [] (μ, y) (Mo_readSum_10 a   fu  μ) := by
  intro fu
  induction fu with
  | zero => intros; exact J_none
  | succ fu ih => intro  μ; exact jMo_readSum_10b hL hX   ih  μ
set_option maxRecDepth 100000 in
set_option maxHeartbeats 4000000 in
theorem jMo_readSum {X : Cx} {l : Launch} {G : Gx} {y : Ly} {a : Nat} (hL : LyMo y a ) (hX : Ok X l G prog_13_method_39_code 2 (some .int) "SaltFiguresModel")  (μ : Mu) : J X G 2 6 y (emy y) rvI tpT 0 [(0, .ref (G.1 + a))] [] (μ, y) (Mo_readSum a  μ) := by
  unfold Mo_readSum
  refine J_aload_n (k0 := 0) (pc := 0) 0 hX (by decide +kernel) rfl rfl ?_
  refine J_cVi (pc := 1) (idx := 229) [] hX (by decide +kernel) (mq mt_7 106 (by decide +kernel)) mv_Mo_readProduct hL.1 rfl rfl (Nat.le_of_ble_eq_true rfl) (Nat.le_of_ble_eq_true rfl) (c_Mo_readProduct hL μ) (fun x2 μ1 => ?_)
  refine J_iconst (pc := 4) (n := -1) (v := (-1)) hX (by decide +kernel) (by decide +kernel) ?_
  refine J_icmp_ne (pc := 5) (off := 5) (tgt := 10) hX (by decide +kernel) (by decide +kernel) (fun _ => ?_) (fun _ => ?_)
  · exact J_sub [0] _ rfl (jMo_readSum_10 hL hX FU μ1)
  · refine J_iconst (pc := 8) (n := -1) (v := (-1)) hX (by decide +kernel) (by decide +kernel) ?_
    exact J_iret (pc := 9) hX (by decide +kernel) rfl trivial
set_option maxRecDepth 100000 in
set_option maxHeartbeats 4000000 in
theorem c_Mo_readSum {l : Launch} {G : Gx} {y : Ly} {a : Nat} (hL : LyMo y a )  (μ : Mu) : Cn l G ⟨"SaltFiguresModel", "readSum", "()I"⟩ prog_13_method_39_code 2 (some .int) 6 [.ref (G.1 + a)] (μ, y) (emy y) rvI tpT (Mo_readSum a  μ) := cn_of (by decide +kernel) (Nat.le_of_ble_eq_true rfl) (fun _ _ _ => ⟨List.prefix_refl _, trivial⟩) (fun X hX _ => jMo_readSum hL hX  μ)

def Mo_readCompared_73 (a : Nat)    (s0 : Int32) (μ : Mu) : Option (Int32 × Mu) := cl (Mo_reads a μ) (fun _ μ1 => cl (Mo_readSum a μ1) (fun x3 μ2 => (if x3 = ((-1)) then some ((-1), μ2) else cl (Mo_emits a s0 0 μ2) (fun _ μ4 => some (0, μ4)))))
def Mo_readCompared_43 (a : Nat)     (μ : Mu) : Option (Int32 × Mu) := gF μ a 13 (fun x1 => (if x1 = 60 then Mo_readCompared_73 a 6 μ else gF μ a 13 (fun x2 => (if x2 = 61 then Mo_readCompared_73 a 7 μ else Mo_readCompared_73 a 8 μ))))
def Mo_readCompared (a : Nat)  (μ : Mu) : Option (Int32 × Mu) := cl (Mo_readSum a μ) (fun x2 μ1 => (if x2 = ((-1)) then some ((-1), μ1) else cl (Mo_isSign a 60 μ1) (fun x4 μ3 => (if x4 = 0 then cl (Mo_isSign a 61 μ3) (fun x6 μ5 => (if x6 = 0 then cl (Mo_isSign a 62 μ5) (fun x8 μ7 => (if x8 = 0 then cl (Mo_errs a 1 μ7) (fun x10 μ9 => some (x10, μ9)) else Mo_readCompared_43 a μ7)) else Mo_readCompared_43 a μ5)) else Mo_readCompared_43 a μ3))))
set_option maxRecDepth 100000 in
set_option maxHeartbeats 4000000 in
theorem jMo_readCompared_73 {X : Cx} {l : Launch} {G : Gx} {y : Ly} {a : Nat} (hL : LyMo y a ) (hX : Ok X l G prog_13_method_40_code 2 (some .int) "SaltFiguresModel")   (s0 : Int32)   (μ : Mu) : J X G 2 7 y (emy y) rvI tpT 73 [(0, .ref (G.1 + a))] [.int s0] (μ, y) (Mo_readCompared_73 a    s0 μ) := by
  unfold Mo_readCompared_73
  refine J_istore_n (k0 := 1) (pc := 73) [(1, .int s0), (0, .ref (G.1 + a))] hX (by decide +kernel) rfl (by decide) rfl ?_
  refine J_aload_n (k0 := 0) (pc := 74) 1 hX (by decide +kernel) rfl rfl ?_
  refine J_cVv (pc := 75) (idx := 219) [] hX (by decide +kernel) (mq mt_7 22 (by decide +kernel)) mv_Mo_reads hL.1 rfl rfl (Nat.le_of_ble_eq_true rfl) (Nat.le_of_ble_eq_true rfl) (c_Mo_reads hL μ) (fun μ1 => ?_)
  refine J_aload_n (k0 := 0) (pc := 78) 1 hX (by decide +kernel) rfl rfl ?_
  refine J_cVi (pc := 79) (idx := 232) [] hX (by decide +kernel) (mq mt_7 102 (by decide +kernel)) mv_Mo_readSum hL.1 rfl rfl (Nat.le_of_ble_eq_true rfl) (Nat.le_of_ble_eq_true rfl) (c_Mo_readSum hL μ1) (fun x3 μ2 => ?_)
  refine J_iconst (pc := 82) (n := -1) (v := (-1)) hX (by decide +kernel) (by decide +kernel) ?_
  refine J_icmp_ne (pc := 83) (off := 5) (tgt := 88) hX (by decide +kernel) (by decide +kernel) (fun _ => ?_) (fun _ => ?_)
  · refine J_aload_n (k0 := 0) (pc := 88) 1 hX (by decide +kernel) rfl rfl ?_
    refine J_iload_n (k0 := 1) (pc := 89) 0 hX (by decide +kernel) rfl rfl ?_
    refine J_iconst (pc := 90) (n := 0) (v := 0) hX (by decide +kernel) (by decide +kernel) ?_
    refine J_cVv (pc := 91) (idx := 215) [.int s0, .int 0] hX (by decide +kernel) (mq mt_7 118 (by decide +kernel)) mv_Mo_emits hL.1 rfl rfl (Nat.le_of_ble_eq_true rfl) (Nat.le_of_ble_eq_true rfl) (c_Mo_emits hL s0 0 μ2) (fun μ4 => ?_)
    refine J_iconst (pc := 94) (n := 0) (v := 0) hX (by decide +kernel) (by decide +kernel) ?_
    exact J_iret (pc := 95) hX (by decide +kernel) rfl trivial
  · refine J_iconst (pc := 86) (n := -1) (v := (-1)) hX (by decide +kernel) (by decide +kernel) ?_
    exact J_iret (pc := 87) hX (by decide +kernel) rfl trivial
set_option maxRecDepth 100000 in
set_option maxHeartbeats 4000000 in
theorem jMo_readCompared_43 {X : Cx} {l : Launch} {G : Gx} {y : Ly} {a : Nat} (hL : LyMo y a ) (hX : Ok X l G prog_13_method_40_code 2 (some .int) "SaltFiguresModel")      (μ : Mu) : J X G 2 7 y (emy y) rvI tpT 43 [(0, .ref (G.1 + a))] [] (μ, y) (Mo_readCompared_43 a     μ) := by
  unfold Mo_readCompared_43
  refine J_aload_n (k0 := 0) (pc := 43) 0 hX (by decide +kernel) rfl rfl ?_
  refine J_gF (pc := 44) hX (by decide +kernel) fl_Mo_184 hL.1 rfl (fun x1 => ?_)
  refine J_bipush (pc := 47) (n := 60) (v := 60) hX (by decide +kernel) (by decide +kernel) ?_
  refine J_icmp_ne (pc := 49) (off := 8) (tgt := 57) hX (by decide +kernel) (by decide +kernel) (fun _ => ?_) (fun _ => ?_)
  · refine J_aload_n (k0 := 0) (pc := 57) 0 hX (by decide +kernel) rfl rfl ?_
    refine J_gF (pc := 58) hX (by decide +kernel) fl_Mo_184 hL.1 rfl (fun x2 => ?_)
    refine J_bipush (pc := 61) (n := 61) (v := 61) hX (by decide +kernel) (by decide +kernel) ?_
    refine J_icmp_ne (pc := 63) (off := 8) (tgt := 71) hX (by decide +kernel) (by decide +kernel) (fun _ => ?_) (fun _ => ?_)
    · refine J_bipush (pc := 71) (n := 8) (v := 8) hX (by decide +kernel) (by decide +kernel) ?_
      exact J_sub [0] _ rfl (jMo_readCompared_73 hL hX 8 μ)
    · refine J_bipush (pc := 66) (n := 7) (v := 7) hX (by decide +kernel) (by decide +kernel) ?_
      refine J_goto (pc := 68) (off := 5) (tgt := 73) hX (by decide +kernel) (by decide +kernel) ?_
      exact J_sub [0] _ rfl (jMo_readCompared_73 hL hX 7 μ)
  · refine J_bipush (pc := 52) (n := 6) (v := 6) hX (by decide +kernel) (by decide +kernel) ?_
    refine J_goto (pc := 54) (off := 19) (tgt := 73) hX (by decide +kernel) (by decide +kernel) ?_
    exact J_sub [0] _ rfl (jMo_readCompared_73 hL hX 6 μ)
set_option maxRecDepth 100000 in
set_option maxHeartbeats 4000000 in
theorem jMo_readCompared {X : Cx} {l : Launch} {G : Gx} {y : Ly} {a : Nat} (hL : LyMo y a ) (hX : Ok X l G prog_13_method_40_code 2 (some .int) "SaltFiguresModel")  (μ : Mu) : J X G 2 7 y (emy y) rvI tpT 0 [(0, .ref (G.1 + a))] [] (μ, y) (Mo_readCompared a  μ) := by
  unfold Mo_readCompared
  refine J_aload_n (k0 := 0) (pc := 0) 0 hX (by decide +kernel) rfl rfl ?_
  refine J_cVi (pc := 1) (idx := 232) [] hX (by decide +kernel) (mq mt_7 102 (by decide +kernel)) mv_Mo_readSum hL.1 rfl rfl (Nat.le_of_ble_eq_true rfl) (Nat.le_of_ble_eq_true rfl) (c_Mo_readSum hL μ) (fun x2 μ1 => ?_)
  refine J_iconst (pc := 4) (n := -1) (v := (-1)) hX (by decide +kernel) (by decide +kernel) ?_
  refine J_icmp_ne (pc := 5) (off := 5) (tgt := 10) hX (by decide +kernel) (by decide +kernel) (fun _ => ?_) (fun _ => ?_)
  · refine J_aload_n (k0 := 0) (pc := 10) 0 hX (by decide +kernel) rfl rfl ?_
    refine J_bipush (pc := 11) (n := 60) (v := 60) hX (by decide +kernel) (by decide +kernel) ?_
    refine J_cVi (pc := 13) (idx := 226) [.int 60] hX (by decide +kernel) (mq mt_7 70 (by decide +kernel)) mv_Mo_isSign hL.1 rfl rfl (Nat.le_of_ble_eq_true rfl) (Nat.le_of_ble_eq_true rfl) (c_Mo_isSign hL 60 μ1) (fun x4 μ3 => ?_)
    refine J_if_ne (pc := 16) (off := 27) (tgt := 43) hX (by decide +kernel) (by decide +kernel) (fun _ => ?_) (fun _ => ?_)
    · exact J_sub [0] _ rfl (jMo_readCompared_43 hL hX μ3)
    · refine J_aload_n (k0 := 0) (pc := 19) 0 hX (by decide +kernel) rfl rfl ?_
      refine J_bipush (pc := 20) (n := 61) (v := 61) hX (by decide +kernel) (by decide +kernel) ?_
      refine J_cVi (pc := 22) (idx := 226) [.int 61] hX (by decide +kernel) (mq mt_7 70 (by decide +kernel)) mv_Mo_isSign hL.1 rfl rfl (Nat.le_of_ble_eq_true rfl) (Nat.le_of_ble_eq_true rfl) (c_Mo_isSign hL 61 μ3) (fun x6 μ5 => ?_)
      refine J_if_ne (pc := 25) (off := 18) (tgt := 43) hX (by decide +kernel) (by decide +kernel) (fun _ => ?_) (fun _ => ?_)
      · exact J_sub [0] _ rfl (jMo_readCompared_43 hL hX μ5)
      · refine J_aload_n (k0 := 0) (pc := 28) 0 hX (by decide +kernel) rfl rfl ?_
        refine J_bipush (pc := 29) (n := 62) (v := 62) hX (by decide +kernel) (by decide +kernel) ?_
        refine J_cVi (pc := 31) (idx := 226) [.int 62] hX (by decide +kernel) (mq mt_7 70 (by decide +kernel)) mv_Mo_isSign hL.1 rfl rfl (Nat.le_of_ble_eq_true rfl) (Nat.le_of_ble_eq_true rfl) (c_Mo_isSign hL 62 μ5) (fun x8 μ7 => ?_)
        refine J_if_ne (pc := 34) (off := 9) (tgt := 43) hX (by decide +kernel) (by decide +kernel) (fun _ => ?_) (fun _ => ?_)
        · exact J_sub [0] _ rfl (jMo_readCompared_43 hL hX μ7)
        · refine J_aload_n (k0 := 0) (pc := 37) 0 hX (by decide +kernel) rfl rfl ?_
          refine J_iconst (pc := 38) (n := 1) (v := 1) hX (by decide +kernel) (by decide +kernel) ?_
          refine J_cVi (pc := 39) (idx := 212) [.int 1] hX (by decide +kernel) (mq mt_7 54 (by decide +kernel)) mv_Mo_errs hL.1 rfl rfl (Nat.le_of_ble_eq_true rfl) (Nat.le_of_ble_eq_true rfl) (c_Mo_errs hL 1 μ7) (fun x10 μ9 => ?_)
          exact J_iret (pc := 42) hX (by decide +kernel) rfl trivial
  · refine J_iconst (pc := 8) (n := -1) (v := (-1)) hX (by decide +kernel) (by decide +kernel) ?_
    exact J_iret (pc := 9) hX (by decide +kernel) rfl trivial
set_option maxRecDepth 100000 in
set_option maxHeartbeats 4000000 in
theorem c_Mo_readCompared {l : Launch} {G : Gx} {y : Ly} {a : Nat} (hL : LyMo y a )  (μ : Mu) : Cn l G ⟨"SaltFiguresModel", "readCompared", "()I"⟩ prog_13_method_40_code 2 (some .int) 7 [.ref (G.1 + a)] (μ, y) (emy y) rvI tpT (Mo_readCompared a  μ) := cn_of (by decide +kernel) (Nat.le_of_ble_eq_true rfl) (fun _ _ _ => ⟨List.prefix_refl _, trivial⟩) (fun X hX _ => jMo_readCompared hL hX  μ)

def Mo_settles_0b (a : Nat)  (kb0 : Mu → Option (Unit × Mu)) (v1 : Int32)   (μ : Mu) : Option (Unit × Mu) := gF μ a 26 (fun x1 => (if x1 ≤ 0 then some ((), μ) else gF μ a 26 (fun x2 => ldA μ (a + 14) 40 (x2 - 1) (fun x3 => (if x3 = v1 then gF μ a 26 (fun x4 => pF μ a 26 (x4 - 1) (fun μ5 => cl (Mo_emits a v1 0 μ5) (fun _ μ6 => (if v1 = 9 then gF μ6 a 24 (fun x7 => pF μ6 a 24 (x7 - 1) (fun μ8 => kb0 μ8)) else kb0 μ6)))) else some ((), μ))))))
def Mo_settles_0 (a : Nat)  (v1 : Int32) (fu : Nat) : Mu → Option (Unit × Mu) := lp (fun kb => Mo_settles_0b a  kb v1) (fun _ => none) fu
def Mo_settles (a : Nat) (v1 : Int32) (μ : Mu) : Option (Unit × Mu) := Mo_settles_0 a v1 FU μ
set_option maxRecDepth 100000 in
set_option maxHeartbeats 4000000 in
theorem jMo_settles_0b {X : Cx} {l : Launch} {G : Gx} {y : Ly} {a : Nat} (hL : LyMo y a ) (hX : Ok X l G prog_13_method_42_code 2 none "SaltFiguresModel") (v1 : Int32)  {kb0 : Mu → Option (Unit × Mu)}  (hk0 : ∀  (μ : Mu), J X G 2 2 y (emy y) rvV tpT 0 [(0, .ref (G.1 + a)), (1, .int v1)] [] (μ, y) (kb0  μ)) (μ : Mu) : J X G 2 2 y (emy y) rvV tpT 0 [(0, .ref (G.1 + a)), (1, .int v1)] [] (μ, y) (Mo_settles_0b a  kb0 v1   μ) := by
  unfold Mo_settles_0b
  refine J_aload_n (k0 := 0) (pc := 0) 0 hX (by decide +kernel) rfl rfl ?_
  refine J_gF (pc := 1) hX (by decide +kernel) fl_Mo_235 hL.1 rfl (fun x1 => ?_)
  refine J_if_le (pc := 4) (off := 53) (tgt := 57) hX (by decide +kernel) (by decide +kernel) (fun _ => ?_) (fun _ => ?_)
  · exact J_vret (pc := 57) hX (by decide +kernel) rfl trivial
  · refine J_aload_n (k0 := 0) (pc := 7) 0 hX (by decide +kernel) rfl rfl ?_
    refine J_gr (pc := 8) hX (by decide +kernel) fl_Mo_49 hL.1 rfl hL.2.2.2.2.2.2.2.2.2.2.2.2.2.2.1.1 ?_
    refine J_aload_n (k0 := 0) (pc := 11) 0 hX (by decide +kernel) rfl rfl ?_
    refine J_gF (pc := 12) hX (by decide +kernel) fl_Mo_235 hL.1 rfl (fun x2 => ?_)
    refine J_iconst (pc := 15) (n := 1) (v := 1) hX (by decide +kernel) (by decide +kernel) ?_
    refine J_isub (pc := 16) hX (by decide +kernel) ?_
    refine J_ldA (pc := 17) hX (by decide +kernel) hL.2.2.2.2.2.2.2.2.2.2.2.2.2.2.1.2 (fun x3 => ?_)
    refine J_iload_n (k0 := 1) (pc := 18) 1 hX (by decide +kernel) rfl rfl ?_
    refine J_icmp_ne (pc := 19) (off := 38) (tgt := 57) hX (by decide +kernel) (by decide +kernel) (fun _ => ?_) (fun _ => ?_)
    · exact J_vret (pc := 57) hX (by decide +kernel) rfl trivial
    · refine J_aload_n (k0 := 0) (pc := 22) 0 hX (by decide +kernel) rfl rfl ?_
      refine J_aload_n (k0 := 0) (pc := 23) 0 hX (by decide +kernel) rfl rfl ?_
      refine J_gF (pc := 24) hX (by decide +kernel) fl_Mo_235 hL.1 rfl (fun x4 => ?_)
      refine J_iconst (pc := 27) (n := 1) (v := 1) hX (by decide +kernel) (by decide +kernel) ?_
      refine J_isub (pc := 28) hX (by decide +kernel) ?_
      refine J_pF (pc := 29) hX (by decide +kernel) fl_Mo_235 hL.1 rfl (fun μ5 => ?_)
      refine J_aload_n (k0 := 0) (pc := 32) 0 hX (by decide +kernel) rfl rfl ?_
      refine J_iload_n (k0 := 1) (pc := 33) 1 hX (by decide +kernel) rfl rfl ?_
      refine J_iconst (pc := 34) (n := 0) (v := 0) hX (by decide +kernel) (by decide +kernel) ?_
      refine J_cVv (pc := 35) (idx := 215) [.int v1, .int 0] hX (by decide +kernel) (mq mt_7 118 (by decide +kernel)) mv_Mo_emits hL.1 rfl rfl (Nat.le_of_ble_eq_true rfl) (Nat.le_of_ble_eq_true rfl) (c_Mo_emits hL v1 0 μ5) (fun μ6 => ?_)
      refine J_iload_n (k0 := 1) (pc := 38) 1 hX (by decide +kernel) rfl rfl ?_
      refine J_bipush (pc := 39) (n := 9) (v := 9) hX (by decide +kernel) (by decide +kernel) ?_
      refine J_icmp_ne (pc := 41) (off := -41) (tgt := 0) hX (by decide +kernel) (by decide +kernel) (fun _ => ?_) (fun _ => ?_)
      · exact J_sub [0, 1] _ rfl (hk0 μ6)
      · refine J_aload_n (k0 := 0) (pc := 44) 0 hX (by decide +kernel) rfl rfl ?_
        refine J_aload_n (k0 := 0) (pc := 45) 0 hX (by decide +kernel) rfl rfl ?_
        refine J_gF (pc := 46) hX (by decide +kernel) fl_Mo_238 hL.1 rfl (fun x7 => ?_)
        refine J_iconst (pc := 49) (n := 1) (v := 1) hX (by decide +kernel) (by decide +kernel) ?_
        refine J_isub (pc := 50) hX (by decide +kernel) ?_
        refine J_pF (pc := 51) hX (by decide +kernel) fl_Mo_238 hL.1 rfl (fun μ8 => ?_)
        refine J_goto (pc := 54) (off := -54) (tgt := 0) hX (by decide +kernel) (by decide +kernel) ?_
        exact J_sub [0, 1] _ rfl (hk0 μ8)
set_option maxRecDepth 100000 in
set_option maxHeartbeats 4000000 in
theorem jMo_settles_0 {X : Cx} {l : Launch} {G : Gx} {y : Ly} {a : Nat} (hL : LyMo y a ) (hX : Ok X l G prog_13_method_42_code 2 none "SaltFiguresModel") (v1 : Int32)   : ∀ (fu : Nat)  (μ : Mu), J X G 2 2 y (emy y) rvV tpT 0 [(0, .ref (G.1 + a)), (1, .int v1)] [] (μ, y) (Mo_settles_0 a  v1 fu  μ) := by
  intro fu
  induction fu with
  | zero => intros; exact J_none
  | succ fu ih => intro  μ; exact jMo_settles_0b hL hX v1  ih  μ
set_option maxRecDepth 100000 in
set_option maxHeartbeats 4000000 in
theorem jMo_settles {X : Cx} {l : Launch} {G : Gx} {y : Ly} {a : Nat} (hL : LyMo y a ) (hX : Ok X l G prog_13_method_42_code 2 none "SaltFiguresModel") (v1 : Int32) (μ : Mu) : J X G 2 2 y (emy y) rvV tpT 0 [(0, .ref (G.1 + a)), (1, .int v1)] [] (μ, y) (Mo_settles a v1 μ) := by
  unfold Mo_settles
  exact J_sub [0, 1] _ rfl (jMo_settles_0 hL hX v1 FU μ)
set_option maxRecDepth 100000 in
set_option maxHeartbeats 4000000 in
theorem c_Mo_settles {l : Launch} {G : Gx} {y : Ly} {a : Nat} (hL : LyMo y a ) (v1 : Int32) (μ : Mu) : Cn l G ⟨"SaltFiguresModel", "settles", "(I)V"⟩ prog_13_method_42_code 2 none 2 [.ref (G.1 + a), .int v1] (μ, y) (emy y) rvV tpT (Mo_settles a v1 μ) := cn_of (by decide +kernel) (Nat.le_of_ble_eq_true rfl) (fun _ _ _ => ⟨List.prefix_refl _, trivial⟩) (fun X hX _ => jMo_settles hL hX v1 μ)

def Mo_readAny_78 (a : Nat) (kb9 : Int32 → Int32 → Mu → Option (Int32 × Mu))  (v1 : Int32) (v2 : Int32) (s0 : Int32) (μ : Mu) : Option (Int32 × Mu) := cl (Mo_waits a s0 μ) (fun _ μ1 => cl (Mo_reads a μ1) (fun _ μ2 => kb9 v1 v2 μ2))
def Mo_readAny_66 (a : Nat) (kb9 : Int32 → Int32 → Mu → Option (Int32 × Mu))  (v1 : Int32) (v2 : Int32) (v3 : Int32)  (μ : Mu) : Option (Int32 × Mu) := (if v3 = 0 then Mo_readAny_78 a kb9 v1 v2 12 μ else Mo_readAny_78 a kb9 v1 v2 9 μ)
def Mo_readAny_33 (a : Nat) (kb9 : Int32 → Int32 → Mu → Option (Int32 × Mu))  (v1 : Int32) (v2 : Int32) (v3 : Int32)  (μ : Mu) : Option (Int32 × Mu) := gF μ a 24 (fun x1 => (if x1 = 8 then cl (Mo_errs a 3 μ) (fun x5 μ4 => some (x5, μ4)) else gF μ a 24 (fun x2 => pF μ a 24 (x2 + 1) (fun μ3 => (if v3 = 0 then Mo_readAny_66 a kb9 (v1 + 1) v2 v3 μ3 else Mo_readAny_66 a kb9 v1 v2 v3 μ3)))))
def Mo_readAny_9b (a : Nat)  (kb9 : Int32 → Int32 → Mu → Option (Int32 × Mu))  (v1 : Int32) (v2 : Int32)  (μ : Mu) : Option (Int32 × Mu) := (if v2 = 0 then cl (Mo_isWord a 5 μ) (fun x2 μ1 => (if x2 = 0 then cl (Mo_isWord a 4 μ1) (fun x4 μ3 => (if x4 = 0 then cl (Mo_settles a 10 μ3) (fun _ μ5 => cl (Mo_settles a 11 μ5) (fun _ μ6 => (if v1 = 0 then some (0, μ6) else cl (Mo_isSign a 41 μ6) (fun x8 μ7 => (if x8 = 0 then cl (Mo_errs a 1 μ7) (fun x16 μ15 => some (x16, μ15)) else gF μ7 a 26 (fun x9 => pF μ7 a 26 (x9 - 1) (fun μ10 => gF μ10 a 24 (fun x11 => pF μ10 a 24 (x11 - 1) (fun μ12 => cl (Mo_settles a 9 μ12) (fun _ μ13 => cl (Mo_reads a μ13) (fun _ μ14 => kb9 (v1 - 1) v2 μ14))))))))))) else cl (Mo_settles a 10 μ3) (fun _ μ17 => cl (Mo_settles a 11 μ17) (fun _ μ18 => cl (Mo_waits a 11 μ18) (fun _ μ19 => cl (Mo_reads a μ19) (fun _ μ20 => kb9 v1 1 μ20)))))) else cl (Mo_settles a 10 μ1) (fun _ μ21 => cl (Mo_waits a 10 μ21) (fun _ μ22 => cl (Mo_reads a μ22) (fun _ μ23 => kb9 v1 1 μ23))))) else cl (Mo_isWord a 6 μ) (fun x25 μ24 => (if x25 = 0 then cl (Mo_isSign a 40 μ24) (fun x27 μ26 => (if x27 = 0 then cl (Mo_readCompared a μ26) (fun x29 μ28 => (if x29 = ((-1)) then some ((-1), μ28) else cl (Mo_settles a 9 μ28) (fun _ μ30 => kb9 v1 0 μ30))) else Mo_readAny_33 a kb9 v1 v2 x25 μ26)) else Mo_readAny_33 a kb9 v1 v2 x25 μ24)))
def Mo_readAny_9 (a : Nat)   (fu : Nat) : Int32 → Int32 → Mu → Option (Int32 × Mu) := lp (fun kb => Mo_readAny_9b a  kb ) (fun _ _ _ => none) fu
def Mo_readAny (a : Nat)  (μ : Mu) : Option (Int32 × Mu) := pF μ a 26 0 (fun μ1 => Mo_readAny_9 a FU 0 1 μ1)
set_option maxRecDepth 100000 in
set_option maxHeartbeats 4000000 in
theorem jMo_readAny_78 {X : Cx} {l : Launch} {G : Gx} {y : Ly} {a : Nat} (hL : LyMo y a ) (hX : Ok X l G prog_13_method_43_code 4 (some .int) "SaltFiguresModel")  (v1 : Int32) (v2 : Int32) (s0 : Int32) {kb9 : Int32 → Int32 → Mu → Option (Int32 × Mu)} (hk9 : ∀ (v1 : Int32) (v2 : Int32) (μ : Mu), J X G 4 8 y (emy y) rvI tpT 9 [(0, .ref (G.1 + a)), (1, .int v1), (2, .int v2)] [] (μ, y) (kb9 v1 v2 μ)) (μ : Mu) : J X G 4 8 y (emy y) rvI tpT 78 [(0, .ref (G.1 + a)), (1, .int v1), (2, .int v2)] [.int s0, .ref (G.1 + a)] (μ, y) (Mo_readAny_78 a kb9  v1 v2 s0 μ) := by
  unfold Mo_readAny_78
  refine J_cVv (pc := 78) (idx := 244) [.int s0] hX (by decide +kernel) (mq mt_7 126 (by decide +kernel)) mv_Mo_waits hL.1 rfl rfl (Nat.le_of_ble_eq_true rfl) (Nat.le_of_ble_eq_true rfl) (c_Mo_waits hL s0 μ) (fun μ1 => ?_)
  refine J_aload_n (k0 := 0) (pc := 81) 0 hX (by decide +kernel) rfl rfl ?_
  refine J_cVv (pc := 82) (idx := 219) [] hX (by decide +kernel) (mq mt_7 22 (by decide +kernel)) mv_Mo_reads hL.1 rfl rfl (Nat.le_of_ble_eq_true rfl) (Nat.le_of_ble_eq_true rfl) (c_Mo_reads hL μ1) (fun μ2 => ?_)
  refine J_goto (pc := 85) (off := -76) (tgt := 9) hX (by decide +kernel) (by decide +kernel) ?_
  exact J_sub [0, 1, 2] _ rfl (hk9 v1 v2 μ2)
set_option maxRecDepth 100000 in
set_option maxHeartbeats 4000000 in
theorem jMo_readAny_66 {X : Cx} {l : Launch} {G : Gx} {y : Ly} {a : Nat} (hL : LyMo y a ) (hX : Ok X l G prog_13_method_43_code 4 (some .int) "SaltFiguresModel")  (v1 : Int32) (v2 : Int32) (v3 : Int32)  {kb9 : Int32 → Int32 → Mu → Option (Int32 × Mu)} (hk9 : ∀ (v1 : Int32) (v2 : Int32) (μ : Mu), J X G 4 8 y (emy y) rvI tpT 9 [(0, .ref (G.1 + a)), (1, .int v1), (2, .int v2)] [] (μ, y) (kb9 v1 v2 μ)) (μ : Mu) : J X G 4 8 y (emy y) rvI tpT 66 [(0, .ref (G.1 + a)), (1, .int v1), (2, .int v2), (3, .int v3)] [] (μ, y) (Mo_readAny_66 a kb9  v1 v2 v3  μ) := by
  unfold Mo_readAny_66
  refine J_aload_n (k0 := 0) (pc := 66) 0 hX (by decide +kernel) rfl rfl ?_
  refine J_iload_n (k0 := 3) (pc := 67) 3 hX (by decide +kernel) rfl rfl ?_
  refine J_if_eq (pc := 68) (off := 8) (tgt := 76) hX (by decide +kernel) (by decide +kernel) (fun _ => ?_) (fun _ => ?_)
  · refine J_bipush (pc := 76) (n := 12) (v := 12) hX (by decide +kernel) (by decide +kernel) ?_
    exact J_sub [0, 1, 2] _ rfl (jMo_readAny_78 hL hX v1 v2 12 hk9 μ)
  · refine J_bipush (pc := 71) (n := 9) (v := 9) hX (by decide +kernel) (by decide +kernel) ?_
    refine J_goto (pc := 73) (off := 5) (tgt := 78) hX (by decide +kernel) (by decide +kernel) ?_
    exact J_sub [0, 1, 2] _ rfl (jMo_readAny_78 hL hX v1 v2 9 hk9 μ)
set_option maxRecDepth 100000 in
set_option maxHeartbeats 4000000 in
theorem jMo_readAny_33 {X : Cx} {l : Launch} {G : Gx} {y : Ly} {a : Nat} (hL : LyMo y a ) (hX : Ok X l G prog_13_method_43_code 4 (some .int) "SaltFiguresModel")  (v1 : Int32) (v2 : Int32) (v3 : Int32)  {kb9 : Int32 → Int32 → Mu → Option (Int32 × Mu)} (hk9 : ∀ (v1 : Int32) (v2 : Int32) (μ : Mu), J X G 4 8 y (emy y) rvI tpT 9 [(0, .ref (G.1 + a)), (1, .int v1), (2, .int v2)] [] (μ, y) (kb9 v1 v2 μ)) (μ : Mu) : J X G 4 8 y (emy y) rvI tpT 33 [(0, .ref (G.1 + a)), (1, .int v1), (2, .int v2), (3, .int v3)] [] (μ, y) (Mo_readAny_33 a kb9  v1 v2 v3  μ) := by
  unfold Mo_readAny_33
  refine J_aload_n (k0 := 0) (pc := 33) 0 hX (by decide +kernel) rfl rfl ?_
  refine J_gF (pc := 34) hX (by decide +kernel) fl_Mo_238 hL.1 rfl (fun x1 => ?_)
  refine J_bipush (pc := 37) (n := 8) (v := 8) hX (by decide +kernel) (by decide +kernel) ?_
  refine J_icmp_ne (pc := 39) (off := 9) (tgt := 48) hX (by decide +kernel) (by decide +kernel) (fun _ => ?_) (fun _ => ?_)
  · refine J_aload_n (k0 := 0) (pc := 48) 0 hX (by decide +kernel) rfl rfl ?_
    refine J_aload_n (k0 := 0) (pc := 49) 0 hX (by decide +kernel) rfl rfl ?_
    refine J_gF (pc := 50) hX (by decide +kernel) fl_Mo_238 hL.1 rfl (fun x2 => ?_)
    refine J_iconst (pc := 53) (n := 1) (v := 1) hX (by decide +kernel) (by decide +kernel) ?_
    refine J_iadd (pc := 54) hX (by decide +kernel) ?_
    refine J_pF (pc := 55) hX (by decide +kernel) fl_Mo_238 hL.1 rfl (fun μ3 => ?_)
    refine J_iload_n (k0 := 3) (pc := 58) 3 hX (by decide +kernel) rfl rfl ?_
    refine J_if_ne (pc := 59) (off := 7) (tgt := 66) hX (by decide +kernel) (by decide +kernel) (fun _ => ?_) (fun _ => ?_)
    · exact J_sub [0, 1, 2, 3] _ rfl (jMo_readAny_66 hL hX v1 v2 v3 hk9 μ3)
    · refine J_iload_n (k0 := 1) (pc := 62) 1 hX (by decide +kernel) rfl rfl ?_
      refine J_iconst (pc := 63) (n := 1) (v := 1) hX (by decide +kernel) (by decide +kernel) ?_
      refine J_iadd (pc := 64) hX (by decide +kernel) ?_
      refine J_istore_n (k0 := 1) (pc := 65) [(1, .int (v1 + 1)), (0, .ref (G.1 + a)), (2, .int v2), (3, .int v3)] hX (by decide +kernel) rfl (by decide) rfl ?_
      exact J_sub [1, 0, 2, 3] _ rfl (jMo_readAny_66 hL hX (v1 + 1) v2 v3 hk9 μ3)
  · refine J_aload_n (k0 := 0) (pc := 42) 0 hX (by decide +kernel) rfl rfl ?_
    refine J_iconst (pc := 43) (n := 3) (v := 3) hX (by decide +kernel) (by decide +kernel) ?_
    refine J_cVi (pc := 44) (idx := 212) [.int 3] hX (by decide +kernel) (mq mt_7 54 (by decide +kernel)) mv_Mo_errs hL.1 rfl rfl (Nat.le_of_ble_eq_true rfl) (Nat.le_of_ble_eq_true rfl) (c_Mo_errs hL 3 μ) (fun x5 μ4 => ?_)
    exact J_iret (pc := 47) hX (by decide +kernel) rfl trivial
set_option maxRecDepth 100000 in
set_option maxHeartbeats 4000000 in
theorem jMo_readAny_9b {X : Cx} {l : Launch} {G : Gx} {y : Ly} {a : Nat} (hL : LyMo y a ) (hX : Ok X l G prog_13_method_43_code 4 (some .int) "SaltFiguresModel")   {kb9 : Int32 → Int32 → Mu → Option (Int32 × Mu)}  (hk9 : ∀ (v1 : Int32) (v2 : Int32) (μ : Mu), J X G 4 8 y (emy y) rvI tpT 9 [(0, .ref (G.1 + a)), (1, .int v1), (2, .int v2)] [] (μ, y) (kb9 v1 v2 μ)) (v1 : Int32) (v2 : Int32)  (μ : Mu) : J X G 4 8 y (emy y) rvI tpT 9 [(0, .ref (G.1 + a)), (1, .int v1), (2, .int v2)] [] (μ, y) (Mo_readAny_9b a  kb9  v1 v2  μ) := by
  unfold Mo_readAny_9b
  refine J_iload_n (k0 := 2) (pc := 9) 2 hX (by decide +kernel) rfl rfl ?_
  refine J_if_eq (pc := 10) (off := 99) (tgt := 109) hX (by decide +kernel) (by decide +kernel) (fun _ => ?_) (fun _ => ?_)
  · refine J_aload_n (k0 := 0) (pc := 109) 0 hX (by decide +kernel) rfl rfl ?_
    refine J_iconst (pc := 110) (n := 5) (v := 5) hX (by decide +kernel) (by decide +kernel) ?_
    refine J_cVi (pc := 111) (idx := 241) [.int 5] hX (by decide +kernel) (mq mt_7 50 (by decide +kernel)) mv_Mo_isWord hL.1 rfl rfl (Nat.le_of_ble_eq_true rfl) (Nat.le_of_ble_eq_true rfl) (c_Mo_isWord hL 5 μ) (fun x2 μ1 => ?_)
    refine J_if_eq (pc := 114) (off := 24) (tgt := 138) hX (by decide +kernel) (by decide +kernel) (fun _ => ?_) (fun _ => ?_)
    · refine J_aload_n (k0 := 0) (pc := 138) 0 hX (by decide +kernel) rfl rfl ?_
      refine J_iconst (pc := 139) (n := 4) (v := 4) hX (by decide +kernel) (by decide +kernel) ?_
      refine J_cVi (pc := 140) (idx := 241) [.int 4] hX (by decide +kernel) (mq mt_7 50 (by decide +kernel)) mv_Mo_isWord hL.1 rfl rfl (Nat.le_of_ble_eq_true rfl) (Nat.le_of_ble_eq_true rfl) (c_Mo_isWord hL 4 μ1) (fun x4 μ3 => ?_)
      refine J_if_eq (pc := 143) (off := 30) (tgt := 173) hX (by decide +kernel) (by decide +kernel) (fun _ => ?_) (fun _ => ?_)
      · refine J_aload_n (k0 := 0) (pc := 173) 0 hX (by decide +kernel) rfl rfl ?_
        refine J_bipush (pc := 174) (n := 10) (v := 10) hX (by decide +kernel) (by decide +kernel) ?_
        refine J_cVv (pc := 176) (idx := 250) [.int 10] hX (by decide +kernel) (mq mt_7 134 (by decide +kernel)) mv_Mo_settles hL.1 rfl rfl (Nat.le_of_ble_eq_true rfl) (Nat.le_of_ble_eq_true rfl) (c_Mo_settles hL 10 μ3) (fun μ5 => ?_)
        refine J_aload_n (k0 := 0) (pc := 179) 0 hX (by decide +kernel) rfl rfl ?_
        refine J_bipush (pc := 180) (n := 11) (v := 11) hX (by decide +kernel) (by decide +kernel) ?_
        refine J_cVv (pc := 182) (idx := 250) [.int 11] hX (by decide +kernel) (mq mt_7 134 (by decide +kernel)) mv_Mo_settles hL.1 rfl rfl (Nat.le_of_ble_eq_true rfl) (Nat.le_of_ble_eq_true rfl) (c_Mo_settles hL 11 μ5) (fun μ6 => ?_)
        refine J_iload_n (k0 := 1) (pc := 185) 1 hX (by decide +kernel) rfl rfl ?_
        refine J_if_ne (pc := 186) (off := 5) (tgt := 191) hX (by decide +kernel) (by decide +kernel) (fun _ => ?_) (fun _ => ?_)
        · refine J_aload_n (k0 := 0) (pc := 191) 0 hX (by decide +kernel) rfl rfl ?_
          refine J_bipush (pc := 192) (n := 41) (v := 41) hX (by decide +kernel) (by decide +kernel) ?_
          refine J_cVi (pc := 194) (idx := 226) [.int 41] hX (by decide +kernel) (mq mt_7 70 (by decide +kernel)) mv_Mo_isSign hL.1 rfl rfl (Nat.le_of_ble_eq_true rfl) (Nat.le_of_ble_eq_true rfl) (c_Mo_isSign hL 41 μ6) (fun x8 μ7 => ?_)
          refine J_if_ne (pc := 197) (off := 9) (tgt := 206) hX (by decide +kernel) (by decide +kernel) (fun _ => ?_) (fun _ => ?_)
          · refine J_aload_n (k0 := 0) (pc := 206) 0 hX (by decide +kernel) rfl rfl ?_
            refine J_aload_n (k0 := 0) (pc := 207) 0 hX (by decide +kernel) rfl rfl ?_
            refine J_gF (pc := 208) hX (by decide +kernel) fl_Mo_235 hL.1 rfl (fun x9 => ?_)
            refine J_iconst (pc := 211) (n := 1) (v := 1) hX (by decide +kernel) (by decide +kernel) ?_
            refine J_isub (pc := 212) hX (by decide +kernel) ?_
            refine J_pF (pc := 213) hX (by decide +kernel) fl_Mo_235 hL.1 rfl (fun μ10 => ?_)
            refine J_iload_n (k0 := 1) (pc := 216) 1 hX (by decide +kernel) rfl rfl ?_
            refine J_iconst (pc := 217) (n := 1) (v := 1) hX (by decide +kernel) (by decide +kernel) ?_
            refine J_isub (pc := 218) hX (by decide +kernel) ?_
            refine J_istore_n (k0 := 1) (pc := 219) [(1, .int (v1 - 1)), (0, .ref (G.1 + a)), (2, .int v2)] hX (by decide +kernel) rfl (by decide) rfl ?_
            refine J_aload_n (k0 := 0) (pc := 220) 1 hX (by decide +kernel) rfl rfl ?_
            refine J_aload_n (k0 := 0) (pc := 221) 1 hX (by decide +kernel) rfl rfl ?_
            refine J_gF (pc := 222) hX (by decide +kernel) fl_Mo_238 hL.1 rfl (fun x11 => ?_)
            refine J_iconst (pc := 225) (n := 1) (v := 1) hX (by decide +kernel) (by decide +kernel) ?_
            refine J_isub (pc := 226) hX (by decide +kernel) ?_
            refine J_pF (pc := 227) hX (by decide +kernel) fl_Mo_238 hL.1 rfl (fun μ12 => ?_)
            refine J_aload_n (k0 := 0) (pc := 230) 1 hX (by decide +kernel) rfl rfl ?_
            refine J_bipush (pc := 231) (n := 9) (v := 9) hX (by decide +kernel) (by decide +kernel) ?_
            refine J_cVv (pc := 233) (idx := 250) [.int 9] hX (by decide +kernel) (mq mt_7 134 (by decide +kernel)) mv_Mo_settles hL.1 rfl rfl (Nat.le_of_ble_eq_true rfl) (Nat.le_of_ble_eq_true rfl) (c_Mo_settles hL 9 μ12) (fun μ13 => ?_)
            refine J_aload_n (k0 := 0) (pc := 236) 1 hX (by decide +kernel) rfl rfl ?_
            refine J_cVv (pc := 237) (idx := 219) [] hX (by decide +kernel) (mq mt_7 22 (by decide +kernel)) mv_Mo_reads hL.1 rfl rfl (Nat.le_of_ble_eq_true rfl) (Nat.le_of_ble_eq_true rfl) (c_Mo_reads hL μ13) (fun μ14 => ?_)
            refine J_goto (pc := 240) (off := -231) (tgt := 9) hX (by decide +kernel) (by decide +kernel) ?_
            exact J_sub [1, 0, 2] _ rfl (hk9 (v1 - 1) v2 μ14)
          · refine J_aload_n (k0 := 0) (pc := 200) 0 hX (by decide +kernel) rfl rfl ?_
            refine J_iconst (pc := 201) (n := 1) (v := 1) hX (by decide +kernel) (by decide +kernel) ?_
            refine J_cVi (pc := 202) (idx := 212) [.int 1] hX (by decide +kernel) (mq mt_7 54 (by decide +kernel)) mv_Mo_errs hL.1 rfl rfl (Nat.le_of_ble_eq_true rfl) (Nat.le_of_ble_eq_true rfl) (c_Mo_errs hL 1 μ7) (fun x16 μ15 => ?_)
            exact J_iret (pc := 205) hX (by decide +kernel) rfl trivial
        · refine J_iconst (pc := 189) (n := 0) (v := 0) hX (by decide +kernel) (by decide +kernel) ?_
          exact J_iret (pc := 190) hX (by decide +kernel) rfl trivial
      · refine J_aload_n (k0 := 0) (pc := 146) 0 hX (by decide +kernel) rfl rfl ?_
        refine J_bipush (pc := 147) (n := 10) (v := 10) hX (by decide +kernel) (by decide +kernel) ?_
        refine J_cVv (pc := 149) (idx := 250) [.int 10] hX (by decide +kernel) (mq mt_7 134 (by decide +kernel)) mv_Mo_settles hL.1 rfl rfl (Nat.le_of_ble_eq_true rfl) (Nat.le_of_ble_eq_true rfl) (c_Mo_settles hL 10 μ3) (fun μ17 => ?_)
        refine J_aload_n (k0 := 0) (pc := 152) 0 hX (by decide +kernel) rfl rfl ?_
        refine J_bipush (pc := 153) (n := 11) (v := 11) hX (by decide +kernel) (by decide +kernel) ?_
        refine J_cVv (pc := 155) (idx := 250) [.int 11] hX (by decide +kernel) (mq mt_7 134 (by decide +kernel)) mv_Mo_settles hL.1 rfl rfl (Nat.le_of_ble_eq_true rfl) (Nat.le_of_ble_eq_true rfl) (c_Mo_settles hL 11 μ17) (fun μ18 => ?_)
        refine J_aload_n (k0 := 0) (pc := 158) 0 hX (by decide +kernel) rfl rfl ?_
        refine J_bipush (pc := 159) (n := 11) (v := 11) hX (by decide +kernel) (by decide +kernel) ?_
        refine J_cVv (pc := 161) (idx := 244) [.int 11] hX (by decide +kernel) (mq mt_7 126 (by decide +kernel)) mv_Mo_waits hL.1 rfl rfl (Nat.le_of_ble_eq_true rfl) (Nat.le_of_ble_eq_true rfl) (c_Mo_waits hL 11 μ18) (fun μ19 => ?_)
        refine J_aload_n (k0 := 0) (pc := 164) 0 hX (by decide +kernel) rfl rfl ?_
        refine J_cVv (pc := 165) (idx := 219) [] hX (by decide +kernel) (mq mt_7 22 (by decide +kernel)) mv_Mo_reads hL.1 rfl rfl (Nat.le_of_ble_eq_true rfl) (Nat.le_of_ble_eq_true rfl) (c_Mo_reads hL μ19) (fun μ20 => ?_)
        refine J_iconst (pc := 168) (n := 1) (v := 1) hX (by decide +kernel) (by decide +kernel) ?_
        refine J_istore_n (k0 := 2) (pc := 169) [(2, .int 1), (0, .ref (G.1 + a)), (1, .int v1)] hX (by decide +kernel) rfl (by decide) rfl ?_
        refine J_goto (pc := 170) (off := -161) (tgt := 9) hX (by decide +kernel) (by decide +kernel) ?_
        exact J_sub [1, 2, 0] _ rfl (hk9 v1 1 μ20)
    · refine J_aload_n (k0 := 0) (pc := 117) 0 hX (by decide +kernel) rfl rfl ?_
      refine J_bipush (pc := 118) (n := 10) (v := 10) hX (by decide +kernel) (by decide +kernel) ?_
      refine J_cVv (pc := 120) (idx := 250) [.int 10] hX (by decide +kernel) (mq mt_7 134 (by decide +kernel)) mv_Mo_settles hL.1 rfl rfl (Nat.le_of_ble_eq_true rfl) (Nat.le_of_ble_eq_true rfl) (c_Mo_settles hL 10 μ1) (fun μ21 => ?_)
      refine J_aload_n (k0 := 0) (pc := 123) 0 hX (by decide +kernel) rfl rfl ?_
      refine J_bipush (pc := 124) (n := 10) (v := 10) hX (by decide +kernel) (by decide +kernel) ?_
      refine J_cVv (pc := 126) (idx := 244) [.int 10] hX (by decide +kernel) (mq mt_7 126 (by decide +kernel)) mv_Mo_waits hL.1 rfl rfl (Nat.le_of_ble_eq_true rfl) (Nat.le_of_ble_eq_true rfl) (c_Mo_waits hL 10 μ21) (fun μ22 => ?_)
      refine J_aload_n (k0 := 0) (pc := 129) 0 hX (by decide +kernel) rfl rfl ?_
      refine J_cVv (pc := 130) (idx := 219) [] hX (by decide +kernel) (mq mt_7 22 (by decide +kernel)) mv_Mo_reads hL.1 rfl rfl (Nat.le_of_ble_eq_true rfl) (Nat.le_of_ble_eq_true rfl) (c_Mo_reads hL μ22) (fun μ23 => ?_)
      refine J_iconst (pc := 133) (n := 1) (v := 1) hX (by decide +kernel) (by decide +kernel) ?_
      refine J_istore_n (k0 := 2) (pc := 134) [(2, .int 1), (0, .ref (G.1 + a)), (1, .int v1)] hX (by decide +kernel) rfl (by decide) rfl ?_
      refine J_goto (pc := 135) (off := -126) (tgt := 9) hX (by decide +kernel) (by decide +kernel) ?_
      exact J_sub [1, 2, 0] _ rfl (hk9 v1 1 μ23)
  · refine J_aload_n (k0 := 0) (pc := 13) 0 hX (by decide +kernel) rfl rfl ?_
    refine J_bipush (pc := 14) (n := 6) (v := 6) hX (by decide +kernel) (by decide +kernel) ?_
    refine J_cVi (pc := 16) (idx := 241) [.int 6] hX (by decide +kernel) (mq mt_7 50 (by decide +kernel)) mv_Mo_isWord hL.1 rfl rfl (Nat.le_of_ble_eq_true rfl) (Nat.le_of_ble_eq_true rfl) (c_Mo_isWord hL 6 μ) (fun x25 μ24 => ?_)
    refine J_istore_n (k0 := 3) (pc := 19) [(3, .int x25), (0, .ref (G.1 + a)), (1, .int v1), (2, .int v2)] hX (by decide +kernel) rfl (by decide) rfl ?_
    refine J_iload_n (k0 := 3) (pc := 20) 0 hX (by decide +kernel) rfl rfl ?_
    refine J_if_ne (pc := 21) (off := 12) (tgt := 33) hX (by decide +kernel) (by decide +kernel) (fun _ => ?_) (fun _ => ?_)
    · exact J_sub [1, 2, 3, 0] _ rfl (jMo_readAny_33 hL hX v1 v2 x25 hk9 μ24)
    · refine J_aload_n (k0 := 0) (pc := 24) 1 hX (by decide +kernel) rfl rfl ?_
      refine J_bipush (pc := 25) (n := 40) (v := 40) hX (by decide +kernel) (by decide +kernel) ?_
      refine J_cVi (pc := 27) (idx := 226) [.int 40] hX (by decide +kernel) (mq mt_7 70 (by decide +kernel)) mv_Mo_isSign hL.1 rfl rfl (Nat.le_of_ble_eq_true rfl) (Nat.le_of_ble_eq_true rfl) (c_Mo_isSign hL 40 μ24) (fun x27 μ26 => ?_)
      refine J_if_eq (pc := 30) (off := 58) (tgt := 88) hX (by decide +kernel) (by decide +kernel) (fun _ => ?_) (fun _ => ?_)
      · refine J_aload_n (k0 := 0) (pc := 88) 1 hX (by decide +kernel) rfl rfl ?_
        refine J_cVi (pc := 89) (idx := 247) [] hX (by decide +kernel) (mq mt_7 130 (by decide +kernel)) mv_Mo_readCompared hL.1 rfl rfl (Nat.le_of_ble_eq_true rfl) (Nat.le_of_ble_eq_true rfl) (c_Mo_readCompared hL μ26) (fun x29 μ28 => ?_)
        refine J_iconst (pc := 92) (n := -1) (v := (-1)) hX (by decide +kernel) (by decide +kernel) ?_
        refine J_icmp_ne (pc := 93) (off := 5) (tgt := 98) hX (by decide +kernel) (by decide +kernel) (fun _ => ?_) (fun _ => ?_)
        · refine J_aload_n (k0 := 0) (pc := 98) 1 hX (by decide +kernel) rfl rfl ?_
          refine J_bipush (pc := 99) (n := 9) (v := 9) hX (by decide +kernel) (by decide +kernel) ?_
          refine J_cVv (pc := 101) (idx := 250) [.int 9] hX (by decide +kernel) (mq mt_7 134 (by decide +kernel)) mv_Mo_settles hL.1 rfl rfl (Nat.le_of_ble_eq_true rfl) (Nat.le_of_ble_eq_true rfl) (c_Mo_settles hL 9 μ28) (fun μ30 => ?_)
          refine J_iconst (pc := 104) (n := 0) (v := 0) hX (by decide +kernel) (by decide +kernel) ?_
          refine J_istore_n (k0 := 2) (pc := 105) [(2, .int 0), (3, .int x25), (0, .ref (G.1 + a)), (1, .int v1)] hX (by decide +kernel) rfl (by decide) rfl ?_
          refine J_goto (pc := 106) (off := -97) (tgt := 9) hX (by decide +kernel) (by decide +kernel) ?_
          exact J_sub [2, 3, 0] _ rfl (hk9 v1 0 μ30)
        · refine J_iconst (pc := 96) (n := -1) (v := (-1)) hX (by decide +kernel) (by decide +kernel) ?_
          exact J_iret (pc := 97) hX (by decide +kernel) rfl trivial
      · exact J_sub [1, 2, 3, 0] _ rfl (jMo_readAny_33 hL hX v1 v2 x25 hk9 μ26)
set_option maxRecDepth 100000 in
set_option maxHeartbeats 4000000 in
theorem jMo_readAny_9 {X : Cx} {l : Launch} {G : Gx} {y : Ly} {a : Nat} (hL : LyMo y a ) (hX : Ok X l G prog_13_method_43_code 4 (some .int) "SaltFiguresModel")    : ∀ (fu : Nat) (v1 : Int32) (v2 : Int32) (μ : Mu), J X G 4 8 y (emy y) rvI tpT 9 [(0, .ref (G.1 + a)), (1, .int v1), (2, .int v2)] [] (μ, y) (Mo_readAny_9 a   fu v1 v2 μ) := by
  intro fu
  induction fu with
  | zero => intros; exact J_none
  | succ fu ih => intro v1 v2 μ; exact jMo_readAny_9b hL hX   ih v1 v2 μ
set_option maxRecDepth 100000 in
set_option maxHeartbeats 4000000 in
theorem jMo_readAny {X : Cx} {l : Launch} {G : Gx} {y : Ly} {a : Nat} (hL : LyMo y a ) (hX : Ok X l G prog_13_method_43_code 4 (some .int) "SaltFiguresModel")  (μ : Mu) : J X G 4 8 y (emy y) rvI tpT 0 [(0, .ref (G.1 + a))] [] (μ, y) (Mo_readAny a  μ) := by
  unfold Mo_readAny
  refine J_iconst (pc := 0) (n := 0) (v := 0) hX (by decide +kernel) (by decide +kernel) ?_
  refine J_istore_n (k0 := 1) (pc := 1) [(1, .int 0), (0, .ref (G.1 + a))] hX (by decide +kernel) rfl (by decide) rfl ?_
  refine J_aload_n (k0 := 0) (pc := 2) 1 hX (by decide +kernel) rfl rfl ?_
  refine J_iconst (pc := 3) (n := 0) (v := 0) hX (by decide +kernel) (by decide +kernel) ?_
  refine J_pF (pc := 4) hX (by decide +kernel) fl_Mo_235 hL.1 rfl (fun μ1 => ?_)
  refine J_iconst (pc := 7) (n := 1) (v := 1) hX (by decide +kernel) (by decide +kernel) ?_
  refine J_istore_n (k0 := 2) (pc := 8) [(2, .int 1), (1, .int 0), (0, .ref (G.1 + a))] hX (by decide +kernel) rfl (by decide) rfl ?_
  exact J_sub [2, 1, 0] _ rfl (jMo_readAny_9 hL hX FU 0 1 μ1)
set_option maxRecDepth 100000 in
set_option maxHeartbeats 4000000 in
theorem c_Mo_readAny {l : Launch} {G : Gx} {y : Ly} {a : Nat} (hL : LyMo y a )  (μ : Mu) : Cn l G ⟨"SaltFiguresModel", "readAny", "()I"⟩ prog_13_method_43_code 4 (some .int) 8 [.ref (G.1 + a)] (μ, y) (emy y) rvI tpT (Mo_readAny a  μ) := cn_of (by decide +kernel) (Nat.le_of_ble_eq_true rfl) (fun _ _ _ => ⟨List.prefix_refl _, trivial⟩) (fun X hX _ => jMo_readAny hL hX  μ)

def Mo_readNumber (a : Nat) (v1 : Int32) (v2 : Int32) (μ : Mu) : Option (Int32 × Mu) := gF μ a 12 (fun x1 => (if x1 = 3 then gF μ a 13 (fun x2 => cl (Mo_isIn a x2 v1 v2 μ) (fun x4 μ3 => (if x4 = 0 then cl (Mo_errs a 2 μ3) (fun x8 μ7 => some (x8, μ7)) else gF μ3 a 13 (fun x5 => cl (Mo_reads a μ3) (fun _ μ6 => some (x5, μ6)))))) else cl (Mo_errs a 1 μ) (fun x10 μ9 => some (x10, μ9))))
set_option maxRecDepth 100000 in
set_option maxHeartbeats 4000000 in
theorem jMo_readNumber {X : Cx} {l : Launch} {G : Gx} {y : Ly} {a : Nat} (hL : LyMo y a ) (hX : Ok X l G prog_13_method_47_code 4 (some .int) "SaltFiguresModel") (v1 : Int32) (v2 : Int32) (μ : Mu) : J X G 4 4 y (emy y) rvI tpT 0 [(0, .ref (G.1 + a)), (1, .int v1), (2, .int v2)] [] (μ, y) (Mo_readNumber a v1 v2 μ) := by
  unfold Mo_readNumber
  refine J_aload_n (k0 := 0) (pc := 0) 0 hX (by decide +kernel) rfl rfl ?_
  refine J_gF (pc := 1) hX (by decide +kernel) fl_Mo_181 hL.1 rfl (fun x1 => ?_)
  refine J_iconst (pc := 4) (n := 3) (v := 3) hX (by decide +kernel) (by decide +kernel) ?_
  refine J_icmp_eq (pc := 5) (off := 9) (tgt := 14) hX (by decide +kernel) (by decide +kernel) (fun _ => ?_) (fun _ => ?_)
  · refine J_aload_n (k0 := 0) (pc := 14) 0 hX (by decide +kernel) rfl rfl ?_
    refine J_aload_n (k0 := 0) (pc := 15) 0 hX (by decide +kernel) rfl rfl ?_
    refine J_gF (pc := 16) hX (by decide +kernel) fl_Mo_184 hL.1 rfl (fun x2 => ?_)
    refine J_iload_n (k0 := 1) (pc := 19) 1 hX (by decide +kernel) rfl rfl ?_
    refine J_iload_n (k0 := 2) (pc := 20) 2 hX (by decide +kernel) rfl rfl ?_
    refine J_cVi (pc := 21) (idx := 154) [.int x2, .int v1, .int v2] hX (by decide +kernel) (mq mt_6 226 (by decide +kernel)) mv_Mo_isIn hL.1 rfl rfl (Nat.le_of_ble_eq_true rfl) (Nat.le_of_ble_eq_true rfl) (c_Mo_isIn hL x2 v1 v2 μ) (fun x4 μ3 => ?_)
    refine J_if_ne (pc := 24) (off := 9) (tgt := 33) hX (by decide +kernel) (by decide +kernel) (fun _ => ?_) (fun _ => ?_)
    · refine J_aload_n (k0 := 0) (pc := 33) 0 hX (by decide +kernel) rfl rfl ?_
      refine J_gF (pc := 34) hX (by decide +kernel) fl_Mo_184 hL.1 rfl (fun x5 => ?_)
      refine J_istore_n (k0 := 3) (pc := 37) [(3, .int x5), (0, .ref (G.1 + a)), (1, .int v1), (2, .int v2)] hX (by decide +kernel) rfl (by decide) rfl ?_
      refine J_aload_n (k0 := 0) (pc := 38) 1 hX (by decide +kernel) rfl rfl ?_
      refine J_cVv (pc := 39) (idx := 219) [] hX (by decide +kernel) (mq mt_7 22 (by decide +kernel)) mv_Mo_reads hL.1 rfl rfl (Nat.le_of_ble_eq_true rfl) (Nat.le_of_ble_eq_true rfl) (c_Mo_reads hL μ3) (fun μ6 => ?_)
      refine J_iload_n (k0 := 3) (pc := 42) 0 hX (by decide +kernel) rfl rfl ?_
      exact J_iret (pc := 43) hX (by decide +kernel) rfl trivial
    · refine J_aload_n (k0 := 0) (pc := 27) 0 hX (by decide +kernel) rfl rfl ?_
      refine J_iconst (pc := 28) (n := 2) (v := 2) hX (by decide +kernel) (by decide +kernel) ?_
      refine J_cVi (pc := 29) (idx := 212) [.int 2] hX (by decide +kernel) (mq mt_7 54 (by decide +kernel)) mv_Mo_errs hL.1 rfl rfl (Nat.le_of_ble_eq_true rfl) (Nat.le_of_ble_eq_true rfl) (c_Mo_errs hL 2 μ3) (fun x8 μ7 => ?_)
      exact J_iret (pc := 32) hX (by decide +kernel) rfl trivial
  · refine J_aload_n (k0 := 0) (pc := 8) 0 hX (by decide +kernel) rfl rfl ?_
    refine J_iconst (pc := 9) (n := 1) (v := 1) hX (by decide +kernel) (by decide +kernel) ?_
    refine J_cVi (pc := 10) (idx := 212) [.int 1] hX (by decide +kernel) (mq mt_7 54 (by decide +kernel)) mv_Mo_errs hL.1 rfl rfl (Nat.le_of_ble_eq_true rfl) (Nat.le_of_ble_eq_true rfl) (c_Mo_errs hL 1 μ) (fun x10 μ9 => ?_)
    exact J_iret (pc := 13) hX (by decide +kernel) rfl trivial
set_option maxRecDepth 100000 in
set_option maxHeartbeats 4000000 in
theorem c_Mo_readNumber {l : Launch} {G : Gx} {y : Ly} {a : Nat} (hL : LyMo y a ) (v1 : Int32) (v2 : Int32) (μ : Mu) : Cn l G ⟨"SaltFiguresModel", "readNumber", "(II)I"⟩ prog_13_method_47_code 4 (some .int) 4 [.ref (G.1 + a), .int v1, .int v2] (μ, y) (emy y) rvI tpT (Mo_readNumber a v1 v2 μ) := cn_of (by decide +kernel) (Nat.le_of_ble_eq_true rfl) (fun _ _ _ => ⟨List.prefix_refl _, trivial⟩) (fun X hX _ => jMo_readNumber hL hX v1 v2 μ)

def Mo_readTold (a : Nat) (v1 : Int32) (v2 : Int32) (v3 : Int32) (μ : Mu) : Option (Int32 × Mu) := cl (Mo_isWord a v1 μ) (fun x2 μ1 => (if x2 = 0 then cl (Mo_errs a 1 μ1) (fun x7 μ6 => some (x7, μ6)) else cl (Mo_reads a μ1) (fun _ μ3 => cl (Mo_readNumber a v2 v3 μ3) (fun x5 μ4 => some (x5, μ4)))))
set_option maxRecDepth 100000 in
set_option maxHeartbeats 4000000 in
theorem jMo_readTold {X : Cx} {l : Launch} {G : Gx} {y : Ly} {a : Nat} (hL : LyMo y a ) (hX : Ok X l G prog_13_method_49_code 4 (some .int) "SaltFiguresModel") (v1 : Int32) (v2 : Int32) (v3 : Int32) (μ : Mu) : J X G 4 5 y (emy y) rvI tpT 0 [(0, .ref (G.1 + a)), (1, .int v1), (2, .int v2), (3, .int v3)] [] (μ, y) (Mo_readTold a v1 v2 v3 μ) := by
  unfold Mo_readTold
  refine J_aload_n (k0 := 0) (pc := 0) 0 hX (by decide +kernel) rfl rfl ?_
  refine J_iload_n (k0 := 1) (pc := 1) 1 hX (by decide +kernel) rfl rfl ?_
  refine J_cVi (pc := 2) (idx := 241) [.int v1] hX (by decide +kernel) (mq mt_7 50 (by decide +kernel)) mv_Mo_isWord hL.1 rfl rfl (Nat.le_of_ble_eq_true rfl) (Nat.le_of_ble_eq_true rfl) (c_Mo_isWord hL v1 μ) (fun x2 μ1 => ?_)
  refine J_if_ne (pc := 5) (off := 9) (tgt := 14) hX (by decide +kernel) (by decide +kernel) (fun _ => ?_) (fun _ => ?_)
  · refine J_aload_n (k0 := 0) (pc := 14) 0 hX (by decide +kernel) rfl rfl ?_
    refine J_cVv (pc := 15) (idx := 219) [] hX (by decide +kernel) (mq mt_7 22 (by decide +kernel)) mv_Mo_reads hL.1 rfl rfl (Nat.le_of_ble_eq_true rfl) (Nat.le_of_ble_eq_true rfl) (c_Mo_reads hL μ1) (fun μ3 => ?_)
    refine J_aload_n (k0 := 0) (pc := 18) 0 hX (by decide +kernel) rfl rfl ?_
    refine J_iload_n (k0 := 2) (pc := 19) 2 hX (by decide +kernel) rfl rfl ?_
    refine J_iload_n (k0 := 3) (pc := 20) 3 hX (by decide +kernel) rfl rfl ?_
    refine J_cVi (pc := 21) (idx := 263) [.int v2, .int v3] hX (by decide +kernel) (mq mt_7 62 (by decide +kernel)) mv_Mo_readNumber hL.1 rfl rfl (Nat.le_of_ble_eq_true rfl) (Nat.le_of_ble_eq_true rfl) (c_Mo_readNumber hL v2 v3 μ3) (fun x5 μ4 => ?_)
    exact J_iret (pc := 24) hX (by decide +kernel) rfl trivial
  · refine J_aload_n (k0 := 0) (pc := 8) 0 hX (by decide +kernel) rfl rfl ?_
    refine J_iconst (pc := 9) (n := 1) (v := 1) hX (by decide +kernel) (by decide +kernel) ?_
    refine J_cVi (pc := 10) (idx := 212) [.int 1] hX (by decide +kernel) (mq mt_7 54 (by decide +kernel)) mv_Mo_errs hL.1 rfl rfl (Nat.le_of_ble_eq_true rfl) (Nat.le_of_ble_eq_true rfl) (c_Mo_errs hL 1 μ1) (fun x7 μ6 => ?_)
    exact J_iret (pc := 13) hX (by decide +kernel) rfl trivial
set_option maxRecDepth 100000 in
set_option maxHeartbeats 4000000 in
theorem c_Mo_readTold {l : Launch} {G : Gx} {y : Ly} {a : Nat} (hL : LyMo y a ) (v1 : Int32) (v2 : Int32) (v3 : Int32) (μ : Mu) : Cn l G ⟨"SaltFiguresModel", "readTold", "(III)I"⟩ prog_13_method_49_code 4 (some .int) 5 [.ref (G.1 + a), .int v1, .int v2, .int v3] (μ, y) (emy y) rvI tpT (Mo_readTold a v1 v2 v3 μ) := cn_of (by decide +kernel) (Nat.le_of_ble_eq_true rfl) (fun _ _ _ => ⟨List.prefix_refl _, trivial⟩) (fun X hX _ => jMo_readTold hL hX v1 v2 v3 μ)

def Mo_readMark (a : Nat) (v1 : Int32) (μ : Mu) : Option (Int32 × Mu) := cl (Mo_isSign a v1 μ) (fun x2 μ1 => (if x2 = 0 then cl (Mo_errs a 1 μ1) (fun x5 μ4 => some (x5, μ4)) else cl (Mo_reads a μ1) (fun _ μ3 => some (0, μ3))))
set_option maxRecDepth 100000 in
set_option maxHeartbeats 4000000 in
theorem jMo_readMark {X : Cx} {l : Launch} {G : Gx} {y : Ly} {a : Nat} (hL : LyMo y a ) (hX : Ok X l G prog_13_method_48_code 2 (some .int) "SaltFiguresModel") (v1 : Int32) (μ : Mu) : J X G 2 4 y (emy y) rvI tpT 0 [(0, .ref (G.1 + a)), (1, .int v1)] [] (μ, y) (Mo_readMark a v1 μ) := by
  unfold Mo_readMark
  refine J_aload_n (k0 := 0) (pc := 0) 0 hX (by decide +kernel) rfl rfl ?_
  refine J_iload_n (k0 := 1) (pc := 1) 1 hX (by decide +kernel) rfl rfl ?_
  refine J_cVi (pc := 2) (idx := 226) [.int v1] hX (by decide +kernel) (mq mt_7 70 (by decide +kernel)) mv_Mo_isSign hL.1 rfl rfl (Nat.le_of_ble_eq_true rfl) (Nat.le_of_ble_eq_true rfl) (c_Mo_isSign hL v1 μ) (fun x2 μ1 => ?_)
  refine J_if_ne (pc := 5) (off := 9) (tgt := 14) hX (by decide +kernel) (by decide +kernel) (fun _ => ?_) (fun _ => ?_)
  · refine J_aload_n (k0 := 0) (pc := 14) 0 hX (by decide +kernel) rfl rfl ?_
    refine J_cVv (pc := 15) (idx := 219) [] hX (by decide +kernel) (mq mt_7 22 (by decide +kernel)) mv_Mo_reads hL.1 rfl rfl (Nat.le_of_ble_eq_true rfl) (Nat.le_of_ble_eq_true rfl) (c_Mo_reads hL μ1) (fun μ3 => ?_)
    refine J_iconst (pc := 18) (n := 0) (v := 0) hX (by decide +kernel) (by decide +kernel) ?_
    exact J_iret (pc := 19) hX (by decide +kernel) rfl trivial
  · refine J_aload_n (k0 := 0) (pc := 8) 0 hX (by decide +kernel) rfl rfl ?_
    refine J_iconst (pc := 9) (n := 1) (v := 1) hX (by decide +kernel) (by decide +kernel) ?_
    refine J_cVi (pc := 10) (idx := 212) [.int 1] hX (by decide +kernel) (mq mt_7 54 (by decide +kernel)) mv_Mo_errs hL.1 rfl rfl (Nat.le_of_ble_eq_true rfl) (Nat.le_of_ble_eq_true rfl) (c_Mo_errs hL 1 μ1) (fun x5 μ4 => ?_)
    exact J_iret (pc := 13) hX (by decide +kernel) rfl trivial
set_option maxRecDepth 100000 in
set_option maxHeartbeats 4000000 in
theorem c_Mo_readMark {l : Launch} {G : Gx} {y : Ly} {a : Nat} (hL : LyMo y a ) (v1 : Int32) (μ : Mu) : Cn l G ⟨"SaltFiguresModel", "readMark", "(I)I"⟩ prog_13_method_48_code 2 (some .int) 4 [.ref (G.1 + a), .int v1] (μ, y) (emy y) rvI tpT (Mo_readMark a v1 μ) := cn_of (by decide +kernel) (Nat.le_of_ble_eq_true rfl) (fun _ _ _ => ⟨List.prefix_refl _, trivial⟩) (fun X hX _ => jMo_readMark hL hX v1 μ)

def Mo_readDeed_152 (a : Nat)   (v1 : Int32) (s0 : Int32) (s1 : Int32) (μ : Mu) : Option (Int32 × Mu) := stA μ (a + 17) 128 s1 s0 (fun μ1 => ldA μ1 (a + 17) 128 (v1 + 3) (fun x2 => (if x2 = ((-1)) then some ((-1), μ1) else cl (Mo_readMark a 59 μ1) (fun x4 μ3 => some (x4, μ3)))))
def Mo_readDeed_114 (a : Nat)   (v1 : Int32) (v2 : Int32) (s0 : Int32) (s1 : Int32) (μ : Mu) : Option (Int32 × Mu) := stA μ (a + 17) 128 s1 s0 (fun μ1 => ldA μ1 (a + 17) 128 (v1 + 2) (fun x2 => (if x2 = ((-1)) then some ((-1), μ1) else (if v2 = 3 then cl (Mo_readNumber a 0 9 μ1) (fun x4 μ3 => Mo_readDeed_152 a v1 x4 (v1 + 3) μ3) else Mo_readDeed_152 a v1 0 (v1 + 3) μ1))))
def Mo_readDeed (a : Nat) (v1 : Int32) (μ : Mu) : Option (Int32 × Mu) := cl (Mo_readTold a 18 0 999 μ) (fun x2 μ1 => stA μ1 (a + 17) 128 v1 x2 (fun μ3 => ldA μ3 (a + 17) 128 v1 (fun x4 => (if x4 = ((-1)) then some ((-1), μ3) else cl (Mo_kindOfDeed a μ3) (fun x6 μ5 => (if x6 = ((-1)) then cl (Mo_errs a 1 μ5) (fun x17 μ16 => some (x17, μ16)) else cl (Mo_reads a μ5) (fun _ μ7 => stA μ7 (a + 17) 128 (v1 + 1) x6 (fun μ8 => (if x6 = 2 then Mo_readDeed_114 a v1 x6 0 (v1 + 2) μ8 else (if x6 = 0 then cl (Mo_readNumber a 0 9 μ8) (fun x15 μ14 => Mo_readDeed_114 a v1 x6 x15 (v1 + 2) μ14) else (if x6 = 1 then cl (Mo_readNumber a 1 999 μ8) (fun x13 μ12 => Mo_readDeed_114 a v1 x6 x13 (v1 + 2) μ12) else gF μ8 a 6 (fun x9 => cl (Mo_readNumber a 0 (x9 - 1) μ8) (fun x11 μ10 => Mo_readDeed_114 a v1 x6 x11 (v1 + 2) μ10)))))))))))))
set_option maxRecDepth 100000 in
set_option maxHeartbeats 4000000 in
theorem jMo_readDeed_152 {X : Cx} {l : Launch} {G : Gx} {y : Ly} {a : Nat} (hL : LyMo y a ) (hX : Ok X l G prog_13_method_52_code 3 (some .int) "SaltFiguresModel")  (v1 : Int32) (s0 : Int32) (s1 : Int32)   (μ : Mu) : J X G 3 6 y (emy y) rvI tpT 152 [(0, .ref (G.1 + a)), (1, .int v1)] [.int s0, .int s1, .ref (G.1 + (a + 17))] (μ, y) (Mo_readDeed_152 a   v1 s0 s1 μ) := by
  unfold Mo_readDeed_152
  refine J_stA (pc := 152) hX (by decide +kernel) hL.2.2.2.2.2.2.2.2.2.2.2.2.2.2.2.2.2.1.2 (fun μ1 => ?_)
  refine J_aload_n (k0 := 0) (pc := 153) 0 hX (by decide +kernel) rfl rfl ?_
  refine J_gr (pc := 154) hX (by decide +kernel) fl_Mo_62 hL.1 rfl hL.2.2.2.2.2.2.2.2.2.2.2.2.2.2.2.2.2.1.1 ?_
  refine J_iload_n (k0 := 1) (pc := 157) 1 hX (by decide +kernel) rfl rfl ?_
  refine J_iconst (pc := 158) (n := 3) (v := 3) hX (by decide +kernel) (by decide +kernel) ?_
  refine J_iadd (pc := 159) hX (by decide +kernel) ?_
  refine J_ldA (pc := 160) hX (by decide +kernel) hL.2.2.2.2.2.2.2.2.2.2.2.2.2.2.2.2.2.1.2 (fun x2 => ?_)
  refine J_iconst (pc := 161) (n := -1) (v := (-1)) hX (by decide +kernel) (by decide +kernel) ?_
  refine J_icmp_ne (pc := 162) (off := 7) (tgt := 169) hX (by decide +kernel) (by decide +kernel) (fun _ => ?_) (fun _ => ?_)
  · refine J_aload_n (k0 := 0) (pc := 169) 0 hX (by decide +kernel) rfl rfl ?_
    refine J_bipush (pc := 170) (n := 59) (v := 59) hX (by decide +kernel) (by decide +kernel) ?_
    refine J_cVi (pc := 172) (idx := 270) [.int 59] hX (by decide +kernel) (mq mt_7 66 (by decide +kernel)) mv_Mo_readMark hL.1 rfl rfl (Nat.le_of_ble_eq_true rfl) (Nat.le_of_ble_eq_true rfl) (c_Mo_readMark hL 59 μ1) (fun x4 μ3 => ?_)
    exact J_iret (pc := 175) hX (by decide +kernel) rfl trivial
  · refine J_iconst (pc := 165) (n := -1) (v := (-1)) hX (by decide +kernel) (by decide +kernel) ?_
    refine J_goto (pc := 166) (off := 9) (tgt := 175) hX (by decide +kernel) (by decide +kernel) ?_
    exact J_iret (pc := 175) hX (by decide +kernel) rfl trivial
set_option maxRecDepth 100000 in
set_option maxHeartbeats 4000000 in
theorem jMo_readDeed_114 {X : Cx} {l : Launch} {G : Gx} {y : Ly} {a : Nat} (hL : LyMo y a ) (hX : Ok X l G prog_13_method_52_code 3 (some .int) "SaltFiguresModel")  (v1 : Int32) (v2 : Int32) (s0 : Int32) (s1 : Int32)   (μ : Mu) : J X G 3 6 y (emy y) rvI tpT 114 [(0, .ref (G.1 + a)), (1, .int v1), (2, .int v2)] [.int s0, .int s1, .ref (G.1 + (a + 17))] (μ, y) (Mo_readDeed_114 a   v1 v2 s0 s1 μ) := by
  unfold Mo_readDeed_114
  refine J_stA (pc := 114) hX (by decide +kernel) hL.2.2.2.2.2.2.2.2.2.2.2.2.2.2.2.2.2.1.2 (fun μ1 => ?_)
  refine J_aload_n (k0 := 0) (pc := 115) 0 hX (by decide +kernel) rfl rfl ?_
  refine J_gr (pc := 116) hX (by decide +kernel) fl_Mo_62 hL.1 rfl hL.2.2.2.2.2.2.2.2.2.2.2.2.2.2.2.2.2.1.1 ?_
  refine J_iload_n (k0 := 1) (pc := 119) 1 hX (by decide +kernel) rfl rfl ?_
  refine J_iconst (pc := 120) (n := 2) (v := 2) hX (by decide +kernel) (by decide +kernel) ?_
  refine J_iadd (pc := 121) hX (by decide +kernel) ?_
  refine J_ldA (pc := 122) hX (by decide +kernel) hL.2.2.2.2.2.2.2.2.2.2.2.2.2.2.2.2.2.1.2 (fun x2 => ?_)
  refine J_iconst (pc := 123) (n := -1) (v := (-1)) hX (by decide +kernel) (by decide +kernel) ?_
  refine J_icmp_ne (pc := 124) (off := 5) (tgt := 129) hX (by decide +kernel) (by decide +kernel) (fun _ => ?_) (fun _ => ?_)
  · refine J_aload_n (k0 := 0) (pc := 129) 0 hX (by decide +kernel) rfl rfl ?_
    refine J_gr (pc := 130) hX (by decide +kernel) fl_Mo_62 hL.1 rfl hL.2.2.2.2.2.2.2.2.2.2.2.2.2.2.2.2.2.1.1 ?_
    refine J_iload_n (k0 := 1) (pc := 133) 1 hX (by decide +kernel) rfl rfl ?_
    refine J_iconst (pc := 134) (n := 3) (v := 3) hX (by decide +kernel) (by decide +kernel) ?_
    refine J_iadd (pc := 135) hX (by decide +kernel) ?_
    refine J_iload_n (k0 := 2) (pc := 136) 2 hX (by decide +kernel) rfl rfl ?_
    refine J_iconst (pc := 137) (n := 3) (v := 3) hX (by decide +kernel) (by decide +kernel) ?_
    refine J_icmp_ne (pc := 138) (off := 13) (tgt := 151) hX (by decide +kernel) (by decide +kernel) (fun _ => ?_) (fun _ => ?_)
    · refine J_iconst (pc := 151) (n := 0) (v := 0) hX (by decide +kernel) (by decide +kernel) ?_
      exact J_sub [0, 1] _ rfl (jMo_readDeed_152 hL hX v1 0 (v1 + 3) μ1)
    · refine J_aload_n (k0 := 0) (pc := 141) 0 hX (by decide +kernel) rfl rfl ?_
      refine J_iconst (pc := 142) (n := 0) (v := 0) hX (by decide +kernel) (by decide +kernel) ?_
      refine J_bipush (pc := 143) (n := 9) (v := 9) hX (by decide +kernel) (by decide +kernel) ?_
      refine J_cVi (pc := 145) (idx := 263) [.int 0, .int 9] hX (by decide +kernel) (mq mt_7 62 (by decide +kernel)) mv_Mo_readNumber hL.1 rfl rfl (Nat.le_of_ble_eq_true rfl) (Nat.le_of_ble_eq_true rfl) (c_Mo_readNumber hL 0 9 μ1) (fun x4 μ3 => ?_)
      refine J_goto (pc := 148) (off := 4) (tgt := 152) hX (by decide +kernel) (by decide +kernel) ?_
      exact J_sub [0, 1] _ rfl (jMo_readDeed_152 hL hX v1 x4 (v1 + 3) μ3)
  · refine J_iconst (pc := 127) (n := -1) (v := (-1)) hX (by decide +kernel) (by decide +kernel) ?_
    exact J_iret (pc := 128) hX (by decide +kernel) rfl trivial
set_option maxRecDepth 100000 in
set_option maxHeartbeats 4000000 in
theorem jMo_readDeed {X : Cx} {l : Launch} {G : Gx} {y : Ly} {a : Nat} (hL : LyMo y a ) (hX : Ok X l G prog_13_method_52_code 3 (some .int) "SaltFiguresModel") (v1 : Int32) (μ : Mu) : J X G 3 6 y (emy y) rvI tpT 0 [(0, .ref (G.1 + a)), (1, .int v1)] [] (μ, y) (Mo_readDeed a v1 μ) := by
  unfold Mo_readDeed
  refine J_aload_n (k0 := 0) (pc := 0) 0 hX (by decide +kernel) rfl rfl ?_
  refine J_gr (pc := 1) hX (by decide +kernel) fl_Mo_62 hL.1 rfl hL.2.2.2.2.2.2.2.2.2.2.2.2.2.2.2.2.2.1.1 ?_
  refine J_iload_n (k0 := 1) (pc := 4) 1 hX (by decide +kernel) rfl rfl ?_
  refine J_aload_n (k0 := 0) (pc := 5) 0 hX (by decide +kernel) rfl rfl ?_
  refine J_bipush (pc := 6) (n := 18) (v := 18) hX (by decide +kernel) (by decide +kernel) ?_
  refine J_iconst (pc := 8) (n := 0) (v := 0) hX (by decide +kernel) (by decide +kernel) ?_
  refine J_sipush (pc := 9) (n := 999) (v := 999) hX (by decide +kernel) (by decide +kernel) ?_
  refine J_cVi (pc := 12) (idx := 266) [.int 18, .int 0, .int 999] hX (by decide +kernel) (mq mt_7 58 (by decide +kernel)) mv_Mo_readTold hL.1 rfl rfl (Nat.le_of_ble_eq_true rfl) (Nat.le_of_ble_eq_true rfl) (c_Mo_readTold hL 18 0 999 μ) (fun x2 μ1 => ?_)
  refine J_stA (pc := 15) hX (by decide +kernel) hL.2.2.2.2.2.2.2.2.2.2.2.2.2.2.2.2.2.1.2 (fun μ3 => ?_)
  refine J_aload_n (k0 := 0) (pc := 16) 0 hX (by decide +kernel) rfl rfl ?_
  refine J_gr (pc := 17) hX (by decide +kernel) fl_Mo_62 hL.1 rfl hL.2.2.2.2.2.2.2.2.2.2.2.2.2.2.2.2.2.1.1 ?_
  refine J_iload_n (k0 := 1) (pc := 20) 1 hX (by decide +kernel) rfl rfl ?_
  refine J_ldA (pc := 21) hX (by decide +kernel) hL.2.2.2.2.2.2.2.2.2.2.2.2.2.2.2.2.2.1.2 (fun x4 => ?_)
  refine J_iconst (pc := 22) (n := -1) (v := (-1)) hX (by decide +kernel) (by decide +kernel) ?_
  refine J_icmp_ne (pc := 23) (off := 5) (tgt := 28) hX (by decide +kernel) (by decide +kernel) (fun _ => ?_) (fun _ => ?_)
  · refine J_aload_n (k0 := 0) (pc := 28) 0 hX (by decide +kernel) rfl rfl ?_
    refine J_cVi (pc := 29) (idx := 273) [] hX (by decide +kernel) (mq mt_7 82 (by decide +kernel)) mv_Mo_kindOfDeed hL.1 rfl rfl (Nat.le_of_ble_eq_true rfl) (Nat.le_of_ble_eq_true rfl) (c_Mo_kindOfDeed hL μ3) (fun x6 μ5 => ?_)
    refine J_istore_n (k0 := 2) (pc := 32) [(2, .int x6), (0, .ref (G.1 + a)), (1, .int v1)] hX (by decide +kernel) rfl (by decide) rfl ?_
    refine J_iload_n (k0 := 2) (pc := 33) 0 hX (by decide +kernel) rfl rfl ?_
    refine J_iconst (pc := 34) (n := -1) (v := (-1)) hX (by decide +kernel) (by decide +kernel) ?_
    refine J_icmp_ne (pc := 35) (off := 9) (tgt := 44) hX (by decide +kernel) (by decide +kernel) (fun _ => ?_) (fun _ => ?_)
    · refine J_aload_n (k0 := 0) (pc := 44) 1 hX (by decide +kernel) rfl rfl ?_
      refine J_cVv (pc := 45) (idx := 219) [] hX (by decide +kernel) (mq mt_7 22 (by decide +kernel)) mv_Mo_reads hL.1 rfl rfl (Nat.le_of_ble_eq_true rfl) (Nat.le_of_ble_eq_true rfl) (c_Mo_reads hL μ5) (fun μ7 => ?_)
      refine J_aload_n (k0 := 0) (pc := 48) 1 hX (by decide +kernel) rfl rfl ?_
      refine J_gr (pc := 49) hX (by decide +kernel) fl_Mo_62 hL.1 rfl hL.2.2.2.2.2.2.2.2.2.2.2.2.2.2.2.2.2.1.1 ?_
      refine J_iload_n (k0 := 1) (pc := 52) 2 hX (by decide +kernel) rfl rfl ?_
      refine J_iconst (pc := 53) (n := 1) (v := 1) hX (by decide +kernel) (by decide +kernel) ?_
      refine J_iadd (pc := 54) hX (by decide +kernel) ?_
      refine J_iload_n (k0 := 2) (pc := 55) 0 hX (by decide +kernel) rfl rfl ?_
      refine J_stA (pc := 56) hX (by decide +kernel) hL.2.2.2.2.2.2.2.2.2.2.2.2.2.2.2.2.2.1.2 (fun μ8 => ?_)
      refine J_aload_n (k0 := 0) (pc := 57) 1 hX (by decide +kernel) rfl rfl ?_
      refine J_gr (pc := 58) hX (by decide +kernel) fl_Mo_62 hL.1 rfl hL.2.2.2.2.2.2.2.2.2.2.2.2.2.2.2.2.2.1.1 ?_
      refine J_iload_n (k0 := 1) (pc := 61) 2 hX (by decide +kernel) rfl rfl ?_
      refine J_iconst (pc := 62) (n := 2) (v := 2) hX (by decide +kernel) (by decide +kernel) ?_
      refine J_iadd (pc := 63) hX (by decide +kernel) ?_
      refine J_iload_n (k0 := 2) (pc := 64) 0 hX (by decide +kernel) rfl rfl ?_
      refine J_iconst (pc := 65) (n := 2) (v := 2) hX (by decide +kernel) (by decide +kernel) ?_
      refine J_icmp_ne (pc := 66) (off := 7) (tgt := 73) hX (by decide +kernel) (by decide +kernel) (fun _ => ?_) (fun _ => ?_)
      · refine J_iload_n (k0 := 2) (pc := 73) 0 hX (by decide +kernel) rfl rfl ?_
        refine J_if_ne (pc := 74) (off := 13) (tgt := 87) hX (by decide +kernel) (by decide +kernel) (fun _ => ?_) (fun _ => ?_)
        · refine J_iload_n (k0 := 2) (pc := 87) 0 hX (by decide +kernel) rfl rfl ?_
          refine J_iconst (pc := 88) (n := 1) (v := 1) hX (by decide +kernel) (by decide +kernel) ?_
          refine J_icmp_ne (pc := 89) (off := 14) (tgt := 103) hX (by decide +kernel) (by decide +kernel) (fun _ => ?_) (fun _ => ?_)
          · refine J_aload_n (k0 := 0) (pc := 103) 1 hX (by decide +kernel) rfl rfl ?_
            refine J_iconst (pc := 104) (n := 0) (v := 0) hX (by decide +kernel) (by decide +kernel) ?_
            refine J_aload_n (k0 := 0) (pc := 105) 1 hX (by decide +kernel) rfl rfl ?_
            refine J_gF (pc := 106) hX (by decide +kernel) fl_Mo_144 hL.1 rfl (fun x9 => ?_)
            refine J_iconst (pc := 109) (n := 1) (v := 1) hX (by decide +kernel) (by decide +kernel) ?_
            refine J_isub (pc := 110) hX (by decide +kernel) ?_
            refine J_cVi (pc := 111) (idx := 263) [.int 0, .int (x9 - 1)] hX (by decide +kernel) (mq mt_7 62 (by decide +kernel)) mv_Mo_readNumber hL.1 rfl rfl (Nat.le_of_ble_eq_true rfl) (Nat.le_of_ble_eq_true rfl) (c_Mo_readNumber hL 0 (x9 - 1) μ8) (fun x11 μ10 => ?_)
            exact J_sub [1, 2, 0] _ rfl (jMo_readDeed_114 hL hX v1 x6 x11 (v1 + 2) μ10)
          · refine J_aload_n (k0 := 0) (pc := 92) 1 hX (by decide +kernel) rfl rfl ?_
            refine J_iconst (pc := 93) (n := 1) (v := 1) hX (by decide +kernel) (by decide +kernel) ?_
            refine J_sipush (pc := 94) (n := 999) (v := 999) hX (by decide +kernel) (by decide +kernel) ?_
            refine J_cVi (pc := 97) (idx := 263) [.int 1, .int 999] hX (by decide +kernel) (mq mt_7 62 (by decide +kernel)) mv_Mo_readNumber hL.1 rfl rfl (Nat.le_of_ble_eq_true rfl) (Nat.le_of_ble_eq_true rfl) (c_Mo_readNumber hL 1 999 μ8) (fun x13 μ12 => ?_)
            refine J_goto (pc := 100) (off := 14) (tgt := 114) hX (by decide +kernel) (by decide +kernel) ?_
            exact J_sub [1, 2, 0] _ rfl (jMo_readDeed_114 hL hX v1 x6 x13 (v1 + 2) μ12)
        · refine J_aload_n (k0 := 0) (pc := 77) 1 hX (by decide +kernel) rfl rfl ?_
          refine J_iconst (pc := 78) (n := 0) (v := 0) hX (by decide +kernel) (by decide +kernel) ?_
          refine J_bipush (pc := 79) (n := 9) (v := 9) hX (by decide +kernel) (by decide +kernel) ?_
          refine J_cVi (pc := 81) (idx := 263) [.int 0, .int 9] hX (by decide +kernel) (mq mt_7 62 (by decide +kernel)) mv_Mo_readNumber hL.1 rfl rfl (Nat.le_of_ble_eq_true rfl) (Nat.le_of_ble_eq_true rfl) (c_Mo_readNumber hL 0 9 μ8) (fun x15 μ14 => ?_)
          refine J_goto (pc := 84) (off := 30) (tgt := 114) hX (by decide +kernel) (by decide +kernel) ?_
          exact J_sub [1, 2, 0] _ rfl (jMo_readDeed_114 hL hX v1 x6 x15 (v1 + 2) μ14)
      · refine J_iconst (pc := 69) (n := 0) (v := 0) hX (by decide +kernel) (by decide +kernel) ?_
        refine J_goto (pc := 70) (off := 44) (tgt := 114) hX (by decide +kernel) (by decide +kernel) ?_
        exact J_sub [1, 2, 0] _ rfl (jMo_readDeed_114 hL hX v1 x6 0 (v1 + 2) μ8)
    · refine J_aload_n (k0 := 0) (pc := 38) 1 hX (by decide +kernel) rfl rfl ?_
      refine J_iconst (pc := 39) (n := 1) (v := 1) hX (by decide +kernel) (by decide +kernel) ?_
      refine J_cVi (pc := 40) (idx := 212) [.int 1] hX (by decide +kernel) (mq mt_7 54 (by decide +kernel)) mv_Mo_errs hL.1 rfl rfl (Nat.le_of_ble_eq_true rfl) (Nat.le_of_ble_eq_true rfl) (c_Mo_errs hL 1 μ5) (fun x17 μ16 => ?_)
      exact J_iret (pc := 43) hX (by decide +kernel) rfl trivial
  · refine J_iconst (pc := 26) (n := -1) (v := (-1)) hX (by decide +kernel) (by decide +kernel) ?_
    exact J_iret (pc := 27) hX (by decide +kernel) rfl trivial
set_option maxRecDepth 100000 in
set_option maxHeartbeats 4000000 in
theorem c_Mo_readDeed {l : Launch} {G : Gx} {y : Ly} {a : Nat} (hL : LyMo y a ) (v1 : Int32) (μ : Mu) : Cn l G ⟨"SaltFiguresModel", "readDeed", "(I)I"⟩ prog_13_method_52_code 3 (some .int) 6 [.ref (G.1 + a), .int v1] (μ, y) (emy y) rvI tpT (Mo_readDeed a v1 μ) := cn_of (by decide +kernel) (Nat.le_of_ble_eq_true rfl) (fun _ _ _ => ⟨List.prefix_refl _, trivial⟩) (fun X hX _ => jMo_readDeed hL hX v1 μ)

def Mo_readHeir_62 (a : Nat)   (v1 : Int32)  (μ : Mu) : Option (Int32 × Mu) := gF μ a 6 (fun x1 => cl (Mo_readNumber a 0 (x1 - 1) μ) (fun x3 μ2 => (if x3 = ((-1)) then some ((-1), μ2) else stA μ2 (a + 18) 32 (16 + v1) (x3 + 1) (fun μ4 => cl (Mo_readMark a 59 μ4) (fun x6 μ5 => some (x6, μ5))))))
def Mo_readHeir (a : Nat)  (μ : Mu) : Option (Int32 × Mu) := gF μ a 6 (fun x1 => cl (Mo_readTold a 17 0 (x1 - 1) μ) (fun x3 μ2 => (if x3 = ((-1)) then some ((-1), μ2) else cl (Mo_isWord a 23 μ2) (fun x5 μ4 => (if x5 = 0 then cl (Mo_errs a 1 μ4) (fun x12 μ11 => some (x12, μ11)) else cl (Mo_reads a μ4) (fun _ μ6 => gF μ6 a 12 (fun x7 => (if x7 = 3 then gF μ6 a 13 (fun x8 => (if x8 = x3 then cl (Mo_errs a 2 μ6) (fun x10 μ9 => some (x10, μ9)) else Mo_readHeir_62 a x3 μ6)) else Mo_readHeir_62 a x3 μ6))))))))
set_option maxRecDepth 100000 in
set_option maxHeartbeats 4000000 in
theorem jMo_readHeir_62 {X : Cx} {l : Launch} {G : Gx} {y : Ly} {a : Nat} (hL : LyMo y a ) (hX : Ok X l G prog_13_method_54_code 3 (some .int) "SaltFiguresModel")  (v1 : Int32)    (μ : Mu) : J X G 3 6 y (emy y) rvI tpT 62 [(0, .ref (G.1 + a)), (1, .int v1)] [] (μ, y) (Mo_readHeir_62 a   v1  μ) := by
  unfold Mo_readHeir_62
  refine J_aload_n (k0 := 0) (pc := 62) 0 hX (by decide +kernel) rfl rfl ?_
  refine J_iconst (pc := 63) (n := 0) (v := 0) hX (by decide +kernel) (by decide +kernel) ?_
  refine J_aload_n (k0 := 0) (pc := 64) 0 hX (by decide +kernel) rfl rfl ?_
  refine J_gF (pc := 65) hX (by decide +kernel) fl_Mo_144 hL.1 rfl (fun x1 => ?_)
  refine J_iconst (pc := 68) (n := 1) (v := 1) hX (by decide +kernel) (by decide +kernel) ?_
  refine J_isub (pc := 69) hX (by decide +kernel) ?_
  refine J_cVi (pc := 70) (idx := 263) [.int 0, .int (x1 - 1)] hX (by decide +kernel) (mq mt_7 62 (by decide +kernel)) mv_Mo_readNumber hL.1 rfl rfl (Nat.le_of_ble_eq_true rfl) (Nat.le_of_ble_eq_true rfl) (c_Mo_readNumber hL 0 (x1 - 1) μ) (fun x3 μ2 => ?_)
  refine J_istore_n (k0 := 2) (pc := 73) [(2, .int x3), (0, .ref (G.1 + a)), (1, .int v1)] hX (by decide +kernel) rfl (by decide) rfl ?_
  refine J_iload_n (k0 := 2) (pc := 74) 0 hX (by decide +kernel) rfl rfl ?_
  refine J_iconst (pc := 75) (n := -1) (v := (-1)) hX (by decide +kernel) (by decide +kernel) ?_
  refine J_icmp_ne (pc := 76) (off := 5) (tgt := 81) hX (by decide +kernel) (by decide +kernel) (fun _ => ?_) (fun _ => ?_)
  · refine J_aload_n (k0 := 0) (pc := 81) 1 hX (by decide +kernel) rfl rfl ?_
    refine J_gr (pc := 82) hX (by decide +kernel) fl_Mo_65 hL.1 rfl hL.2.2.2.2.2.2.2.2.2.2.2.2.2.2.2.2.2.2.1.1 ?_
    refine J_bipush (pc := 85) (n := 16) (v := 16) hX (by decide +kernel) (by decide +kernel) ?_
    refine J_iload_n (k0 := 1) (pc := 87) 2 hX (by decide +kernel) rfl rfl ?_
    refine J_iadd (pc := 88) hX (by decide +kernel) ?_
    refine J_iload_n (k0 := 2) (pc := 89) 0 hX (by decide +kernel) rfl rfl ?_
    refine J_iconst (pc := 90) (n := 1) (v := 1) hX (by decide +kernel) (by decide +kernel) ?_
    refine J_iadd (pc := 91) hX (by decide +kernel) ?_
    refine J_stA (pc := 92) hX (by decide +kernel) hL.2.2.2.2.2.2.2.2.2.2.2.2.2.2.2.2.2.2.1.2 (fun μ4 => ?_)
    refine J_aload_n (k0 := 0) (pc := 93) 1 hX (by decide +kernel) rfl rfl ?_
    refine J_bipush (pc := 94) (n := 59) (v := 59) hX (by decide +kernel) (by decide +kernel) ?_
    refine J_cVi (pc := 96) (idx := 270) [.int 59] hX (by decide +kernel) (mq mt_7 66 (by decide +kernel)) mv_Mo_readMark hL.1 rfl rfl (Nat.le_of_ble_eq_true rfl) (Nat.le_of_ble_eq_true rfl) (c_Mo_readMark hL 59 μ4) (fun x6 μ5 => ?_)
    exact J_iret (pc := 99) hX (by decide +kernel) rfl trivial
  · refine J_iconst (pc := 79) (n := -1) (v := (-1)) hX (by decide +kernel) (by decide +kernel) ?_
    exact J_iret (pc := 80) hX (by decide +kernel) rfl trivial
set_option maxRecDepth 100000 in
set_option maxHeartbeats 4000000 in
theorem jMo_readHeir {X : Cx} {l : Launch} {G : Gx} {y : Ly} {a : Nat} (hL : LyMo y a ) (hX : Ok X l G prog_13_method_54_code 3 (some .int) "SaltFiguresModel")  (μ : Mu) : J X G 3 6 y (emy y) rvI tpT 0 [(0, .ref (G.1 + a))] [] (μ, y) (Mo_readHeir a  μ) := by
  unfold Mo_readHeir
  refine J_aload_n (k0 := 0) (pc := 0) 0 hX (by decide +kernel) rfl rfl ?_
  refine J_bipush (pc := 1) (n := 17) (v := 17) hX (by decide +kernel) (by decide +kernel) ?_
  refine J_iconst (pc := 3) (n := 0) (v := 0) hX (by decide +kernel) (by decide +kernel) ?_
  refine J_aload_n (k0 := 0) (pc := 4) 0 hX (by decide +kernel) rfl rfl ?_
  refine J_gF (pc := 5) hX (by decide +kernel) fl_Mo_144 hL.1 rfl (fun x1 => ?_)
  refine J_iconst (pc := 8) (n := 1) (v := 1) hX (by decide +kernel) (by decide +kernel) ?_
  refine J_isub (pc := 9) hX (by decide +kernel) ?_
  refine J_cVi (pc := 10) (idx := 266) [.int 17, .int 0, .int (x1 - 1)] hX (by decide +kernel) (mq mt_7 58 (by decide +kernel)) mv_Mo_readTold hL.1 rfl rfl (Nat.le_of_ble_eq_true rfl) (Nat.le_of_ble_eq_true rfl) (c_Mo_readTold hL 17 0 (x1 - 1) μ) (fun x3 μ2 => ?_)
  refine J_istore_n (k0 := 1) (pc := 13) [(1, .int x3), (0, .ref (G.1 + a))] hX (by decide +kernel) rfl (by decide) rfl ?_
  refine J_iload_n (k0 := 1) (pc := 14) 0 hX (by decide +kernel) rfl rfl ?_
  refine J_iconst (pc := 15) (n := -1) (v := (-1)) hX (by decide +kernel) (by decide +kernel) ?_
  refine J_icmp_ne (pc := 16) (off := 5) (tgt := 21) hX (by decide +kernel) (by decide +kernel) (fun _ => ?_) (fun _ => ?_)
  · refine J_aload_n (k0 := 0) (pc := 21) 1 hX (by decide +kernel) rfl rfl ?_
    refine J_bipush (pc := 22) (n := 23) (v := 23) hX (by decide +kernel) (by decide +kernel) ?_
    refine J_cVi (pc := 24) (idx := 241) [.int 23] hX (by decide +kernel) (mq mt_7 50 (by decide +kernel)) mv_Mo_isWord hL.1 rfl rfl (Nat.le_of_ble_eq_true rfl) (Nat.le_of_ble_eq_true rfl) (c_Mo_isWord hL 23 μ2) (fun x5 μ4 => ?_)
    refine J_if_ne (pc := 27) (off := 9) (tgt := 36) hX (by decide +kernel) (by decide +kernel) (fun _ => ?_) (fun _ => ?_)
    · refine J_aload_n (k0 := 0) (pc := 36) 1 hX (by decide +kernel) rfl rfl ?_
      refine J_cVv (pc := 37) (idx := 219) [] hX (by decide +kernel) (mq mt_7 22 (by decide +kernel)) mv_Mo_reads hL.1 rfl rfl (Nat.le_of_ble_eq_true rfl) (Nat.le_of_ble_eq_true rfl) (c_Mo_reads hL μ4) (fun μ6 => ?_)
      refine J_aload_n (k0 := 0) (pc := 40) 1 hX (by decide +kernel) rfl rfl ?_
      refine J_gF (pc := 41) hX (by decide +kernel) fl_Mo_181 hL.1 rfl (fun x7 => ?_)
      refine J_iconst (pc := 44) (n := 3) (v := 3) hX (by decide +kernel) (by decide +kernel) ?_
      refine J_icmp_ne (pc := 45) (off := 17) (tgt := 62) hX (by decide +kernel) (by decide +kernel) (fun _ => ?_) (fun _ => ?_)
      · exact J_sub [1, 0] _ rfl (jMo_readHeir_62 hL hX x3 μ6)
      · refine J_aload_n (k0 := 0) (pc := 48) 1 hX (by decide +kernel) rfl rfl ?_
        refine J_gF (pc := 49) hX (by decide +kernel) fl_Mo_184 hL.1 rfl (fun x8 => ?_)
        refine J_iload_n (k0 := 1) (pc := 52) 0 hX (by decide +kernel) rfl rfl ?_
        refine J_icmp_ne (pc := 53) (off := 9) (tgt := 62) hX (by decide +kernel) (by decide +kernel) (fun _ => ?_) (fun _ => ?_)
        · exact J_sub [1, 0] _ rfl (jMo_readHeir_62 hL hX x3 μ6)
        · refine J_aload_n (k0 := 0) (pc := 56) 1 hX (by decide +kernel) rfl rfl ?_
          refine J_iconst (pc := 57) (n := 2) (v := 2) hX (by decide +kernel) (by decide +kernel) ?_
          refine J_cVi (pc := 58) (idx := 212) [.int 2] hX (by decide +kernel) (mq mt_7 54 (by decide +kernel)) mv_Mo_errs hL.1 rfl rfl (Nat.le_of_ble_eq_true rfl) (Nat.le_of_ble_eq_true rfl) (c_Mo_errs hL 2 μ6) (fun x10 μ9 => ?_)
          exact J_iret (pc := 61) hX (by decide +kernel) rfl trivial
    · refine J_aload_n (k0 := 0) (pc := 30) 1 hX (by decide +kernel) rfl rfl ?_
      refine J_iconst (pc := 31) (n := 1) (v := 1) hX (by decide +kernel) (by decide +kernel) ?_
      refine J_cVi (pc := 32) (idx := 212) [.int 1] hX (by decide +kernel) (mq mt_7 54 (by decide +kernel)) mv_Mo_errs hL.1 rfl rfl (Nat.le_of_ble_eq_true rfl) (Nat.le_of_ble_eq_true rfl) (c_Mo_errs hL 1 μ4) (fun x12 μ11 => ?_)
      exact J_iret (pc := 35) hX (by decide +kernel) rfl trivial
  · refine J_iconst (pc := 19) (n := -1) (v := (-1)) hX (by decide +kernel) (by decide +kernel) ?_
    exact J_iret (pc := 20) hX (by decide +kernel) rfl trivial
set_option maxRecDepth 100000 in
set_option maxHeartbeats 4000000 in
theorem c_Mo_readHeir {l : Launch} {G : Gx} {y : Ly} {a : Nat} (hL : LyMo y a )  (μ : Mu) : Cn l G ⟨"SaltFiguresModel", "readHeir", "()I"⟩ prog_13_method_54_code 3 (some .int) 6 [.ref (G.1 + a)] (μ, y) (emy y) rvI tpT (Mo_readHeir a  μ) := cn_of (by decide +kernel) (Nat.le_of_ble_eq_true rfl) (fun _ _ _ => ⟨List.prefix_refl _, trivial⟩) (fun X hX _ => jMo_readHeir hL hX  μ)

def Mo_readHeirs_26b (a : Nat)  (kb26 : Int32 → Mu → Option (Int32 × Mu))  (v1 : Int32)  (μ : Mu) : Option (Int32 × Mu) := cl (Mo_isWord a 17 μ) (fun x2 μ1 => (if x2 = 0 then gF μ1 a 12 (fun x3 => (if x3 = 0 then some (v1, μ1) else cl (Mo_errs a 1 μ1) (fun x5 μ4 => some (x5, μ4)))) else (if v1 = 16 then cl (Mo_errs a 3 μ1) (fun x9 μ8 => some (x9, μ8)) else cl (Mo_readHeir a μ1) (fun x7 μ6 => (if x7 = ((-1)) then some ((-1), μ6) else kb26 (v1 + 1) μ6)))))
def Mo_readHeirs_26 (a : Nat)   (fu : Nat) : Int32 → Mu → Option (Int32 × Mu) := lp (fun kb => Mo_readHeirs_26b a  kb ) (fun _ _ => none) fu
def Mo_readHeirs_2b (a : Nat)  (kb2 : Int32 → Mu → Option (Int32 × Mu))  (v1 : Int32)  (μ : Mu) : Option (Int32 × Mu) := (if 16 ≤ v1 then Mo_readHeirs_26 a FU 0 μ else stA μ (a + 18) 32 (16 + v1) 0 (fun μ1 => kb2 (v1 + 1) μ1))
def Mo_readHeirs_2 (a : Nat)   (fu : Nat) : Int32 → Mu → Option (Int32 × Mu) := lp (fun kb => Mo_readHeirs_2b a  kb ) (fun _ _ => none) fu
def Mo_readHeirs (a : Nat)  (μ : Mu) : Option (Int32 × Mu) := Mo_readHeirs_2 a FU 0 μ
set_option maxRecDepth 100000 in
set_option maxHeartbeats 4000000 in
theorem jMo_readHeirs_26b {X : Cx} {l : Launch} {G : Gx} {y : Ly} {a : Nat} (hL : LyMo y a ) (hX : Ok X l G prog_13_method_55_code 2 (some .int) "SaltFiguresModel")   {kb26 : Int32 → Mu → Option (Int32 × Mu)}  (hk26 : ∀ (v1 : Int32) (μ : Mu), J X G 2 7 y (emy y) rvI tpT 26 [(0, .ref (G.1 + a)), (1, .int v1)] [] (μ, y) (kb26 v1 μ)) (v1 : Int32)  (μ : Mu) : J X G 2 7 y (emy y) rvI tpT 26 [(0, .ref (G.1 + a)), (1, .int v1)] [] (μ, y) (Mo_readHeirs_26b a  kb26  v1  μ) := by
  unfold Mo_readHeirs_26b
  refine J_aload_n (k0 := 0) (pc := 26) 0 hX (by decide +kernel) rfl rfl ?_
  refine J_bipush (pc := 27) (n := 17) (v := 17) hX (by decide +kernel) (by decide +kernel) ?_
  refine J_cVi (pc := 29) (idx := 241) [.int 17] hX (by decide +kernel) (mq mt_7 50 (by decide +kernel)) mv_Mo_isWord hL.1 rfl rfl (Nat.le_of_ble_eq_true rfl) (Nat.le_of_ble_eq_true rfl) (c_Mo_isWord hL 17 μ) (fun x2 μ1 => ?_)
  refine J_if_eq (pc := 32) (off := 32) (tgt := 64) hX (by decide +kernel) (by decide +kernel) (fun _ => ?_) (fun _ => ?_)
  · refine J_aload_n (k0 := 0) (pc := 64) 0 hX (by decide +kernel) rfl rfl ?_
    refine J_gF (pc := 65) hX (by decide +kernel) fl_Mo_181 hL.1 rfl (fun x3 => ?_)
    refine J_if_ne (pc := 68) (off := 7) (tgt := 75) hX (by decide +kernel) (by decide +kernel) (fun _ => ?_) (fun _ => ?_)
    · refine J_aload_n (k0 := 0) (pc := 75) 0 hX (by decide +kernel) rfl rfl ?_
      refine J_iconst (pc := 76) (n := 1) (v := 1) hX (by decide +kernel) (by decide +kernel) ?_
      refine J_cVi (pc := 77) (idx := 212) [.int 1] hX (by decide +kernel) (mq mt_7 54 (by decide +kernel)) mv_Mo_errs hL.1 rfl rfl (Nat.le_of_ble_eq_true rfl) (Nat.le_of_ble_eq_true rfl) (c_Mo_errs hL 1 μ1) (fun x5 μ4 => ?_)
      exact J_iret (pc := 80) hX (by decide +kernel) rfl trivial
    · refine J_iload_n (k0 := 1) (pc := 71) 1 hX (by decide +kernel) rfl rfl ?_
      refine J_goto (pc := 72) (off := 8) (tgt := 80) hX (by decide +kernel) (by decide +kernel) ?_
      exact J_iret (pc := 80) hX (by decide +kernel) rfl trivial
  · refine J_iload_n (k0 := 1) (pc := 35) 1 hX (by decide +kernel) rfl rfl ?_
    refine J_bipush (pc := 36) (n := 16) (v := 16) hX (by decide +kernel) (by decide +kernel) ?_
    refine J_icmp_ne (pc := 38) (off := 9) (tgt := 47) hX (by decide +kernel) (by decide +kernel) (fun _ => ?_) (fun _ => ?_)
    · refine J_aload_n (k0 := 0) (pc := 47) 0 hX (by decide +kernel) rfl rfl ?_
      refine J_cVi (pc := 48) (idx := 279) [] hX (by decide +kernel) (mq mt_7 90 (by decide +kernel)) mv_Mo_readHeir hL.1 rfl rfl (Nat.le_of_ble_eq_true rfl) (Nat.le_of_ble_eq_true rfl) (c_Mo_readHeir hL μ1) (fun x7 μ6 => ?_)
      refine J_iconst (pc := 51) (n := -1) (v := (-1)) hX (by decide +kernel) (by decide +kernel) ?_
      refine J_icmp_ne (pc := 52) (off := 5) (tgt := 57) hX (by decide +kernel) (by decide +kernel) (fun _ => ?_) (fun _ => ?_)
      · refine J_iload_n (k0 := 1) (pc := 57) 1 hX (by decide +kernel) rfl rfl ?_
        refine J_iconst (pc := 58) (n := 1) (v := 1) hX (by decide +kernel) (by decide +kernel) ?_
        refine J_iadd (pc := 59) hX (by decide +kernel) ?_
        refine J_istore_n (k0 := 1) (pc := 60) [(1, .int (v1 + 1)), (0, .ref (G.1 + a))] hX (by decide +kernel) rfl (by decide) rfl ?_
        refine J_goto (pc := 61) (off := -35) (tgt := 26) hX (by decide +kernel) (by decide +kernel) ?_
        exact J_sub [1, 0] _ rfl (hk26 (v1 + 1) μ6)
      · refine J_iconst (pc := 55) (n := -1) (v := (-1)) hX (by decide +kernel) (by decide +kernel) ?_
        exact J_iret (pc := 56) hX (by decide +kernel) rfl trivial
    · refine J_aload_n (k0 := 0) (pc := 41) 0 hX (by decide +kernel) rfl rfl ?_
      refine J_iconst (pc := 42) (n := 3) (v := 3) hX (by decide +kernel) (by decide +kernel) ?_
      refine J_cVi (pc := 43) (idx := 212) [.int 3] hX (by decide +kernel) (mq mt_7 54 (by decide +kernel)) mv_Mo_errs hL.1 rfl rfl (Nat.le_of_ble_eq_true rfl) (Nat.le_of_ble_eq_true rfl) (c_Mo_errs hL 3 μ1) (fun x9 μ8 => ?_)
      exact J_iret (pc := 46) hX (by decide +kernel) rfl trivial
set_option maxRecDepth 100000 in
set_option maxHeartbeats 4000000 in
theorem jMo_readHeirs_26 {X : Cx} {l : Launch} {G : Gx} {y : Ly} {a : Nat} (hL : LyMo y a ) (hX : Ok X l G prog_13_method_55_code 2 (some .int) "SaltFiguresModel")    : ∀ (fu : Nat) (v1 : Int32) (μ : Mu), J X G 2 7 y (emy y) rvI tpT 26 [(0, .ref (G.1 + a)), (1, .int v1)] [] (μ, y) (Mo_readHeirs_26 a   fu v1 μ) := by
  intro fu
  induction fu with
  | zero => intros; exact J_none
  | succ fu ih => intro v1 μ; exact jMo_readHeirs_26b hL hX   ih v1 μ
set_option maxRecDepth 100000 in
set_option maxHeartbeats 4000000 in
theorem jMo_readHeirs_2b {X : Cx} {l : Launch} {G : Gx} {y : Ly} {a : Nat} (hL : LyMo y a ) (hX : Ok X l G prog_13_method_55_code 2 (some .int) "SaltFiguresModel")   {kb2 : Int32 → Mu → Option (Int32 × Mu)}  (hk2 : ∀ (v1 : Int32) (μ : Mu), J X G 2 7 y (emy y) rvI tpT 2 [(0, .ref (G.1 + a)), (1, .int v1)] [] (μ, y) (kb2 v1 μ)) (v1 : Int32)  (μ : Mu) : J X G 2 7 y (emy y) rvI tpT 2 [(0, .ref (G.1 + a)), (1, .int v1)] [] (μ, y) (Mo_readHeirs_2b a  kb2  v1  μ) := by
  unfold Mo_readHeirs_2b
  refine J_iload_n (k0 := 1) (pc := 2) 1 hX (by decide +kernel) rfl rfl ?_
  refine J_bipush (pc := 3) (n := 16) (v := 16) hX (by decide +kernel) (by decide +kernel) ?_
  refine J_icmp_ge (pc := 5) (off := 19) (tgt := 24) hX (by decide +kernel) (by decide +kernel) (fun _ => ?_) (fun _ => ?_)
  · refine J_iconst (pc := 24) (n := 0) (v := 0) hX (by decide +kernel) (by decide +kernel) ?_
    refine J_istore_n (k0 := 1) (pc := 25) [(1, .int 0), (0, .ref (G.1 + a))] hX (by decide +kernel) rfl (by decide) rfl ?_
    exact J_sub [1, 0] _ rfl (jMo_readHeirs_26 hL hX FU 0 μ)
  · refine J_aload_n (k0 := 0) (pc := 8) 0 hX (by decide +kernel) rfl rfl ?_
    refine J_gr (pc := 9) hX (by decide +kernel) fl_Mo_65 hL.1 rfl hL.2.2.2.2.2.2.2.2.2.2.2.2.2.2.2.2.2.2.1.1 ?_
    refine J_bipush (pc := 12) (n := 16) (v := 16) hX (by decide +kernel) (by decide +kernel) ?_
    refine J_iload_n (k0 := 1) (pc := 14) 1 hX (by decide +kernel) rfl rfl ?_
    refine J_iadd (pc := 15) hX (by decide +kernel) ?_
    refine J_iconst (pc := 16) (n := 0) (v := 0) hX (by decide +kernel) (by decide +kernel) ?_
    refine J_stA (pc := 17) hX (by decide +kernel) hL.2.2.2.2.2.2.2.2.2.2.2.2.2.2.2.2.2.2.1.2 (fun μ1 => ?_)
    refine J_iinc (pc := 18) (n := 1) 1 [(1, .int (v1 + 1)), (0, .ref (G.1 + a))] hX (by decide +kernel) rfl rfl (by decide) rfl ?_
    refine J_goto (pc := 21) (off := -19) (tgt := 2) hX (by decide +kernel) (by decide +kernel) ?_
    exact J_sub [1, 0] _ rfl (hk2 (v1 + 1) μ1)
set_option maxRecDepth 100000 in
set_option maxHeartbeats 4000000 in
theorem jMo_readHeirs_2 {X : Cx} {l : Launch} {G : Gx} {y : Ly} {a : Nat} (hL : LyMo y a ) (hX : Ok X l G prog_13_method_55_code 2 (some .int) "SaltFiguresModel")    : ∀ (fu : Nat) (v1 : Int32) (μ : Mu), J X G 2 7 y (emy y) rvI tpT 2 [(0, .ref (G.1 + a)), (1, .int v1)] [] (μ, y) (Mo_readHeirs_2 a   fu v1 μ) := by
  intro fu
  induction fu with
  | zero => intros; exact J_none
  | succ fu ih => intro v1 μ; exact jMo_readHeirs_2b hL hX   ih v1 μ
set_option maxRecDepth 100000 in
set_option maxHeartbeats 4000000 in
theorem jMo_readHeirs {X : Cx} {l : Launch} {G : Gx} {y : Ly} {a : Nat} (hL : LyMo y a ) (hX : Ok X l G prog_13_method_55_code 2 (some .int) "SaltFiguresModel")  (μ : Mu) : J X G 2 7 y (emy y) rvI tpT 0 [(0, .ref (G.1 + a))] [] (μ, y) (Mo_readHeirs a  μ) := by
  unfold Mo_readHeirs
  refine J_iconst (pc := 0) (n := 0) (v := 0) hX (by decide +kernel) (by decide +kernel) ?_
  refine J_istore_n (k0 := 1) (pc := 1) [(1, .int 0), (0, .ref (G.1 + a))] hX (by decide +kernel) rfl (by decide) rfl ?_
  exact J_sub [1, 0] _ rfl (jMo_readHeirs_2 hL hX FU 0 μ)
set_option maxRecDepth 100000 in
set_option maxHeartbeats 4000000 in
theorem c_Mo_readHeirs {l : Launch} {G : Gx} {y : Ly} {a : Nat} (hL : LyMo y a )  (μ : Mu) : Cn l G ⟨"SaltFiguresModel", "readHeirs", "()I"⟩ prog_13_method_55_code 2 (some .int) 7 [.ref (G.1 + a)] (μ, y) (emy y) rvI tpT (Mo_readHeirs a  μ) := cn_of (by decide +kernel) (Nat.le_of_ble_eq_true rfl) (fun _ _ _ => ⟨List.prefix_refl _, trivial⟩) (fun X hX _ => jMo_readHeirs hL hX  μ)

def Mo_readLaw_92 (a : Nat) (kb2 : Int32 → Mu → Option (Int32 × Mu))  (v1 : Int32) (v2 : Int32)  (μ : Mu) : Option (Int32 × Mu) := gF μ a 23 (fun x1 => stA μ (a + 11) 48 v2 x1 (fun μ2 => cl (Mo_isSign a 59 μ2) (fun x4 μ3 => (if x4 = 0 then cl (Mo_errs a 1 μ3) (fun x7 μ6 => some (x7, μ6)) else cl (Mo_reads a μ3) (fun _ μ5 => kb2 (v1 + 1) μ5)))))
def Mo_readLaw_2b (a : Nat)  (kb2 : Int32 → Mu → Option (Int32 × Mu))  (v1 : Int32)  (μ : Mu) : Option (Int32 × Mu) := cl (Mo_isLineWord a μ) (fun x2 μ1 => (if x2 = 0 then gF μ1 a 12 (fun x3 => (if x3 = 0 then some (v1, μ1) else cl (Mo_errs a 1 μ1) (fun x5 μ4 => some (x5, μ4)))) else (if v1 = 16 then cl (Mo_errs a 3 μ1) (fun x21 μ20 => some (x21, μ20)) else gF μ1 a 13 (fun x6 => stA μ1 (a + 8) 48 (32 + v1) x6 (fun μ7 => cl (Mo_reads a μ7) (fun _ μ8 => gF μ8 a 23 (fun x9 => stA μ8 (a + 9) 48 (32 + v1) x9 (fun μ10 => cl (Mo_readSum a μ10) (fun x12 μ11 => (if x12 = ((-1)) then some ((-1), μ11) else gF μ11 a 23 (fun x13 => stA μ11 (a + 10) 48 (32 + v1) x13 (fun μ14 => cl (Mo_isWord a 3 μ14) (fun x16 μ15 => (if x16 = 0 then Mo_readLaw_92 a kb2 v1 (32 + v1) μ15 else cl (Mo_reads a μ15) (fun _ μ17 => cl (Mo_readAny a μ17) (fun x19 μ18 => (if x19 = ((-1)) then some ((-1), μ18) else Mo_readLaw_92 a kb2 v1 (32 + v1) μ18)))))))))))))))))
def Mo_readLaw_2 (a : Nat)   (fu : Nat) : Int32 → Mu → Option (Int32 × Mu) := lp (fun kb => Mo_readLaw_2b a  kb ) (fun _ _ => none) fu
def Mo_readLaw (a : Nat)  (μ : Mu) : Option (Int32 × Mu) := Mo_readLaw_2 a FU 0 μ
set_option maxRecDepth 100000 in
set_option maxHeartbeats 4000000 in
theorem jMo_readLaw_92 {X : Cx} {l : Launch} {G : Gx} {y : Ly} {a : Nat} (hL : LyMo y a ) (hX : Ok X l G prog_13_method_45_code 3 (some .int) "SaltFiguresModel")  (v1 : Int32) (v2 : Int32)  {kb2 : Int32 → Mu → Option (Int32 × Mu)} (hk2 : ∀ (v1 : Int32) (μ : Mu), J X G 3 9 y (emy y) rvI tpT 2 [(0, .ref (G.1 + a)), (1, .int v1)] [] (μ, y) (kb2 v1 μ)) (μ : Mu) : J X G 3 9 y (emy y) rvI tpT 92 [(0, .ref (G.1 + a)), (1, .int v1), (2, .int v2)] [] (μ, y) (Mo_readLaw_92 a kb2  v1 v2  μ) := by
  unfold Mo_readLaw_92
  refine J_aload_n (k0 := 0) (pc := 92) 0 hX (by decide +kernel) rfl rfl ?_
  refine J_gr (pc := 93) hX (by decide +kernel) fl_Mo_40 hL.1 rfl hL.2.2.2.2.2.2.2.2.2.2.2.1.1 ?_
  refine J_iload_n (k0 := 2) (pc := 96) 2 hX (by decide +kernel) rfl rfl ?_
  refine J_aload_n (k0 := 0) (pc := 97) 0 hX (by decide +kernel) rfl rfl ?_
  refine J_gF (pc := 98) hX (by decide +kernel) fl_Mo_206 hL.1 rfl (fun x1 => ?_)
  refine J_stA (pc := 101) hX (by decide +kernel) hL.2.2.2.2.2.2.2.2.2.2.2.1.2 (fun μ2 => ?_)
  refine J_aload_n (k0 := 0) (pc := 102) 0 hX (by decide +kernel) rfl rfl ?_
  refine J_bipush (pc := 103) (n := 59) (v := 59) hX (by decide +kernel) (by decide +kernel) ?_
  refine J_cVi (pc := 105) (idx := 226) [.int 59] hX (by decide +kernel) (mq mt_7 70 (by decide +kernel)) mv_Mo_isSign hL.1 rfl rfl (Nat.le_of_ble_eq_true rfl) (Nat.le_of_ble_eq_true rfl) (c_Mo_isSign hL 59 μ2) (fun x4 μ3 => ?_)
  refine J_if_ne (pc := 108) (off := 9) (tgt := 117) hX (by decide +kernel) (by decide +kernel) (fun _ => ?_) (fun _ => ?_)
  · refine J_aload_n (k0 := 0) (pc := 117) 0 hX (by decide +kernel) rfl rfl ?_
    refine J_cVv (pc := 118) (idx := 219) [] hX (by decide +kernel) (mq mt_7 22 (by decide +kernel)) mv_Mo_reads hL.1 rfl rfl (Nat.le_of_ble_eq_true rfl) (Nat.le_of_ble_eq_true rfl) (c_Mo_reads hL μ3) (fun μ5 => ?_)
    refine J_iload_n (k0 := 1) (pc := 121) 1 hX (by decide +kernel) rfl rfl ?_
    refine J_iconst (pc := 122) (n := 1) (v := 1) hX (by decide +kernel) (by decide +kernel) ?_
    refine J_iadd (pc := 123) hX (by decide +kernel) ?_
    refine J_istore_n (k0 := 1) (pc := 124) [(1, .int (v1 + 1)), (0, .ref (G.1 + a)), (2, .int v2)] hX (by decide +kernel) rfl (by decide) rfl ?_
    refine J_goto (pc := 125) (off := -123) (tgt := 2) hX (by decide +kernel) (by decide +kernel) ?_
    exact J_sub [1, 0] _ rfl (hk2 (v1 + 1) μ5)
  · refine J_aload_n (k0 := 0) (pc := 111) 0 hX (by decide +kernel) rfl rfl ?_
    refine J_iconst (pc := 112) (n := 1) (v := 1) hX (by decide +kernel) (by decide +kernel) ?_
    refine J_cVi (pc := 113) (idx := 212) [.int 1] hX (by decide +kernel) (mq mt_7 54 (by decide +kernel)) mv_Mo_errs hL.1 rfl rfl (Nat.le_of_ble_eq_true rfl) (Nat.le_of_ble_eq_true rfl) (c_Mo_errs hL 1 μ3) (fun x7 μ6 => ?_)
    exact J_iret (pc := 116) hX (by decide +kernel) rfl trivial
set_option maxRecDepth 100000 in
set_option maxHeartbeats 4000000 in
theorem jMo_readLaw_2b {X : Cx} {l : Launch} {G : Gx} {y : Ly} {a : Nat} (hL : LyMo y a ) (hX : Ok X l G prog_13_method_45_code 3 (some .int) "SaltFiguresModel")   {kb2 : Int32 → Mu → Option (Int32 × Mu)}  (hk2 : ∀ (v1 : Int32) (μ : Mu), J X G 3 9 y (emy y) rvI tpT 2 [(0, .ref (G.1 + a)), (1, .int v1)] [] (μ, y) (kb2 v1 μ)) (v1 : Int32)  (μ : Mu) : J X G 3 9 y (emy y) rvI tpT 2 [(0, .ref (G.1 + a)), (1, .int v1)] [] (μ, y) (Mo_readLaw_2b a  kb2  v1  μ) := by
  unfold Mo_readLaw_2b
  refine J_aload_n (k0 := 0) (pc := 2) 0 hX (by decide +kernel) rfl rfl ?_
  refine J_cVi (pc := 3) (idx := 253) [] hX (by decide +kernel) (mq mt_7 98 (by decide +kernel)) mv_Mo_isLineWord hL.1 rfl rfl (Nat.le_of_ble_eq_true rfl) (Nat.le_of_ble_eq_true rfl) (c_Mo_isLineWord hL μ) (fun x2 μ1 => ?_)
  refine J_if_eq (pc := 6) (off := 122) (tgt := 128) hX (by decide +kernel) (by decide +kernel) (fun _ => ?_) (fun _ => ?_)
  · refine J_aload_n (k0 := 0) (pc := 128) 0 hX (by decide +kernel) rfl rfl ?_
    refine J_gF (pc := 129) hX (by decide +kernel) fl_Mo_181 hL.1 rfl (fun x3 => ?_)
    refine J_if_ne (pc := 132) (off := 7) (tgt := 139) hX (by decide +kernel) (by decide +kernel) (fun _ => ?_) (fun _ => ?_)
    · refine J_aload_n (k0 := 0) (pc := 139) 0 hX (by decide +kernel) rfl rfl ?_
      refine J_iconst (pc := 140) (n := 1) (v := 1) hX (by decide +kernel) (by decide +kernel) ?_
      refine J_cVi (pc := 141) (idx := 212) [.int 1] hX (by decide +kernel) (mq mt_7 54 (by decide +kernel)) mv_Mo_errs hL.1 rfl rfl (Nat.le_of_ble_eq_true rfl) (Nat.le_of_ble_eq_true rfl) (c_Mo_errs hL 1 μ1) (fun x5 μ4 => ?_)
      exact J_iret (pc := 144) hX (by decide +kernel) rfl trivial
    · refine J_iload_n (k0 := 1) (pc := 135) 1 hX (by decide +kernel) rfl rfl ?_
      refine J_goto (pc := 136) (off := 8) (tgt := 144) hX (by decide +kernel) (by decide +kernel) ?_
      exact J_iret (pc := 144) hX (by decide +kernel) rfl trivial
  · refine J_iload_n (k0 := 1) (pc := 9) 1 hX (by decide +kernel) rfl rfl ?_
    refine J_bipush (pc := 10) (n := 16) (v := 16) hX (by decide +kernel) (by decide +kernel) ?_
    refine J_icmp_ne (pc := 12) (off := 9) (tgt := 21) hX (by decide +kernel) (by decide +kernel) (fun _ => ?_) (fun _ => ?_)
    · refine J_bipush (pc := 21) (n := 32) (v := 32) hX (by decide +kernel) (by decide +kernel) ?_
      refine J_iload_n (k0 := 1) (pc := 23) 1 hX (by decide +kernel) rfl rfl ?_
      refine J_iadd (pc := 24) hX (by decide +kernel) ?_
      refine J_istore_n (k0 := 2) (pc := 25) [(2, .int (32 + v1)), (0, .ref (G.1 + a)), (1, .int v1)] hX (by decide +kernel) rfl (by decide) rfl ?_
      refine J_aload_n (k0 := 0) (pc := 26) 1 hX (by decide +kernel) rfl rfl ?_
      refine J_gr (pc := 27) hX (by decide +kernel) fl_Mo_31 hL.1 rfl hL.2.2.2.2.2.2.2.2.1.1 ?_
      refine J_iload_n (k0 := 2) (pc := 30) 0 hX (by decide +kernel) rfl rfl ?_
      refine J_aload_n (k0 := 0) (pc := 31) 1 hX (by decide +kernel) rfl rfl ?_
      refine J_gF (pc := 32) hX (by decide +kernel) fl_Mo_184 hL.1 rfl (fun x6 => ?_)
      refine J_stA (pc := 35) hX (by decide +kernel) hL.2.2.2.2.2.2.2.2.1.2 (fun μ7 => ?_)
      refine J_aload_n (k0 := 0) (pc := 36) 1 hX (by decide +kernel) rfl rfl ?_
      refine J_cVv (pc := 37) (idx := 219) [] hX (by decide +kernel) (mq mt_7 22 (by decide +kernel)) mv_Mo_reads hL.1 rfl rfl (Nat.le_of_ble_eq_true rfl) (Nat.le_of_ble_eq_true rfl) (c_Mo_reads hL μ7) (fun μ8 => ?_)
      refine J_aload_n (k0 := 0) (pc := 40) 1 hX (by decide +kernel) rfl rfl ?_
      refine J_gr (pc := 41) hX (by decide +kernel) fl_Mo_34 hL.1 rfl hL.2.2.2.2.2.2.2.2.2.1.1 ?_
      refine J_iload_n (k0 := 2) (pc := 44) 0 hX (by decide +kernel) rfl rfl ?_
      refine J_aload_n (k0 := 0) (pc := 45) 1 hX (by decide +kernel) rfl rfl ?_
      refine J_gF (pc := 46) hX (by decide +kernel) fl_Mo_206 hL.1 rfl (fun x9 => ?_)
      refine J_stA (pc := 49) hX (by decide +kernel) hL.2.2.2.2.2.2.2.2.2.1.2 (fun μ10 => ?_)
      refine J_aload_n (k0 := 0) (pc := 50) 1 hX (by decide +kernel) rfl rfl ?_
      refine J_cVi (pc := 51) (idx := 232) [] hX (by decide +kernel) (mq mt_7 102 (by decide +kernel)) mv_Mo_readSum hL.1 rfl rfl (Nat.le_of_ble_eq_true rfl) (Nat.le_of_ble_eq_true rfl) (c_Mo_readSum hL μ10) (fun x12 μ11 => ?_)
      refine J_iconst (pc := 54) (n := -1) (v := (-1)) hX (by decide +kernel) (by decide +kernel) ?_
      refine J_icmp_ne (pc := 55) (off := 5) (tgt := 60) hX (by decide +kernel) (by decide +kernel) (fun _ => ?_) (fun _ => ?_)
      · refine J_aload_n (k0 := 0) (pc := 60) 1 hX (by decide +kernel) rfl rfl ?_
        refine J_gr (pc := 61) hX (by decide +kernel) fl_Mo_37 hL.1 rfl hL.2.2.2.2.2.2.2.2.2.2.1.1 ?_
        refine J_iload_n (k0 := 2) (pc := 64) 0 hX (by decide +kernel) rfl rfl ?_
        refine J_aload_n (k0 := 0) (pc := 65) 1 hX (by decide +kernel) rfl rfl ?_
        refine J_gF (pc := 66) hX (by decide +kernel) fl_Mo_206 hL.1 rfl (fun x13 => ?_)
        refine J_stA (pc := 69) hX (by decide +kernel) hL.2.2.2.2.2.2.2.2.2.2.1.2 (fun μ14 => ?_)
        refine J_aload_n (k0 := 0) (pc := 70) 1 hX (by decide +kernel) rfl rfl ?_
        refine J_iconst (pc := 71) (n := 3) (v := 3) hX (by decide +kernel) (by decide +kernel) ?_
        refine J_cVi (pc := 72) (idx := 241) [.int 3] hX (by decide +kernel) (mq mt_7 50 (by decide +kernel)) mv_Mo_isWord hL.1 rfl rfl (Nat.le_of_ble_eq_true rfl) (Nat.le_of_ble_eq_true rfl) (c_Mo_isWord hL 3 μ14) (fun x16 μ15 => ?_)
        refine J_if_eq (pc := 75) (off := 17) (tgt := 92) hX (by decide +kernel) (by decide +kernel) (fun _ => ?_) (fun _ => ?_)
        · exact J_sub [1, 2, 0] _ rfl (jMo_readLaw_92 hL hX v1 (32 + v1) hk2 μ15)
        · refine J_aload_n (k0 := 0) (pc := 78) 1 hX (by decide +kernel) rfl rfl ?_
          refine J_cVv (pc := 79) (idx := 219) [] hX (by decide +kernel) (mq mt_7 22 (by decide +kernel)) mv_Mo_reads hL.1 rfl rfl (Nat.le_of_ble_eq_true rfl) (Nat.le_of_ble_eq_true rfl) (c_Mo_reads hL μ15) (fun μ17 => ?_)
          refine J_aload_n (k0 := 0) (pc := 82) 1 hX (by decide +kernel) rfl rfl ?_
          refine J_cVi (pc := 83) (idx := 257) [] hX (by decide +kernel) (mq mt_7 122 (by decide +kernel)) mv_Mo_readAny hL.1 rfl rfl (Nat.le_of_ble_eq_true rfl) (Nat.le_of_ble_eq_true rfl) (c_Mo_readAny hL μ17) (fun x19 μ18 => ?_)
          refine J_iconst (pc := 86) (n := -1) (v := (-1)) hX (by decide +kernel) (by decide +kernel) ?_
          refine J_icmp_ne (pc := 87) (off := 5) (tgt := 92) hX (by decide +kernel) (by decide +kernel) (fun _ => ?_) (fun _ => ?_)
          · exact J_sub [1, 2, 0] _ rfl (jMo_readLaw_92 hL hX v1 (32 + v1) hk2 μ18)
          · refine J_iconst (pc := 90) (n := -1) (v := (-1)) hX (by decide +kernel) (by decide +kernel) ?_
            exact J_iret (pc := 91) hX (by decide +kernel) rfl trivial
      · refine J_iconst (pc := 58) (n := -1) (v := (-1)) hX (by decide +kernel) (by decide +kernel) ?_
        exact J_iret (pc := 59) hX (by decide +kernel) rfl trivial
    · refine J_aload_n (k0 := 0) (pc := 15) 0 hX (by decide +kernel) rfl rfl ?_
      refine J_iconst (pc := 16) (n := 3) (v := 3) hX (by decide +kernel) (by decide +kernel) ?_
      refine J_cVi (pc := 17) (idx := 212) [.int 3] hX (by decide +kernel) (mq mt_7 54 (by decide +kernel)) mv_Mo_errs hL.1 rfl rfl (Nat.le_of_ble_eq_true rfl) (Nat.le_of_ble_eq_true rfl) (c_Mo_errs hL 3 μ1) (fun x21 μ20 => ?_)
      exact J_iret (pc := 20) hX (by decide +kernel) rfl trivial
set_option maxRecDepth 100000 in
set_option maxHeartbeats 4000000 in
theorem jMo_readLaw_2 {X : Cx} {l : Launch} {G : Gx} {y : Ly} {a : Nat} (hL : LyMo y a ) (hX : Ok X l G prog_13_method_45_code 3 (some .int) "SaltFiguresModel")    : ∀ (fu : Nat) (v1 : Int32) (μ : Mu), J X G 3 9 y (emy y) rvI tpT 2 [(0, .ref (G.1 + a)), (1, .int v1)] [] (μ, y) (Mo_readLaw_2 a   fu v1 μ) := by
  intro fu
  induction fu with
  | zero => intros; exact J_none
  | succ fu ih => intro v1 μ; exact jMo_readLaw_2b hL hX   ih v1 μ
set_option maxRecDepth 100000 in
set_option maxHeartbeats 4000000 in
theorem jMo_readLaw {X : Cx} {l : Launch} {G : Gx} {y : Ly} {a : Nat} (hL : LyMo y a ) (hX : Ok X l G prog_13_method_45_code 3 (some .int) "SaltFiguresModel")  (μ : Mu) : J X G 3 9 y (emy y) rvI tpT 0 [(0, .ref (G.1 + a))] [] (μ, y) (Mo_readLaw a  μ) := by
  unfold Mo_readLaw
  refine J_iconst (pc := 0) (n := 0) (v := 0) hX (by decide +kernel) (by decide +kernel) ?_
  refine J_istore_n (k0 := 1) (pc := 1) [(1, .int 0), (0, .ref (G.1 + a))] hX (by decide +kernel) rfl (by decide) rfl ?_
  exact J_sub [1, 0] _ rfl (jMo_readLaw_2 hL hX FU 0 μ)
set_option maxRecDepth 100000 in
set_option maxHeartbeats 4000000 in
theorem c_Mo_readLaw {l : Launch} {G : Gx} {y : Ly} {a : Nat} (hL : LyMo y a )  (μ : Mu) : Cn l G ⟨"SaltFiguresModel", "readLaw", "()I"⟩ prog_13_method_45_code 3 (some .int) 9 [.ref (G.1 + a)] (μ, y) (emy y) rvI tpT (Mo_readLaw a  μ) := cn_of (by decide +kernel) (Nat.le_of_ble_eq_true rfl) (fun _ _ _ => ⟨List.prefix_refl _, trivial⟩) (fun X hX _ => jMo_readLaw hL hX  μ)

def Mo_readTable_2b (a : Nat)  (kb2 : Int32 → Mu → Option (Int32 × Mu))  (v1 : Int32)  (μ : Mu) : Option (Int32 × Mu) := cl (Mo_isWord a 10 μ) (fun x2 μ1 => (if x2 = 0 then gF μ1 a 12 (fun x3 => (if x3 = 0 then some (v1, μ1) else cl (Mo_errs a 1 μ1) (fun x5 μ4 => some (x5, μ4)))) else (if v1 = 16 then cl (Mo_errs a 3 μ1) (fun x18 μ17 => some (x18, μ17)) else cl (Mo_readTold a 10 0 15 μ1) (fun x7 μ6 => stA μ6 (a + 15) 16 v1 x7 (fun μ8 => ldA μ8 (a + 15) 16 v1 (fun x9 => (if x9 = ((-1)) then some ((-1), μ8) else gF μ8 a 6 (fun x10 => cl (Mo_readTold a 17 0 (x10 - 1) μ8) (fun x12 μ11 => stA μ11 (a + 16) 16 v1 x12 (fun μ13 => ldA μ13 (a + 16) 16 v1 (fun x14 => (if x14 = ((-1)) then some ((-1), μ13) else cl (Mo_readMark a 59 μ13) (fun x16 μ15 => (if x16 = ((-1)) then some ((-1), μ15) else kb2 (v1 + 1) μ15))))))))))))))
def Mo_readTable_2 (a : Nat)   (fu : Nat) : Int32 → Mu → Option (Int32 × Mu) := lp (fun kb => Mo_readTable_2b a  kb ) (fun _ _ => none) fu
def Mo_readTable (a : Nat)  (μ : Mu) : Option (Int32 × Mu) := Mo_readTable_2 a FU 0 μ
set_option maxRecDepth 100000 in
set_option maxHeartbeats 4000000 in
theorem jMo_readTable_2b {X : Cx} {l : Launch} {G : Gx} {y : Ly} {a : Nat} (hL : LyMo y a ) (hX : Ok X l G prog_13_method_50_code 2 (some .int) "SaltFiguresModel")   {kb2 : Int32 → Mu → Option (Int32 × Mu)}  (hk2 : ∀ (v1 : Int32) (μ : Mu), J X G 2 6 y (emy y) rvI tpT 2 [(0, .ref (G.1 + a)), (1, .int v1)] [] (μ, y) (kb2 v1 μ)) (v1 : Int32)  (μ : Mu) : J X G 2 6 y (emy y) rvI tpT 2 [(0, .ref (G.1 + a)), (1, .int v1)] [] (μ, y) (Mo_readTable_2b a  kb2  v1  μ) := by
  unfold Mo_readTable_2b
  refine J_aload_n (k0 := 0) (pc := 2) 0 hX (by decide +kernel) rfl rfl ?_
  refine J_bipush (pc := 3) (n := 10) (v := 10) hX (by decide +kernel) (by decide +kernel) ?_
  refine J_cVi (pc := 5) (idx := 241) [.int 10] hX (by decide +kernel) (mq mt_7 50 (by decide +kernel)) mv_Mo_isWord hL.1 rfl rfl (Nat.le_of_ble_eq_true rfl) (Nat.le_of_ble_eq_true rfl) (c_Mo_isWord hL 10 μ) (fun x2 μ1 => ?_)
  refine J_if_eq (pc := 8) (off := 90) (tgt := 98) hX (by decide +kernel) (by decide +kernel) (fun _ => ?_) (fun _ => ?_)
  · refine J_aload_n (k0 := 0) (pc := 98) 0 hX (by decide +kernel) rfl rfl ?_
    refine J_gF (pc := 99) hX (by decide +kernel) fl_Mo_181 hL.1 rfl (fun x3 => ?_)
    refine J_if_ne (pc := 102) (off := 7) (tgt := 109) hX (by decide +kernel) (by decide +kernel) (fun _ => ?_) (fun _ => ?_)
    · refine J_aload_n (k0 := 0) (pc := 109) 0 hX (by decide +kernel) rfl rfl ?_
      refine J_iconst (pc := 110) (n := 1) (v := 1) hX (by decide +kernel) (by decide +kernel) ?_
      refine J_cVi (pc := 111) (idx := 212) [.int 1] hX (by decide +kernel) (mq mt_7 54 (by decide +kernel)) mv_Mo_errs hL.1 rfl rfl (Nat.le_of_ble_eq_true rfl) (Nat.le_of_ble_eq_true rfl) (c_Mo_errs hL 1 μ1) (fun x5 μ4 => ?_)
      exact J_iret (pc := 114) hX (by decide +kernel) rfl trivial
    · refine J_iload_n (k0 := 1) (pc := 105) 1 hX (by decide +kernel) rfl rfl ?_
      refine J_goto (pc := 106) (off := 8) (tgt := 114) hX (by decide +kernel) (by decide +kernel) ?_
      exact J_iret (pc := 114) hX (by decide +kernel) rfl trivial
  · refine J_iload_n (k0 := 1) (pc := 11) 1 hX (by decide +kernel) rfl rfl ?_
    refine J_bipush (pc := 12) (n := 16) (v := 16) hX (by decide +kernel) (by decide +kernel) ?_
    refine J_icmp_ne (pc := 14) (off := 9) (tgt := 23) hX (by decide +kernel) (by decide +kernel) (fun _ => ?_) (fun _ => ?_)
    · refine J_aload_n (k0 := 0) (pc := 23) 0 hX (by decide +kernel) rfl rfl ?_
      refine J_gr (pc := 24) hX (by decide +kernel) fl_Mo_56 hL.1 rfl hL.2.2.2.2.2.2.2.2.2.2.2.2.2.2.2.1.1 ?_
      refine J_iload_n (k0 := 1) (pc := 27) 1 hX (by decide +kernel) rfl rfl ?_
      refine J_aload_n (k0 := 0) (pc := 28) 0 hX (by decide +kernel) rfl rfl ?_
      refine J_bipush (pc := 29) (n := 10) (v := 10) hX (by decide +kernel) (by decide +kernel) ?_
      refine J_iconst (pc := 31) (n := 0) (v := 0) hX (by decide +kernel) (by decide +kernel) ?_
      refine J_bipush (pc := 32) (n := 15) (v := 15) hX (by decide +kernel) (by decide +kernel) ?_
      refine J_cVi (pc := 34) (idx := 266) [.int 10, .int 0, .int 15] hX (by decide +kernel) (mq mt_7 58 (by decide +kernel)) mv_Mo_readTold hL.1 rfl rfl (Nat.le_of_ble_eq_true rfl) (Nat.le_of_ble_eq_true rfl) (c_Mo_readTold hL 10 0 15 μ1) (fun x7 μ6 => ?_)
      refine J_stA (pc := 37) hX (by decide +kernel) hL.2.2.2.2.2.2.2.2.2.2.2.2.2.2.2.1.2 (fun μ8 => ?_)
      refine J_aload_n (k0 := 0) (pc := 38) 0 hX (by decide +kernel) rfl rfl ?_
      refine J_gr (pc := 39) hX (by decide +kernel) fl_Mo_56 hL.1 rfl hL.2.2.2.2.2.2.2.2.2.2.2.2.2.2.2.1.1 ?_
      refine J_iload_n (k0 := 1) (pc := 42) 1 hX (by decide +kernel) rfl rfl ?_
      refine J_ldA (pc := 43) hX (by decide +kernel) hL.2.2.2.2.2.2.2.2.2.2.2.2.2.2.2.1.2 (fun x9 => ?_)
      refine J_iconst (pc := 44) (n := -1) (v := (-1)) hX (by decide +kernel) (by decide +kernel) ?_
      refine J_icmp_ne (pc := 45) (off := 5) (tgt := 50) hX (by decide +kernel) (by decide +kernel) (fun _ => ?_) (fun _ => ?_)
      · refine J_aload_n (k0 := 0) (pc := 50) 0 hX (by decide +kernel) rfl rfl ?_
        refine J_gr (pc := 51) hX (by decide +kernel) fl_Mo_59 hL.1 rfl hL.2.2.2.2.2.2.2.2.2.2.2.2.2.2.2.2.1.1 ?_
        refine J_iload_n (k0 := 1) (pc := 54) 1 hX (by decide +kernel) rfl rfl ?_
        refine J_aload_n (k0 := 0) (pc := 55) 0 hX (by decide +kernel) rfl rfl ?_
        refine J_bipush (pc := 56) (n := 17) (v := 17) hX (by decide +kernel) (by decide +kernel) ?_
        refine J_iconst (pc := 58) (n := 0) (v := 0) hX (by decide +kernel) (by decide +kernel) ?_
        refine J_aload_n (k0 := 0) (pc := 59) 0 hX (by decide +kernel) rfl rfl ?_
        refine J_gF (pc := 60) hX (by decide +kernel) fl_Mo_144 hL.1 rfl (fun x10 => ?_)
        refine J_iconst (pc := 63) (n := 1) (v := 1) hX (by decide +kernel) (by decide +kernel) ?_
        refine J_isub (pc := 64) hX (by decide +kernel) ?_
        refine J_cVi (pc := 65) (idx := 266) [.int 17, .int 0, .int (x10 - 1)] hX (by decide +kernel) (mq mt_7 58 (by decide +kernel)) mv_Mo_readTold hL.1 rfl rfl (Nat.le_of_ble_eq_true rfl) (Nat.le_of_ble_eq_true rfl) (c_Mo_readTold hL 17 0 (x10 - 1) μ8) (fun x12 μ11 => ?_)
        refine J_stA (pc := 68) hX (by decide +kernel) hL.2.2.2.2.2.2.2.2.2.2.2.2.2.2.2.2.1.2 (fun μ13 => ?_)
        refine J_aload_n (k0 := 0) (pc := 69) 0 hX (by decide +kernel) rfl rfl ?_
        refine J_gr (pc := 70) hX (by decide +kernel) fl_Mo_59 hL.1 rfl hL.2.2.2.2.2.2.2.2.2.2.2.2.2.2.2.2.1.1 ?_
        refine J_iload_n (k0 := 1) (pc := 73) 1 hX (by decide +kernel) rfl rfl ?_
        refine J_ldA (pc := 74) hX (by decide +kernel) hL.2.2.2.2.2.2.2.2.2.2.2.2.2.2.2.2.1.2 (fun x14 => ?_)
        refine J_iconst (pc := 75) (n := -1) (v := (-1)) hX (by decide +kernel) (by decide +kernel) ?_
        refine J_icmp_eq (pc := 76) (off := 13) (tgt := 89) hX (by decide +kernel) (by decide +kernel) (fun _ => ?_) (fun _ => ?_)
        · refine J_iconst (pc := 89) (n := -1) (v := (-1)) hX (by decide +kernel) (by decide +kernel) ?_
          exact J_iret (pc := 90) hX (by decide +kernel) rfl trivial
        · refine J_aload_n (k0 := 0) (pc := 79) 0 hX (by decide +kernel) rfl rfl ?_
          refine J_bipush (pc := 80) (n := 59) (v := 59) hX (by decide +kernel) (by decide +kernel) ?_
          refine J_cVi (pc := 82) (idx := 270) [.int 59] hX (by decide +kernel) (mq mt_7 66 (by decide +kernel)) mv_Mo_readMark hL.1 rfl rfl (Nat.le_of_ble_eq_true rfl) (Nat.le_of_ble_eq_true rfl) (c_Mo_readMark hL 59 μ13) (fun x16 μ15 => ?_)
          refine J_iconst (pc := 85) (n := -1) (v := (-1)) hX (by decide +kernel) (by decide +kernel) ?_
          refine J_icmp_ne (pc := 86) (off := 5) (tgt := 91) hX (by decide +kernel) (by decide +kernel) (fun _ => ?_) (fun _ => ?_)
          · refine J_iload_n (k0 := 1) (pc := 91) 1 hX (by decide +kernel) rfl rfl ?_
            refine J_iconst (pc := 92) (n := 1) (v := 1) hX (by decide +kernel) (by decide +kernel) ?_
            refine J_iadd (pc := 93) hX (by decide +kernel) ?_
            refine J_istore_n (k0 := 1) (pc := 94) [(1, .int (v1 + 1)), (0, .ref (G.1 + a))] hX (by decide +kernel) rfl (by decide) rfl ?_
            refine J_goto (pc := 95) (off := -93) (tgt := 2) hX (by decide +kernel) (by decide +kernel) ?_
            exact J_sub [1, 0] _ rfl (hk2 (v1 + 1) μ15)
          · refine J_iconst (pc := 89) (n := -1) (v := (-1)) hX (by decide +kernel) (by decide +kernel) ?_
            exact J_iret (pc := 90) hX (by decide +kernel) rfl trivial
      · refine J_iconst (pc := 48) (n := -1) (v := (-1)) hX (by decide +kernel) (by decide +kernel) ?_
        exact J_iret (pc := 49) hX (by decide +kernel) rfl trivial
    · refine J_aload_n (k0 := 0) (pc := 17) 0 hX (by decide +kernel) rfl rfl ?_
      refine J_iconst (pc := 18) (n := 3) (v := 3) hX (by decide +kernel) (by decide +kernel) ?_
      refine J_cVi (pc := 19) (idx := 212) [.int 3] hX (by decide +kernel) (mq mt_7 54 (by decide +kernel)) mv_Mo_errs hL.1 rfl rfl (Nat.le_of_ble_eq_true rfl) (Nat.le_of_ble_eq_true rfl) (c_Mo_errs hL 3 μ1) (fun x18 μ17 => ?_)
      exact J_iret (pc := 22) hX (by decide +kernel) rfl trivial
set_option maxRecDepth 100000 in
set_option maxHeartbeats 4000000 in
theorem jMo_readTable_2 {X : Cx} {l : Launch} {G : Gx} {y : Ly} {a : Nat} (hL : LyMo y a ) (hX : Ok X l G prog_13_method_50_code 2 (some .int) "SaltFiguresModel")    : ∀ (fu : Nat) (v1 : Int32) (μ : Mu), J X G 2 6 y (emy y) rvI tpT 2 [(0, .ref (G.1 + a)), (1, .int v1)] [] (μ, y) (Mo_readTable_2 a   fu v1 μ) := by
  intro fu
  induction fu with
  | zero => intros; exact J_none
  | succ fu ih => intro v1 μ; exact jMo_readTable_2b hL hX   ih v1 μ
set_option maxRecDepth 100000 in
set_option maxHeartbeats 4000000 in
theorem jMo_readTable {X : Cx} {l : Launch} {G : Gx} {y : Ly} {a : Nat} (hL : LyMo y a ) (hX : Ok X l G prog_13_method_50_code 2 (some .int) "SaltFiguresModel")  (μ : Mu) : J X G 2 6 y (emy y) rvI tpT 0 [(0, .ref (G.1 + a))] [] (μ, y) (Mo_readTable a  μ) := by
  unfold Mo_readTable
  refine J_iconst (pc := 0) (n := 0) (v := 0) hX (by decide +kernel) (by decide +kernel) ?_
  refine J_istore_n (k0 := 1) (pc := 1) [(1, .int 0), (0, .ref (G.1 + a))] hX (by decide +kernel) rfl (by decide) rfl ?_
  exact J_sub [1, 0] _ rfl (jMo_readTable_2 hL hX FU 0 μ)
set_option maxRecDepth 100000 in
set_option maxHeartbeats 4000000 in
theorem c_Mo_readTable {l : Launch} {G : Gx} {y : Ly} {a : Nat} (hL : LyMo y a )  (μ : Mu) : Cn l G ⟨"SaltFiguresModel", "readTable", "()I"⟩ prog_13_method_50_code 2 (some .int) 6 [.ref (G.1 + a)] (μ, y) (emy y) rvI tpT (Mo_readTable a  μ) := cn_of (by decide +kernel) (Nat.le_of_ble_eq_true rfl) (fun _ _ _ => ⟨List.prefix_refl _, trivial⟩) (fun X hX _ => jMo_readTable hL hX  μ)

def Mo_readWeather_2b (a : Nat)  (kb2 : Int32 → Mu → Option (Int32 × Mu))  (v1 : Int32)  (μ : Mu) : Option (Int32 × Mu) := cl (Mo_isWord a 18 μ) (fun x2 μ1 => (if x2 = 0 then gF μ1 a 12 (fun x3 => (if x3 = 0 then some (v1, μ1) else cl (Mo_errs a 1 μ1) (fun x5 μ4 => some (x5, μ4)))) else (if v1 = 16 then cl (Mo_errs a 3 μ1) (fun x9 μ8 => some (x9, μ8)) else cl (Mo_readDeed a (64 + (4 * v1)) μ1) (fun x7 μ6 => (if x7 = ((-1)) then some ((-1), μ6) else kb2 (v1 + 1) μ6)))))
def Mo_readWeather_2 (a : Nat)   (fu : Nat) : Int32 → Mu → Option (Int32 × Mu) := lp (fun kb => Mo_readWeather_2b a  kb ) (fun _ _ => none) fu
def Mo_readWeather (a : Nat)  (μ : Mu) : Option (Int32 × Mu) := Mo_readWeather_2 a FU 0 μ
set_option maxRecDepth 100000 in
set_option maxHeartbeats 4000000 in
theorem jMo_readWeather_2b {X : Cx} {l : Launch} {G : Gx} {y : Ly} {a : Nat} (hL : LyMo y a ) (hX : Ok X l G prog_13_method_53_code 2 (some .int) "SaltFiguresModel")   {kb2 : Int32 → Mu → Option (Int32 × Mu)}  (hk2 : ∀ (v1 : Int32) (μ : Mu), J X G 2 7 y (emy y) rvI tpT 2 [(0, .ref (G.1 + a)), (1, .int v1)] [] (μ, y) (kb2 v1 μ)) (v1 : Int32)  (μ : Mu) : J X G 2 7 y (emy y) rvI tpT 2 [(0, .ref (G.1 + a)), (1, .int v1)] [] (μ, y) (Mo_readWeather_2b a  kb2  v1  μ) := by
  unfold Mo_readWeather_2b
  refine J_aload_n (k0 := 0) (pc := 2) 0 hX (by decide +kernel) rfl rfl ?_
  refine J_bipush (pc := 3) (n := 18) (v := 18) hX (by decide +kernel) (by decide +kernel) ?_
  refine J_cVi (pc := 5) (idx := 241) [.int 18] hX (by decide +kernel) (mq mt_7 50 (by decide +kernel)) mv_Mo_isWord hL.1 rfl rfl (Nat.le_of_ble_eq_true rfl) (Nat.le_of_ble_eq_true rfl) (c_Mo_isWord hL 18 μ) (fun x2 μ1 => ?_)
  refine J_if_eq (pc := 8) (off := 38) (tgt := 46) hX (by decide +kernel) (by decide +kernel) (fun _ => ?_) (fun _ => ?_)
  · refine J_aload_n (k0 := 0) (pc := 46) 0 hX (by decide +kernel) rfl rfl ?_
    refine J_gF (pc := 47) hX (by decide +kernel) fl_Mo_181 hL.1 rfl (fun x3 => ?_)
    refine J_if_ne (pc := 50) (off := 7) (tgt := 57) hX (by decide +kernel) (by decide +kernel) (fun _ => ?_) (fun _ => ?_)
    · refine J_aload_n (k0 := 0) (pc := 57) 0 hX (by decide +kernel) rfl rfl ?_
      refine J_iconst (pc := 58) (n := 1) (v := 1) hX (by decide +kernel) (by decide +kernel) ?_
      refine J_cVi (pc := 59) (idx := 212) [.int 1] hX (by decide +kernel) (mq mt_7 54 (by decide +kernel)) mv_Mo_errs hL.1 rfl rfl (Nat.le_of_ble_eq_true rfl) (Nat.le_of_ble_eq_true rfl) (c_Mo_errs hL 1 μ1) (fun x5 μ4 => ?_)
      exact J_iret (pc := 62) hX (by decide +kernel) rfl trivial
    · refine J_iload_n (k0 := 1) (pc := 53) 1 hX (by decide +kernel) rfl rfl ?_
      refine J_goto (pc := 54) (off := 8) (tgt := 62) hX (by decide +kernel) (by decide +kernel) ?_
      exact J_iret (pc := 62) hX (by decide +kernel) rfl trivial
  · refine J_iload_n (k0 := 1) (pc := 11) 1 hX (by decide +kernel) rfl rfl ?_
    refine J_bipush (pc := 12) (n := 16) (v := 16) hX (by decide +kernel) (by decide +kernel) ?_
    refine J_icmp_ne (pc := 14) (off := 9) (tgt := 23) hX (by decide +kernel) (by decide +kernel) (fun _ => ?_) (fun _ => ?_)
    · refine J_aload_n (k0 := 0) (pc := 23) 0 hX (by decide +kernel) rfl rfl ?_
      refine J_bipush (pc := 24) (n := 64) (v := 64) hX (by decide +kernel) (by decide +kernel) ?_
      refine J_iconst (pc := 26) (n := 4) (v := 4) hX (by decide +kernel) (by decide +kernel) ?_
      refine J_iload_n (k0 := 1) (pc := 27) 1 hX (by decide +kernel) rfl rfl ?_
      refine J_imul (pc := 28) hX (by decide +kernel) ?_
      refine J_iadd (pc := 29) hX (by decide +kernel) ?_
      refine J_cVi (pc := 30) (idx := 276) [.int (64 + (4 * v1))] hX (by decide +kernel) (mq mt_7 78 (by decide +kernel)) mv_Mo_readDeed hL.1 rfl rfl (Nat.le_of_ble_eq_true rfl) (Nat.le_of_ble_eq_true rfl) (c_Mo_readDeed hL (64 + (4 * v1)) μ1) (fun x7 μ6 => ?_)
      refine J_iconst (pc := 33) (n := -1) (v := (-1)) hX (by decide +kernel) (by decide +kernel) ?_
      refine J_icmp_ne (pc := 34) (off := 5) (tgt := 39) hX (by decide +kernel) (by decide +kernel) (fun _ => ?_) (fun _ => ?_)
      · refine J_iload_n (k0 := 1) (pc := 39) 1 hX (by decide +kernel) rfl rfl ?_
        refine J_iconst (pc := 40) (n := 1) (v := 1) hX (by decide +kernel) (by decide +kernel) ?_
        refine J_iadd (pc := 41) hX (by decide +kernel) ?_
        refine J_istore_n (k0 := 1) (pc := 42) [(1, .int (v1 + 1)), (0, .ref (G.1 + a))] hX (by decide +kernel) rfl (by decide) rfl ?_
        refine J_goto (pc := 43) (off := -41) (tgt := 2) hX (by decide +kernel) (by decide +kernel) ?_
        exact J_sub [1, 0] _ rfl (hk2 (v1 + 1) μ6)
      · refine J_iconst (pc := 37) (n := -1) (v := (-1)) hX (by decide +kernel) (by decide +kernel) ?_
        exact J_iret (pc := 38) hX (by decide +kernel) rfl trivial
    · refine J_aload_n (k0 := 0) (pc := 17) 0 hX (by decide +kernel) rfl rfl ?_
      refine J_iconst (pc := 18) (n := 3) (v := 3) hX (by decide +kernel) (by decide +kernel) ?_
      refine J_cVi (pc := 19) (idx := 212) [.int 3] hX (by decide +kernel) (mq mt_7 54 (by decide +kernel)) mv_Mo_errs hL.1 rfl rfl (Nat.le_of_ble_eq_true rfl) (Nat.le_of_ble_eq_true rfl) (c_Mo_errs hL 3 μ1) (fun x9 μ8 => ?_)
      exact J_iret (pc := 22) hX (by decide +kernel) rfl trivial
set_option maxRecDepth 100000 in
set_option maxHeartbeats 4000000 in
theorem jMo_readWeather_2 {X : Cx} {l : Launch} {G : Gx} {y : Ly} {a : Nat} (hL : LyMo y a ) (hX : Ok X l G prog_13_method_53_code 2 (some .int) "SaltFiguresModel")    : ∀ (fu : Nat) (v1 : Int32) (μ : Mu), J X G 2 7 y (emy y) rvI tpT 2 [(0, .ref (G.1 + a)), (1, .int v1)] [] (μ, y) (Mo_readWeather_2 a   fu v1 μ) := by
  intro fu
  induction fu with
  | zero => intros; exact J_none
  | succ fu ih => intro v1 μ; exact jMo_readWeather_2b hL hX   ih v1 μ
set_option maxRecDepth 100000 in
set_option maxHeartbeats 4000000 in
theorem jMo_readWeather {X : Cx} {l : Launch} {G : Gx} {y : Ly} {a : Nat} (hL : LyMo y a ) (hX : Ok X l G prog_13_method_53_code 2 (some .int) "SaltFiguresModel")  (μ : Mu) : J X G 2 7 y (emy y) rvI tpT 0 [(0, .ref (G.1 + a))] [] (μ, y) (Mo_readWeather a  μ) := by
  unfold Mo_readWeather
  refine J_iconst (pc := 0) (n := 0) (v := 0) hX (by decide +kernel) (by decide +kernel) ?_
  refine J_istore_n (k0 := 1) (pc := 1) [(1, .int 0), (0, .ref (G.1 + a))] hX (by decide +kernel) rfl (by decide) rfl ?_
  exact J_sub [1, 0] _ rfl (jMo_readWeather_2 hL hX FU 0 μ)
set_option maxRecDepth 100000 in
set_option maxHeartbeats 4000000 in
theorem c_Mo_readWeather {l : Launch} {G : Gx} {y : Ly} {a : Nat} (hL : LyMo y a )  (μ : Mu) : Cn l G ⟨"SaltFiguresModel", "readWeather", "()I"⟩ prog_13_method_53_code 2 (some .int) 7 [.ref (G.1 + a)] (μ, y) (emy y) rvI tpT (Mo_readWeather a  μ) := cn_of (by decide +kernel) (Nat.le_of_ble_eq_true rfl) (fun _ _ _ => ⟨List.prefix_refl _, trivial⟩) (fun X hX _ => jMo_readWeather hL hX  μ)
