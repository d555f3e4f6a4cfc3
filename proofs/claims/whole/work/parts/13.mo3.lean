/-! THE REFERENCE: models and their rows (by program) -/
def Mo_readsText (a : Nat) (v1 : Int32) (μ : Mu) : Option (Int32 × Mu) := pF μ a 22 0 (fun μ1 => cl (Mo_reads a μ1) (fun _ μ2 => (if v1 = 1 then cl (Mo_readTable a μ2) (fun x10 μ9 => some (x10, μ9)) else (if v1 = 2 then cl (Mo_readWeather a μ2) (fun x8 μ7 => some (x8, μ7)) else (if v1 = 3 then cl (Mo_readHeirs a μ2) (fun x6 μ5 => some (x6, μ5)) else cl (Mo_readLaw a μ2) (fun x4 μ3 => some (x4, μ3)))))))
set_option maxRecDepth 100000 in
set_option maxHeartbeats 4000000 in
theorem jMo_readsText {X : Cx} {l : Launch} {G : Gx} {y : Ly} {a : Nat} (hL : LyMo y a ) (hX : Ok X l G prog_13_method_56_code 2 (some .int) "SaltFiguresModel") (v1 : Int32) (μ : Mu) : J X G 2 10 y (emy y) rvI tpT 0 [(0, .ref (G.1 + a)), (1, .int v1)] [] (μ, y) (Mo_readsText a v1 μ) := by
  unfold Mo_readsText
  refine J_aload_n (k0 := 0) (pc := 0) 0 hX (by decide +kernel) rfl rfl ?_
  refine J_iconst (pc := 1) (n := 0) (v := 0) hX (by decide +kernel) (by decide +kernel) ?_
  refine J_pF (pc := 2) hX (by decide +kernel) fl_Mo_260 hL.1 rfl (fun μ1 => ?_)
  refine J_aload_n (k0 := 0) (pc := 5) 0 hX (by decide +kernel) rfl rfl ?_
  refine J_cVv (pc := 6) (idx := 219) [] hX (by decide +kernel) (mq mt_7 22 (by decide +kernel)) mv_Mo_reads hL.1 rfl rfl (Nat.le_of_ble_eq_true rfl) (Nat.le_of_ble_eq_true rfl) (c_Mo_reads hL μ1) (fun μ2 => ?_)
  refine J_iload_n (k0 := 1) (pc := 9) 1 hX (by decide +kernel) rfl rfl ?_
  refine J_iconst (pc := 10) (n := 1) (v := 1) hX (by decide +kernel) (by decide +kernel) ?_
  refine J_icmp_ne (pc := 11) (off := 8) (tgt := 19) hX (by decide +kernel) (by decide +kernel) (fun _ => ?_) (fun _ => ?_)
  · refine J_iload_n (k0 := 1) (pc := 19) 1 hX (by decide +kernel) rfl rfl ?_
    refine J_iconst (pc := 20) (n := 2) (v := 2) hX (by decide +kernel) (by decide +kernel) ?_
    refine J_icmp_ne (pc := 21) (off := 8) (tgt := 29) hX (by decide +kernel) (by decide +kernel) (fun _ => ?_) (fun _ => ?_)
    · refine J_iload_n (k0 := 1) (pc := 29) 1 hX (by decide +kernel) rfl rfl ?_
      refine J_iconst (pc := 30) (n := 3) (v := 3) hX (by decide +kernel) (by decide +kernel) ?_
      refine J_icmp_ne (pc := 31) (off := 10) (tgt := 41) hX (by decide +kernel) (by decide +kernel) (fun _ => ?_) (fun _ => ?_)
      · refine J_aload_n (k0 := 0) (pc := 41) 0 hX (by decide +kernel) rfl rfl ?_
        refine J_cVi (pc := 42) (idx := 291) [] hX (by decide +kernel) (mq mt_7 94 (by decide +kernel)) mv_Mo_readLaw hL.1 rfl rfl (Nat.le_of_ble_eq_true rfl) (Nat.le_of_ble_eq_true rfl) (c_Mo_readLaw hL μ2) (fun x4 μ3 => ?_)
        exact J_iret (pc := 45) hX (by decide +kernel) rfl trivial
      · refine J_aload_n (k0 := 0) (pc := 34) 0 hX (by decide +kernel) rfl rfl ?_
        refine J_cVi (pc := 35) (idx := 288) [] hX (by decide +kernel) (mq mt_7 86 (by decide +kernel)) mv_Mo_readHeirs hL.1 rfl rfl (Nat.le_of_ble_eq_true rfl) (Nat.le_of_ble_eq_true rfl) (c_Mo_readHeirs hL μ2) (fun x6 μ5 => ?_)
        refine J_goto (pc := 38) (off := 7) (tgt := 45) hX (by decide +kernel) (by decide +kernel) ?_
        exact J_iret (pc := 45) hX (by decide +kernel) rfl trivial
    · refine J_aload_n (k0 := 0) (pc := 24) 0 hX (by decide +kernel) rfl rfl ?_
      refine J_cVi (pc := 25) (idx := 285) [] hX (by decide +kernel) (mq mt_7 74 (by decide +kernel)) mv_Mo_readWeather hL.1 rfl rfl (Nat.le_of_ble_eq_true rfl) (Nat.le_of_ble_eq_true rfl) (c_Mo_readWeather hL μ2) (fun x8 μ7 => ?_)
      exact J_iret (pc := 28) hX (by decide +kernel) rfl trivial
  · refine J_aload_n (k0 := 0) (pc := 14) 0 hX (by decide +kernel) rfl rfl ?_
    refine J_cVi (pc := 15) (idx := 282) [] hX (by decide +kernel) (mq mt_7 46 (by decide +kernel)) mv_Mo_readTable hL.1 rfl rfl (Nat.le_of_ble_eq_true rfl) (Nat.le_of_ble_eq_true rfl) (c_Mo_readTable hL μ2) (fun x10 μ9 => ?_)
    exact J_iret (pc := 18) hX (by decide +kernel) rfl trivial
set_option maxRecDepth 100000 in
set_option maxHeartbeats 4000000 in
theorem c_Mo_readsText {l : Launch} {G : Gx} {y : Ly} {a : Nat} (hL : LyMo y a ) (v1 : Int32) (μ : Mu) : Cn l G ⟨"SaltFiguresModel", "readsText", "(I)I"⟩ prog_13_method_56_code 2 (some .int) 10 [.ref (G.1 + a), .int v1] (μ, y) (emy y) rvI tpT (Mo_readsText a v1 μ) := cn_of (by decide +kernel) (Nat.le_of_ble_eq_true rfl) (fun _ _ _ => ⟨List.prefix_refl _, trivial⟩) (fun X hX _ => jMo_readsText hL hX v1 μ)

def Mo_row (a : Nat) (v1 : Int32) (v2 : Int32) (μ : Mu) : Option (Int32 × Mu) := pF μ a 0 0 (fun μ1 => cl (Mo_isIn a v1 0 1 μ1) (fun x3 μ2 => (if x3 = 0 then some ((-1), μ2) else (if v2 = ((-1)) then stA μ2 (a + 26) 2 v1 0 (fun μ12 => some (0, μ12)) else cl (Mo_isIn a v2 0 9 μ2) (fun x5 μ4 => (if x5 = 0 then some ((-1), μ4) else ldA μ4 (a + 26) 2 v1 (fun x6 => (if x6 = 10 then some ((-1), μ4) else ldA μ4 (a + 26) 2 v1 (fun x7 => stA μ4 (a + 27) 20 ((10 * v1) + x7) v2 (fun μ8 => ldA μ8 (a + 26) 2 v1 (fun x9 => stA μ8 (a + 26) 2 v1 (x9 + 1) (fun μ10 => ldA μ10 (a + 26) 2 v1 (fun x11 => some (x11, μ10))))))))))))))
set_option maxRecDepth 100000 in
set_option maxHeartbeats 4000000 in
theorem jMo_row {X : Cx} {l : Launch} {G : Gx} {y : Ly} {a : Nat} (hL : LyMo y a ) (hX : Ok X l G prog_13_method_112_code 3 (some .int) "SaltFiguresModel") (v1 : Int32) (v2 : Int32) (μ : Mu) : J X G 3 2 y (emy y) rvI tpT 0 [(0, .ref (G.1 + a)), (1, .int v1), (2, .int v2)] [] (μ, y) (Mo_row a v1 v2 μ) := by
  unfold Mo_row
  refine J_aload_n (k0 := 0) (pc := 0) 0 hX (by decide +kernel) rfl rfl ?_
  refine J_iconst (pc := 1) (n := 0) (v := 0) hX (by decide +kernel) (by decide +kernel) ?_
  refine J_pF (pc := 2) hX (by decide +kernel) fl_Mo_131 hL.1 rfl (fun μ1 => ?_)
  refine J_aload_n (k0 := 0) (pc := 5) 0 hX (by decide +kernel) rfl rfl ?_
  refine J_iload_n (k0 := 1) (pc := 6) 1 hX (by decide +kernel) rfl rfl ?_
  refine J_iconst (pc := 7) (n := 0) (v := 0) hX (by decide +kernel) (by decide +kernel) ?_
  refine J_iconst (pc := 8) (n := 1) (v := 1) hX (by decide +kernel) (by decide +kernel) ?_
  refine J_cVi (pc := 9) (idx := 154) [.int v1, .int 0, .int 1] hX (by decide +kernel) (mq mt_6 226 (by decide +kernel)) mv_Mo_isIn hL.1 rfl rfl (Nat.le_of_ble_eq_true rfl) (Nat.le_of_ble_eq_true rfl) (c_Mo_isIn hL v1 0 1 μ1) (fun x3 μ2 => ?_)
  refine J_if_ne (pc := 12) (off := 5) (tgt := 17) hX (by decide +kernel) (by decide +kernel) (fun _ => ?_) (fun _ => ?_)
  · refine J_iload_n (k0 := 2) (pc := 17) 2 hX (by decide +kernel) rfl rfl ?_
    refine J_iconst (pc := 18) (n := -1) (v := (-1)) hX (by decide +kernel) (by decide +kernel) ?_
    refine J_icmp_ne (pc := 19) (off := 12) (tgt := 31) hX (by decide +kernel) (by decide +kernel) (fun _ => ?_) (fun _ => ?_)
    · refine J_aload_n (k0 := 0) (pc := 31) 0 hX (by decide +kernel) rfl rfl ?_
      refine J_iload_n (k0 := 2) (pc := 32) 2 hX (by decide +kernel) rfl rfl ?_
      refine J_iconst (pc := 33) (n := 0) (v := 0) hX (by decide +kernel) (by decide +kernel) ?_
      refine J_bipush (pc := 34) (n := 9) (v := 9) hX (by decide +kernel) (by decide +kernel) ?_
      refine J_cVi (pc := 36) (idx := 154) [.int v2, .int 0, .int 9] hX (by decide +kernel) (mq mt_6 226 (by decide +kernel)) mv_Mo_isIn hL.1 rfl rfl (Nat.le_of_ble_eq_true rfl) (Nat.le_of_ble_eq_true rfl) (c_Mo_isIn hL v2 0 9 μ2) (fun x5 μ4 => ?_)
      refine J_if_eq (pc := 39) (off := 14) (tgt := 53) hX (by decide +kernel) (by decide +kernel) (fun _ => ?_) (fun _ => ?_)
      · refine J_iconst (pc := 53) (n := -1) (v := (-1)) hX (by decide +kernel) (by decide +kernel) ?_
        exact J_iret (pc := 54) hX (by decide +kernel) rfl trivial
      · refine J_aload_n (k0 := 0) (pc := 42) 0 hX (by decide +kernel) rfl rfl ?_
        refine J_gr (pc := 43) hX (by decide +kernel) fl_Mo_89 hL.1 rfl hL.2.2.2.2.2.2.2.2.2.2.2.2.2.2.2.2.2.2.2.2.2.2.2.2.2.2.1.1 ?_
        refine J_iload_n (k0 := 1) (pc := 46) 1 hX (by decide +kernel) rfl rfl ?_
        refine J_ldA (pc := 47) hX (by decide +kernel) hL.2.2.2.2.2.2.2.2.2.2.2.2.2.2.2.2.2.2.2.2.2.2.2.2.2.2.1.2 (fun x6 => ?_)
        refine J_bipush (pc := 48) (n := 10) (v := 10) hX (by decide +kernel) (by decide +kernel) ?_
        refine J_icmp_ne (pc := 50) (off := 5) (tgt := 55) hX (by decide +kernel) (by decide +kernel) (fun _ => ?_) (fun _ => ?_)
        · refine J_aload_n (k0 := 0) (pc := 55) 0 hX (by decide +kernel) rfl rfl ?_
          refine J_gr (pc := 56) hX (by decide +kernel) fl_Mo_92 hL.1 rfl hL.2.2.2.2.2.2.2.2.2.2.2.2.2.2.2.2.2.2.2.2.2.2.2.2.2.2.2.1.1 ?_
          refine J_bipush (pc := 59) (n := 10) (v := 10) hX (by decide +kernel) (by decide +kernel) ?_
          refine J_iload_n (k0 := 1) (pc := 61) 1 hX (by decide +kernel) rfl rfl ?_
          refine J_imul (pc := 62) hX (by decide +kernel) ?_
          refine J_aload_n (k0 := 0) (pc := 63) 0 hX (by decide +kernel) rfl rfl ?_
          refine J_gr (pc := 64) hX (by decide +kernel) fl_Mo_89 hL.1 rfl hL.2.2.2.2.2.2.2.2.2.2.2.2.2.2.2.2.2.2.2.2.2.2.2.2.2.2.1.1 ?_
          refine J_iload_n (k0 := 1) (pc := 67) 1 hX (by decide +kernel) rfl rfl ?_
          refine J_ldA (pc := 68) hX (by decide +kernel) hL.2.2.2.2.2.2.2.2.2.2.2.2.2.2.2.2.2.2.2.2.2.2.2.2.2.2.1.2 (fun x7 => ?_)
          refine J_iadd (pc := 69) hX (by decide +kernel) ?_
          refine J_iload_n (k0 := 2) (pc := 70) 2 hX (by decide +kernel) rfl rfl ?_
          refine J_stA (pc := 71) hX (by decide +kernel) hL.2.2.2.2.2.2.2.2.2.2.2.2.2.2.2.2.2.2.2.2.2.2.2.2.2.2.2.1.2 (fun μ8 => ?_)
          refine J_aload_n (k0 := 0) (pc := 72) 0 hX (by decide +kernel) rfl rfl ?_
          refine J_gr (pc := 73) hX (by decide +kernel) fl_Mo_89 hL.1 rfl hL.2.2.2.2.2.2.2.2.2.2.2.2.2.2.2.2.2.2.2.2.2.2.2.2.2.2.1.1 ?_
          refine J_iload_n (k0 := 1) (pc := 76) 1 hX (by decide +kernel) rfl rfl ?_
          refine J_aload_n (k0 := 0) (pc := 77) 0 hX (by decide +kernel) rfl rfl ?_
          refine J_gr (pc := 78) hX (by decide +kernel) fl_Mo_89 hL.1 rfl hL.2.2.2.2.2.2.2.2.2.2.2.2.2.2.2.2.2.2.2.2.2.2.2.2.2.2.1.1 ?_
          refine J_iload_n (k0 := 1) (pc := 81) 1 hX (by decide +kernel) rfl rfl ?_
          refine J_ldA (pc := 82) hX (by decide +kernel) hL.2.2.2.2.2.2.2.2.2.2.2.2.2.2.2.2.2.2.2.2.2.2.2.2.2.2.1.2 (fun x9 => ?_)
          refine J_iconst (pc := 83) (n := 1) (v := 1) hX (by decide +kernel) (by decide +kernel) ?_
          refine J_iadd (pc := 84) hX (by decide +kernel) ?_
          refine J_stA (pc := 85) hX (by decide +kernel) hL.2.2.2.2.2.2.2.2.2.2.2.2.2.2.2.2.2.2.2.2.2.2.2.2.2.2.1.2 (fun μ10 => ?_)
          refine J_aload_n (k0 := 0) (pc := 86) 0 hX (by decide +kernel) rfl rfl ?_
          refine J_gr (pc := 87) hX (by decide +kernel) fl_Mo_89 hL.1 rfl hL.2.2.2.2.2.2.2.2.2.2.2.2.2.2.2.2.2.2.2.2.2.2.2.2.2.2.1.1 ?_
          refine J_iload_n (k0 := 1) (pc := 90) 1 hX (by decide +kernel) rfl rfl ?_
          refine J_ldA (pc := 91) hX (by decide +kernel) hL.2.2.2.2.2.2.2.2.2.2.2.2.2.2.2.2.2.2.2.2.2.2.2.2.2.2.1.2 (fun x11 => ?_)
          exact J_iret (pc := 92) hX (by decide +kernel) rfl trivial
        · refine J_iconst (pc := 53) (n := -1) (v := (-1)) hX (by decide +kernel) (by decide +kernel) ?_
          exact J_iret (pc := 54) hX (by decide +kernel) rfl trivial
    · refine J_aload_n (k0 := 0) (pc := 22) 0 hX (by decide +kernel) rfl rfl ?_
      refine J_gr (pc := 23) hX (by decide +kernel) fl_Mo_89 hL.1 rfl hL.2.2.2.2.2.2.2.2.2.2.2.2.2.2.2.2.2.2.2.2.2.2.2.2.2.2.1.1 ?_
      refine J_iload_n (k0 := 1) (pc := 26) 1 hX (by decide +kernel) rfl rfl ?_
      refine J_iconst (pc := 27) (n := 0) (v := 0) hX (by decide +kernel) (by decide +kernel) ?_
      refine J_stA (pc := 28) hX (by decide +kernel) hL.2.2.2.2.2.2.2.2.2.2.2.2.2.2.2.2.2.2.2.2.2.2.2.2.2.2.1.2 (fun μ12 => ?_)
      refine J_iconst (pc := 29) (n := 0) (v := 0) hX (by decide +kernel) (by decide +kernel) ?_
      exact J_iret (pc := 30) hX (by decide +kernel) rfl trivial
  · refine J_iconst (pc := 15) (n := -1) (v := (-1)) hX (by decide +kernel) (by decide +kernel) ?_
    exact J_iret (pc := 16) hX (by decide +kernel) rfl trivial
set_option maxRecDepth 100000 in
set_option maxHeartbeats 4000000 in
theorem c_Mo_row {l : Launch} {G : Gx} {y : Ly} {a : Nat} (hL : LyMo y a ) (v1 : Int32) (v2 : Int32) (μ : Mu) : Cn l G ⟨"SaltFiguresModel", "row", "(II)I"⟩ prog_13_method_112_code 3 (some .int) 2 [.ref (G.1 + a), .int v1, .int v2] (μ, y) (emy y) rvI tpT (Mo_row a v1 v2 μ) := cn_of (by decide +kernel) (Nat.le_of_ble_eq_true rfl) (fun _ _ _ => ⟨List.prefix_refl _, trivial⟩) (fun X hX _ => jMo_row hL hX v1 v2 μ)

def Mo_set_116 (a : Nat)     (μ : Mu) : Option (Int32 × Mu) := pF μ a 3 0 (fun μ1 => some (1, μ1))
def Mo_set_112 (a : Nat)   (v2 : Int32) (v3 : Int32) (s0 : Int32) (μ : Mu) : Option (Int32 × Mu) := stA μ (a + 1) 118 (s0 + v2) v3 (fun μ1 => Mo_set_116 a μ1)
def Mo_set_73 (a : Nat)   (v1 : Int32) (v2 : Int32) (v3 : Int32) (s0 : Int32) (μ : Mu) : Option (Int32 × Mu) := (if s0 = 0 then some (0, μ) else (if v1 = 2 then stA μ (a + 1) 118 3 v3 (fun μ1 => Mo_set_116 a μ1) else (if v1 = 0 then Mo_set_112 a v2 v3 6 μ else Mo_set_112 a v2 v3 22 μ)))
def Mo_set_72 (a : Nat)   (v1 : Int32) (v2 : Int32) (v3 : Int32)  (μ : Mu) : Option (Int32 × Mu) := Mo_set_73 a v1 v2 v3 0 μ
def Mo_set_62 (a : Nat)   (v1 : Int32) (v2 : Int32) (v3 : Int32) (s0 : Int32) (s1 : Int32) (s2 : Int32) (μ : Mu) : Option (Int32 × Mu) := cl (Mo_isIn a s2 s1 s0 μ) (fun x2 μ1 => (if x2 = 0 then Mo_set_72 a v1 v2 v3 μ1 else Mo_set_73 a v1 v2 v3 1 μ1))
def Mo_set (a : Nat) (v1 : Int32) (v2 : Int32) (v3 : Int32) (μ : Mu) : Option (Int32 × Mu) := pF μ a 0 0 (fun μ1 => (if v1 = 2 then cl (Mo_isIn a v3 0 9 μ1) (fun x9 μ8 => Mo_set_73 a v1 v2 v3 x9 μ8) else cl (Mo_isIn a v1 0 1 μ1) (fun x3 μ2 => (if x3 = 0 then Mo_set_72 a v1 v2 v3 μ2 else cl (Mo_isPerson a v2 μ2) (fun x5 μ4 => (if x5 = 0 then Mo_set_72 a v1 v2 v3 μ4 else cl (Mo_isAlive a v2 μ4) (fun x7 μ6 => (if x7 = 0 then Mo_set_72 a v1 v2 v3 μ6 else (if v1 = 0 then Mo_set_62 a v1 v2 v3 9 0 v3 μ6 else Mo_set_62 a v1 v2 v3 9999 0 v3 μ6)))))))))
set_option maxRecDepth 100000 in
set_option maxHeartbeats 4000000 in
theorem jMo_set_116 {X : Cx} {l : Launch} {G : Gx} {y : Ly} {a : Nat} (hL : LyMo y a ) (hX : Ok X l G prog_13_method_22_code 5 (some .boolean) "SaltFiguresModel")      (μ : Mu) : J X G 5 2 y (emy y) rvI tpT 116 [(0, .ref (G.1 + a))] [] (μ, y) (Mo_set_116 a     μ) := by
  unfold Mo_set_116
  refine J_aload_n (k0 := 0) (pc := 116) 0 hX (by decide +kernel) rfl rfl ?_
  refine J_iconst (pc := 117) (n := 0) (v := 0) hX (by decide +kernel) (by decide +kernel) ?_
  refine J_pF (pc := 118) hX (by decide +kernel) fl_Mo_135 hL.1 rfl (fun μ1 => ?_)
  refine J_iconst (pc := 121) (n := 1) (v := 1) hX (by decide +kernel) (by decide +kernel) ?_
  exact J_zret (pc := 122) hX (by decide +kernel) rfl (by decide +kernel) trivial
set_option maxRecDepth 100000 in
set_option maxHeartbeats 4000000 in
theorem jMo_set_112 {X : Cx} {l : Launch} {G : Gx} {y : Ly} {a : Nat} (hL : LyMo y a ) (hX : Ok X l G prog_13_method_22_code 5 (some .boolean) "SaltFiguresModel")  (v2 : Int32) (v3 : Int32) (s0 : Int32)   (μ : Mu) : J X G 5 2 y (emy y) rvI tpT 112 [(0, .ref (G.1 + a)), (2, .int v2), (3, .int v3)] [.int s0, .ref (G.1 + (a + 1))] (μ, y) (Mo_set_112 a   v2 v3 s0 μ) := by
  unfold Mo_set_112
  refine J_iload_n (k0 := 2) (pc := 112) 1 hX (by decide +kernel) rfl rfl ?_
  refine J_iadd (pc := 113) hX (by decide +kernel) ?_
  refine J_iload_n (k0 := 3) (pc := 114) 2 hX (by decide +kernel) rfl rfl ?_
  refine J_stA (pc := 115) hX (by decide +kernel) hL.2.1.2 (fun μ1 => ?_)
  exact J_sub [0] _ rfl (jMo_set_116 hL hX μ1)
set_option maxRecDepth 100000 in
set_option maxHeartbeats 4000000 in
theorem jMo_set_73 {X : Cx} {l : Launch} {G : Gx} {y : Ly} {a : Nat} (hL : LyMo y a ) (hX : Ok X l G prog_13_method_22_code 5 (some .boolean) "SaltFiguresModel")  (v1 : Int32) (v2 : Int32) (v3 : Int32) (s0 : Int32)   (μ : Mu) : J X G 5 2 y (emy y) rvI tpT 73 [(0, .ref (G.1 + a)), (1, .int v1), (2, .int v2), (3, .int v3)] [.int s0] (μ, y) (Mo_set_73 a   v1 v2 v3 s0 μ) := by
  unfold Mo_set_73
  refine J_istore (pc := 73) [(4, .int s0), (0, .ref (G.1 + a)), (1, .int v1), (2, .int v2), (3, .int v3)] hX (by decide +kernel) (by decide) rfl ?_
  refine J_iload (pc := 75) 0 hX (by decide +kernel) rfl ?_
  refine J_if_ne (pc := 77) (off := 5) (tgt := 82) hX (by decide +kernel) (by decide +kernel) (fun _ => ?_) (fun _ => ?_)
  · refine J_iload_n (k0 := 1) (pc := 82) 2 hX (by decide +kernel) rfl rfl ?_
    refine J_iconst (pc := 83) (n := 2) (v := 2) hX (by decide +kernel) (by decide +kernel) ?_
    refine J_icmp_ne (pc := 84) (off := 13) (tgt := 97) hX (by decide +kernel) (by decide +kernel) (fun _ => ?_) (fun _ => ?_)
    · refine J_aload_n (k0 := 0) (pc := 97) 1 hX (by decide +kernel) rfl rfl ?_
      refine J_gr (pc := 98) hX (by decide +kernel) fl_Mo_7 hL.1 rfl hL.2.1.1 ?_
      refine J_iload_n (k0 := 1) (pc := 101) 2 hX (by decide +kernel) rfl rfl ?_
      refine J_if_ne (pc := 102) (off := 8) (tgt := 110) hX (by decide +kernel) (by decide +kernel) (fun _ => ?_) (fun _ => ?_)
      · refine J_bipush (pc := 110) (n := 22) (v := 22) hX (by decide +kernel) (by decide +kernel) ?_
        exact J_sub [1, 3, 4] _ rfl (jMo_set_112 hL hX v2 v3 22 μ)
      · refine J_bipush (pc := 105) (n := 6) (v := 6) hX (by decide +kernel) (by decide +kernel) ?_
        refine J_goto (pc := 107) (off := 5) (tgt := 112) hX (by decide +kernel) (by decide +kernel) ?_
        exact J_sub [1, 3, 4] _ rfl (jMo_set_112 hL hX v2 v3 6 μ)
    · refine J_aload_n (k0 := 0) (pc := 87) 1 hX (by decide +kernel) rfl rfl ?_
      refine J_gr (pc := 88) hX (by decide +kernel) fl_Mo_7 hL.1 rfl hL.2.1.1 ?_
      refine J_iconst (pc := 91) (n := 3) (v := 3) hX (by decide +kernel) (by decide +kernel) ?_
      refine J_iload_n (k0 := 3) (pc := 92) 4 hX (by decide +kernel) rfl rfl ?_
      refine J_stA (pc := 93) hX (by decide +kernel) hL.2.1.2 (fun μ1 => ?_)
      refine J_goto (pc := 94) (off := 22) (tgt := 116) hX (by decide +kernel) (by decide +kernel) ?_
      exact J_sub [1] _ rfl (jMo_set_116 hL hX μ1)
  · refine J_iconst (pc := 80) (n := 0) (v := 0) hX (by decide +kernel) (by decide +kernel) ?_
    exact J_zret (pc := 81) hX (by decide +kernel) rfl (by decide +kernel) trivial
set_option maxRecDepth 100000 in
set_option maxHeartbeats 4000000 in
theorem jMo_set_72 {X : Cx} {l : Launch} {G : Gx} {y : Ly} {a : Nat} (hL : LyMo y a ) (hX : Ok X l G prog_13_method_22_code 5 (some .boolean) "SaltFiguresModel")  (v1 : Int32) (v2 : Int32) (v3 : Int32)    (μ : Mu) : J X G 5 2 y (emy y) rvI tpT 72 [(0, .ref (G.1 + a)), (1, .int v1), (2, .int v2), (3, .int v3)] [] (μ, y) (Mo_set_72 a   v1 v2 v3  μ) := by
  unfold Mo_set_72
  refine J_iconst (pc := 72) (n := 0) (v := 0) hX (by decide +kernel) (by decide +kernel) ?_
  exact J_sub [0, 1, 2, 3] _ rfl (jMo_set_73 hL hX v1 v2 v3 0 μ)
set_option maxRecDepth 100000 in
set_option maxHeartbeats 4000000 in
theorem jMo_set_62 {X : Cx} {l : Launch} {G : Gx} {y : Ly} {a : Nat} (hL : LyMo y a ) (hX : Ok X l G prog_13_method_22_code 5 (some .boolean) "SaltFiguresModel")  (v1 : Int32) (v2 : Int32) (v3 : Int32) (s0 : Int32) (s1 : Int32) (s2 : Int32)   (μ : Mu) : J X G 5 2 y (emy y) rvI tpT 62 [(0, .ref (G.1 + a)), (1, .int v1), (2, .int v2), (3, .int v3)] [.int s0, .int s1, .int s2, .ref (G.1 + a)] (μ, y) (Mo_set_62 a   v1 v2 v3 s0 s1 s2 μ) := by
  unfold Mo_set_62
  refine J_cVi (pc := 62) (idx := 154) [.int s2, .int s1, .int s0] hX (by decide +kernel) (mq mt_6 226 (by decide +kernel)) mv_Mo_isIn hL.1 rfl rfl (Nat.le_of_ble_eq_true rfl) (Nat.le_of_ble_eq_true rfl) (c_Mo_isIn hL s2 s1 s0 μ) (fun x2 μ1 => ?_)
  refine J_if_eq (pc := 65) (off := 7) (tgt := 72) hX (by decide +kernel) (by decide +kernel) (fun _ => ?_) (fun _ => ?_)
  · exact J_sub [0, 1, 2, 3] _ rfl (jMo_set_72 hL hX v1 v2 v3 μ1)
  · refine J_iconst (pc := 68) (n := 1) (v := 1) hX (by decide +kernel) (by decide +kernel) ?_
    refine J_goto (pc := 69) (off := 4) (tgt := 73) hX (by decide +kernel) (by decide +kernel) ?_
    exact J_sub [0, 1, 2, 3] _ rfl (jMo_set_73 hL hX v1 v2 v3 1 μ1)
set_option maxRecDepth 100000 in
set_option maxHeartbeats 4000000 in
theorem jMo_set {X : Cx} {l : Launch} {G : Gx} {y : Ly} {a : Nat} (hL : LyMo y a ) (hX : Ok X l G prog_13_method_22_code 5 (some .boolean) "SaltFiguresModel") (v1 : Int32) (v2 : Int32) (v3 : Int32) (μ : Mu) : J X G 5 2 y (emy y) rvI tpT 0 [(0, .ref (G.1 + a)), (1, .int v1), (2, .int v2), (3, .int v3)] [] (μ, y) (Mo_set a v1 v2 v3 μ) := by
  unfold Mo_set
  refine J_aload_n (k0 := 0) (pc := 0) 0 hX (by decide +kernel) rfl rfl ?_
  refine J_iconst (pc := 1) (n := 0) (v := 0) hX (by decide +kernel) (by decide +kernel) ?_
  refine J_pF (pc := 2) hX (by decide +kernel) fl_Mo_131 hL.1 rfl (fun μ1 => ?_)
  refine J_iload_n (k0 := 1) (pc := 5) 1 hX (by decide +kernel) rfl rfl ?_
  refine J_iconst (pc := 6) (n := 2) (v := 2) hX (by decide +kernel) (by decide +kernel) ?_
  refine J_icmp_ne (pc := 7) (off := 14) (tgt := 21) hX (by decide +kernel) (by decide +kernel) (fun _ => ?_) (fun _ => ?_)
  · refine J_aload_n (k0 := 0) (pc := 21) 0 hX (by decide +kernel) rfl rfl ?_
    refine J_iload_n (k0 := 1) (pc := 22) 1 hX (by decide +kernel) rfl rfl ?_
    refine J_iconst (pc := 23) (n := 0) (v := 0) hX (by decide +kernel) (by decide +kernel) ?_
    refine J_iconst (pc := 24) (n := 1) (v := 1) hX (by decide +kernel) (by decide +kernel) ?_
    refine J_cVi (pc := 25) (idx := 154) [.int v1, .int 0, .int 1] hX (by decide +kernel) (mq mt_6 226 (by decide +kernel)) mv_Mo_isIn hL.1 rfl rfl (Nat.le_of_ble_eq_true rfl) (Nat.le_of_ble_eq_true rfl) (c_Mo_isIn hL v1 0 1 μ1) (fun x3 μ2 => ?_)
    refine J_if_eq (pc := 28) (off := 44) (tgt := 72) hX (by decide +kernel) (by decide +kernel) (fun _ => ?_) (fun _ => ?_)
    · exact J_sub [0, 1, 2, 3] _ rfl (jMo_set_72 hL hX v1 v2 v3 μ2)
    · refine J_aload_n (k0 := 0) (pc := 31) 0 hX (by decide +kernel) rfl rfl ?_
      refine J_iload_n (k0 := 2) (pc := 32) 2 hX (by decide +kernel) rfl rfl ?_
      refine J_cVi (pc := 33) (idx := 158) [.int v2] hX (by decide +kernel) (mq mt_6 234 (by decide +kernel)) mv_Mo_isPerson hL.1 rfl rfl (Nat.le_of_ble_eq_true rfl) (Nat.le_of_ble_eq_true rfl) (c_Mo_isPerson hL v2 μ2) (fun x5 μ4 => ?_)
      refine J_if_eq (pc := 36) (off := 36) (tgt := 72) hX (by decide +kernel) (by decide +kernel) (fun _ => ?_) (fun _ => ?_)
      · exact J_sub [0, 1, 2, 3] _ rfl (jMo_set_72 hL hX v1 v2 v3 μ4)
      · refine J_aload_n (k0 := 0) (pc := 39) 0 hX (by decide +kernel) rfl rfl ?_
        refine J_iload_n (k0 := 2) (pc := 40) 2 hX (by decide +kernel) rfl rfl ?_
        refine J_cVi (pc := 41) (idx := 162) [.int v2] hX (by decide +kernel) (mq mt_6 238 (by decide +kernel)) mv_Mo_isAlive hL.1 rfl rfl (Nat.le_of_ble_eq_true rfl) (Nat.le_of_ble_eq_true rfl) (c_Mo_isAlive hL v2 μ4) (fun x7 μ6 => ?_)
        refine J_if_eq (pc := 44) (off := 28) (tgt := 72) hX (by decide +kernel) (by decide +kernel) (fun _ => ?_) (fun _ => ?_)
        · exact J_sub [0, 1, 2, 3] _ rfl (jMo_set_72 hL hX v1 v2 v3 μ6)
        · refine J_aload_n (k0 := 0) (pc := 47) 0 hX (by decide +kernel) rfl rfl ?_
          refine J_iload_n (k0 := 3) (pc := 48) 3 hX (by decide +kernel) rfl rfl ?_
          refine J_iconst (pc := 49) (n := 0) (v := 0) hX (by decide +kernel) (by decide +kernel) ?_
          refine J_iload_n (k0 := 1) (pc := 50) 1 hX (by decide +kernel) rfl rfl ?_
          refine J_if_ne (pc := 51) (off := 8) (tgt := 59) hX (by decide +kernel) (by decide +kernel) (fun _ => ?_) (fun _ => ?_)
          · refine J_sipush (pc := 59) (n := 9999) (v := 9999) hX (by decide +kernel) (by decide +kernel) ?_
            exact J_sub [0, 1, 2, 3] _ rfl (jMo_set_62 hL hX v1 v2 v3 9999 0 v3 μ6)
          · refine J_bipush (pc := 54) (n := 9) (v := 9) hX (by decide +kernel) (by decide +kernel) ?_
            refine J_goto (pc := 56) (off := 6) (tgt := 62) hX (by decide +kernel) (by decide +kernel) ?_
            exact J_sub [0, 1, 2, 3] _ rfl (jMo_set_62 hL hX v1 v2 v3 9 0 v3 μ6)
  · refine J_aload_n (k0 := 0) (pc := 10) 0 hX (by decide +kernel) rfl rfl ?_
    refine J_iload_n (k0 := 3) (pc := 11) 3 hX (by decide +kernel) rfl rfl ?_
    refine J_iconst (pc := 12) (n := 0) (v := 0) hX (by decide +kernel) (by decide +kernel) ?_
    refine J_bipush (pc := 13) (n := 9) (v := 9) hX (by decide +kernel) (by decide +kernel) ?_
    refine J_cVi (pc := 15) (idx := 154) [.int v3, .int 0, .int 9] hX (by decide +kernel) (mq mt_6 226 (by decide +kernel)) mv_Mo_isIn hL.1 rfl rfl (Nat.le_of_ble_eq_true rfl) (Nat.le_of_ble_eq_true rfl) (c_Mo_isIn hL v3 0 9 μ1) (fun x9 μ8 => ?_)
    refine J_goto (pc := 18) (off := 55) (tgt := 73) hX (by decide +kernel) (by decide +kernel) ?_
    exact J_sub [0, 1, 2, 3] _ rfl (jMo_set_73 hL hX v1 v2 v3 x9 μ8)
set_option maxRecDepth 100000 in
set_option maxHeartbeats 4000000 in
theorem c_Mo_set {l : Launch} {G : Gx} {y : Ly} {a : Nat} (hL : LyMo y a ) (v1 : Int32) (v2 : Int32) (v3 : Int32) (μ : Mu) : Cn l G ⟨"SaltFiguresModel", "set", "(III)Z"⟩ prog_13_method_22_code 5 (some .boolean) 2 [.ref (G.1 + a), .int v1, .int v2, .int v3] (μ, y) (emy y) rvI tpT (Mo_set a v1 v2 v3 μ) := cn_of (by decide +kernel) (Nat.le_of_ble_eq_true rfl) (fun _ _ _ => ⟨List.prefix_refl _, trivial⟩) (fun X hX _ => jMo_set hL hX v1 v2 v3 μ)

def Mo_shadow_117 (a : Nat) (kb19 : Int32 → Mu → Option (Int32 × Mu)) (kb31 : Int32 → Mu → Option (Int32 × Mu))  (v1 : Int32) (v2 : Int32) (v3 : Int32) (v4 : Int32)  (μ : Mu) : Option (Int32 × Mu) := stA μ (a + 28) 121 ((11 * v2) + v3) v4 (fun μ1 => kb31 (v3 + 1) μ1)
def Mo_shadow_114 (a : Nat) (kb19 : Int32 → Mu → Option (Int32 × Mu)) (kb31 : Int32 → Mu → Option (Int32 × Mu))  (v1 : Int32) (v2 : Int32) (v3 : Int32) (s0 : Int32) (s1 : Int32) (μ : Mu) : Option (Int32 × Mu) := Mo_shadow_117 a kb19 kb31 v1 v2 v3 (s1 + s0) μ
def Mo_shadow_50 (a : Nat) (kb19 : Int32 → Mu → Option (Int32 × Mu)) (kb31 : Int32 → Mu → Option (Int32 × Mu))  (v1 : Int32) (v2 : Int32) (v3 : Int32) (s0 : Int32) (μ : Mu) : Option (Int32 × Mu) := (if v2 ≤ 0 then Mo_shadow_117 a kb19 kb31 v1 v2 v3 s0 μ else (if v3 ≤ 0 then Mo_shadow_117 a kb19 kb31 v1 v2 v3 s0 μ else ldA μ (a + 28) 121 ((11 * (v2 - 1)) + v3) (fun x1 => ldA μ (a + 27) 20 (v2 - 1) (fun x2 => ldA μ (a + 27) 20 ((10 + v3) - 1) (fun x3 => (if x2 = x3 then ldA μ (a + 28) 121 (((11 * (v2 - 1)) + v3) - 1) (fun x4 => Mo_shadow_114 a kb19 kb31 v1 v2 v3 x4 x1 μ) else Mo_shadow_114 a kb19 kb31 v1 v2 v3 0 x1 μ))))))
def Mo_shadow_31b (a : Nat) (kb19 : Int32 → Mu → Option (Int32 × Mu)) (kb31 : Int32 → Mu → Option (Int32 × Mu)) (v1 : Int32) (v2 : Int32) (v3 : Int32)  (μ : Mu) : Option (Int32 × Mu) := ldA μ (a + 26) 2 1 (fun x1 => (if x1 < v3 then kb19 (v2 + 1) μ else (if v3 = 0 then Mo_shadow_50 a kb19 kb31 v1 v2 v3 1 μ else Mo_shadow_50 a kb19 kb31 v1 v2 v3 0 μ)))
def Mo_shadow_31 (a : Nat) (kb19 : Int32 → Mu → Option (Int32 × Mu)) (v1 : Int32) (v2 : Int32) (fu : Nat) : Int32 → Mu → Option (Int32 × Mu) := lp (fun kb => Mo_shadow_31b a kb19 kb v1 v2) (fun _ _ => none) fu
def Mo_shadow_19b (a : Nat)  (kb19 : Int32 → Mu → Option (Int32 × Mu)) (v1 : Int32) (v2 : Int32)  (μ : Mu) : Option (Int32 × Mu) := ldA μ (a + 26) 2 0 (fun x1 => (if x1 < v2 then ldA μ (a + 26) 2 0 (fun x2 => ldA μ (a + 26) 2 1 (fun x3 => ldA μ (a + 28) 121 ((11 * x2) + x3) (fun x4 => (if v1 = 1 then some (x4, μ) else (if x4 ≤ 0 then some (0, μ) else some (1, μ)))))) else Mo_shadow_31 a kb19 v1 v2 FU 0 μ))
def Mo_shadow_19 (a : Nat)  (v1 : Int32) (fu : Nat) : Int32 → Mu → Option (Int32 × Mu) := lp (fun kb => Mo_shadow_19b a  kb v1) (fun _ _ => none) fu
def Mo_shadow (a : Nat) (v1 : Int32) (μ : Mu) : Option (Int32 × Mu) := pF μ a 0 0 (fun μ1 => cl (Mo_isIn a v1 0 1 μ1) (fun x3 μ2 => (if x3 = 0 then some ((-1), μ2) else Mo_shadow_19 a v1 FU 0 μ2)))
set_option maxRecDepth 100000 in
set_option maxHeartbeats 4000000 in
theorem jMo_shadow_117 {X : Cx} {l : Launch} {G : Gx} {y : Ly} {a : Nat} (hL : LyMo y a ) (hX : Ok X l G prog_13_method_113_code 5 (some .int) "SaltFiguresModel")  (v1 : Int32) (v2 : Int32) (v3 : Int32) (v4 : Int32)  {kb19 : Int32 → Mu → Option (Int32 × Mu)} {kb31 : Int32 → Mu → Option (Int32 × Mu)} (hk19 : ∀ (v2 : Int32) (μ : Mu), J X G 5 2 y (emy y) rvI tpT 19 [(0, .ref (G.1 + a)), (1, .int v1), (2, .int v2)] [] (μ, y) (kb19 v2 μ)) (hk31 : ∀ (v3 : Int32) (μ : Mu), J X G 5 2 y (emy y) rvI tpT 31 [(0, .ref (G.1 + a)), (1, .int v1), (2, .int v2), (3, .int v3)] [] (μ, y) (kb31 v3 μ)) (μ : Mu) : J X G 5 2 y (emy y) rvI tpT 117 [(0, .ref (G.1 + a)), (1, .int v1), (2, .int v2), (3, .int v3), (4, .int v4)] [] (μ, y) (Mo_shadow_117 a kb19 kb31  v1 v2 v3 v4  μ) := by
  unfold Mo_shadow_117
  refine J_aload_n (k0 := 0) (pc := 117) 0 hX (by decide +kernel) rfl rfl ?_
  refine J_gr (pc := 118) hX (by decide +kernel) fl_Mo_95 hL.1 rfl hL.2.2.2.2.2.2.2.2.2.2.2.2.2.2.2.2.2.2.2.2.2.2.2.2.2.2.2.2.1.1 ?_
  refine J_bipush (pc := 121) (n := 11) (v := 11) hX (by decide +kernel) (by decide +kernel) ?_
  refine J_iload_n (k0 := 2) (pc := 123) 2 hX (by decide +kernel) rfl rfl ?_
  refine J_imul (pc := 124) hX (by decide +kernel) ?_
  refine J_iload_n (k0 := 3) (pc := 125) 3 hX (by decide +kernel) rfl rfl ?_
  refine J_iadd (pc := 126) hX (by decide +kernel) ?_
  refine J_iload (pc := 127) 4 hX (by decide +kernel) rfl ?_
  refine J_stA (pc := 129) hX (by decide +kernel) hL.2.2.2.2.2.2.2.2.2.2.2.2.2.2.2.2.2.2.2.2.2.2.2.2.2.2.2.2.1.2 (fun μ1 => ?_)
  refine J_iinc (pc := 130) (n := 1) 3 [(3, .int (v3 + 1)), (0, .ref (G.1 + a)), (1, .int v1), (2, .int v2), (4, .int v4)] hX (by decide +kernel) rfl rfl (by decide) rfl ?_
  refine J_goto (pc := 133) (off := -102) (tgt := 31) hX (by decide +kernel) (by decide +kernel) ?_
  exact J_sub [1, 2, 3, 0] _ rfl (hk31 (v3 + 1) μ1)
set_option maxRecDepth 100000 in
set_option maxHeartbeats 4000000 in
theorem jMo_shadow_114 {X : Cx} {l : Launch} {G : Gx} {y : Ly} {a : Nat} (hL : LyMo y a ) (hX : Ok X l G prog_13_method_113_code 5 (some .int) "SaltFiguresModel")  (v1 : Int32) (v2 : Int32) (v3 : Int32) (s0 : Int32) (s1 : Int32) {kb19 : Int32 → Mu → Option (Int32 × Mu)} {kb31 : Int32 → Mu → Option (Int32 × Mu)} (hk19 : ∀ (v2 : Int32) (μ : Mu), J X G 5 2 y (emy y) rvI tpT 19 [(0, .ref (G.1 + a)), (1, .int v1), (2, .int v2)] [] (μ, y) (kb19 v2 μ)) (hk31 : ∀ (v3 : Int32) (μ : Mu), J X G 5 2 y (emy y) rvI tpT 31 [(0, .ref (G.1 + a)), (1, .int v1), (2, .int v2), (3, .int v3)] [] (μ, y) (kb31 v3 μ)) (μ : Mu) : J X G 5 2 y (emy y) rvI tpT 114 [(0, .ref (G.1 + a)), (1, .int v1), (2, .int v2), (3, .int v3)] [.int s0, .int s1] (μ, y) (Mo_shadow_114 a kb19 kb31  v1 v2 v3 s0 s1 μ) := by
  unfold Mo_shadow_114
  refine J_iadd (pc := 114) hX (by decide +kernel) ?_
  refine J_istore (pc := 115) [(4, .int (s1 + s0)), (0, .ref (G.1 + a)), (1, .int v1), (2, .int v2), (3, .int v3)] hX (by decide +kernel) (by decide) rfl ?_
  exact J_sub [1, 2, 3, 4, 0] _ rfl (jMo_shadow_117 hL hX v1 v2 v3 (s1 + s0) hk19 hk31 μ)
set_option maxRecDepth 100000 in
set_option maxHeartbeats 4000000 in
theorem jMo_shadow_50 {X : Cx} {l : Launch} {G : Gx} {y : Ly} {a : Nat} (hL : LyMo y a ) (hX : Ok X l G prog_13_method_113_code 5 (some .int) "SaltFiguresModel")  (v1 : Int32) (v2 : Int32) (v3 : Int32) (s0 : Int32) {kb19 : Int32 → Mu → Option (Int32 × Mu)} {kb31 : Int32 → Mu → Option (Int32 × Mu)} (hk19 : ∀ (v2 : Int32) (μ : Mu), J X G 5 2 y (emy y) rvI tpT 19 [(0, .ref (G.1 + a)), (1, .int v1), (2, .int v2)] [] (μ, y) (kb19 v2 μ)) (hk31 : ∀ (v3 : Int32) (μ : Mu), J X G 5 2 y (emy y) rvI tpT 31 [(0, .ref (G.1 + a)), (1, .int v1), (2, .int v2), (3, .int v3)] [] (μ, y) (kb31 v3 μ)) (μ : Mu) : J X G 5 2 y (emy y) rvI tpT 50 [(0, .ref (G.1 + a)), (1, .int v1), (2, .int v2), (3, .int v3)] [.int s0] (μ, y) (Mo_shadow_50 a kb19 kb31  v1 v2 v3 s0 μ) := by
  unfold Mo_shadow_50
  refine J_istore (pc := 50) [(4, .int s0), (0, .ref (G.1 + a)), (1, .int v1), (2, .int v2), (3, .int v3)] hX (by decide +kernel) (by decide) rfl ?_
  refine J_iload_n (k0 := 2) (pc := 52) 3 hX (by decide +kernel) rfl rfl ?_
  refine J_if_le (pc := 53) (off := 64) (tgt := 117) hX (by decide +kernel) (by decide +kernel) (fun _ => ?_) (fun _ => ?_)
  · exact J_sub [1, 2, 3, 4, 0] _ rfl (jMo_shadow_117 hL hX v1 v2 v3 s0 hk19 hk31 μ)
  · refine J_iload_n (k0 := 3) (pc := 56) 4 hX (by decide +kernel) rfl rfl ?_
    refine J_if_le (pc := 57) (off := 60) (tgt := 117) hX (by decide +kernel) (by decide +kernel) (fun _ => ?_) (fun _ => ?_)
    · exact J_sub [1, 2, 3, 4, 0] _ rfl (jMo_shadow_117 hL hX v1 v2 v3 s0 hk19 hk31 μ)
    · refine J_aload_n (k0 := 0) (pc := 60) 1 hX (by decide +kernel) rfl rfl ?_
      refine J_gr (pc := 61) hX (by decide +kernel) fl_Mo_95 hL.1 rfl hL.2.2.2.2.2.2.2.2.2.2.2.2.2.2.2.2.2.2.2.2.2.2.2.2.2.2.2.2.1.1 ?_
      refine J_bipush (pc := 64) (n := 11) (v := 11) hX (by decide +kernel) (by decide +kernel) ?_
      refine J_iload_n (k0 := 2) (pc := 66) 3 hX (by decide +kernel) rfl rfl ?_
      refine J_iconst (pc := 67) (n := 1) (v := 1) hX (by decide +kernel) (by decide +kernel) ?_
      refine J_isub (pc := 68) hX (by decide +kernel) ?_
      refine J_imul (pc := 69) hX (by decide +kernel) ?_
      refine J_iload_n (k0 := 3) (pc := 70) 4 hX (by decide +kernel) rfl rfl ?_
      refine J_iadd (pc := 71) hX (by decide +kernel) ?_
      refine J_ldA (pc := 72) hX (by decide +kernel) hL.2.2.2.2.2.2.2.2.2.2.2.2.2.2.2.2.2.2.2.2.2.2.2.2.2.2.2.2.1.2 (fun x1 => ?_)
      refine J_aload_n (k0 := 0) (pc := 73) 1 hX (by decide +kernel) rfl rfl ?_
      refine J_gr (pc := 74) hX (by decide +kernel) fl_Mo_92 hL.1 rfl hL.2.2.2.2.2.2.2.2.2.2.2.2.2.2.2.2.2.2.2.2.2.2.2.2.2.2.2.1.1 ?_
      refine J_iload_n (k0 := 2) (pc := 77) 3 hX (by decide +kernel) rfl rfl ?_
      refine J_iconst (pc := 78) (n := 1) (v := 1) hX (by decide +kernel) (by decide +kernel) ?_
      refine J_isub (pc := 79) hX (by decide +kernel) ?_
      refine J_ldA (pc := 80) hX (by decide +kernel) hL.2.2.2.2.2.2.2.2.2.2.2.2.2.2.2.2.2.2.2.2.2.2.2.2.2.2.2.1.2 (fun x2 => ?_)
      refine J_aload_n (k0 := 0) (pc := 81) 1 hX (by decide +kernel) rfl rfl ?_
      refine J_gr (pc := 82) hX (by decide +kernel) fl_Mo_92 hL.1 rfl hL.2.2.2.2.2.2.2.2.2.2.2.2.2.2.2.2.2.2.2.2.2.2.2.2.2.2.2.1.1 ?_
      refine J_bipush (pc := 85) (n := 10) (v := 10) hX (by decide +kernel) (by decide +kernel) ?_
      refine J_iload_n (k0 := 3) (pc := 87) 4 hX (by decide +kernel) rfl rfl ?_
      refine J_iadd (pc := 88) hX (by decide +kernel) ?_
      refine J_iconst (pc := 89) (n := 1) (v := 1) hX (by decide +kernel) (by decide +kernel) ?_
      refine J_isub (pc := 90) hX (by decide +kernel) ?_
      refine J_ldA (pc := 91) hX (by decide +kernel) hL.2.2.2.2.2.2.2.2.2.2.2.2.2.2.2.2.2.2.2.2.2.2.2.2.2.2.2.1.2 (fun x3 => ?_)
      refine J_icmp_ne (pc := 92) (off := 21) (tgt := 113) hX (by decide +kernel) (by decide +kernel) (fun _ => ?_) (fun _ => ?_)
      · refine J_iconst (pc := 113) (n := 0) (v := 0) hX (by decide +kernel) (by decide +kernel) ?_
        exact J_sub [1, 2, 3, 4] _ rfl (jMo_shadow_114 hL hX v1 v2 v3 0 x1 hk19 hk31 μ)
      · refine J_aload_n (k0 := 0) (pc := 95) 1 hX (by decide +kernel) rfl rfl ?_
        refine J_gr (pc := 96) hX (by decide +kernel) fl_Mo_95 hL.1 rfl hL.2.2.2.2.2.2.2.2.2.2.2.2.2.2.2.2.2.2.2.2.2.2.2.2.2.2.2.2.1.1 ?_
        refine J_bipush (pc := 99) (n := 11) (v := 11) hX (by decide +kernel) (by decide +kernel) ?_
        refine J_iload_n (k0 := 2) (pc := 101) 3 hX (by decide +kernel) rfl rfl ?_
        refine J_iconst (pc := 102) (n := 1) (v := 1) hX (by decide +kernel) (by decide +kernel) ?_
        refine J_isub (pc := 103) hX (by decide +kernel) ?_
        refine J_imul (pc := 104) hX (by decide +kernel) ?_
        refine J_iload_n (k0 := 3) (pc := 105) 4 hX (by decide +kernel) rfl rfl ?_
        refine J_iadd (pc := 106) hX (by decide +kernel) ?_
        refine J_iconst (pc := 107) (n := 1) (v := 1) hX (by decide +kernel) (by decide +kernel) ?_
        refine J_isub (pc := 108) hX (by decide +kernel) ?_
        refine J_ldA (pc := 109) hX (by decide +kernel) hL.2.2.2.2.2.2.2.2.2.2.2.2.2.2.2.2.2.2.2.2.2.2.2.2.2.2.2.2.1.2 (fun x4 => ?_)
        refine J_goto (pc := 110) (off := 4) (tgt := 114) hX (by decide +kernel) (by decide +kernel) ?_
        exact J_sub [1, 2, 3, 4] _ rfl (jMo_shadow_114 hL hX v1 v2 v3 x4 x1 hk19 hk31 μ)
set_option maxRecDepth 100000 in
set_option maxHeartbeats 4000000 in
theorem jMo_shadow_31b {X : Cx} {l : Launch} {G : Gx} {y : Ly} {a : Nat} (hL : LyMo y a ) (hX : Ok X l G prog_13_method_113_code 5 (some .int) "SaltFiguresModel") (v1 : Int32) (v2 : Int32) {kb19 : Int32 → Mu → Option (Int32 × Mu)} {kb31 : Int32 → Mu → Option (Int32 × Mu)} (hk19 : ∀ (v2 : Int32) (μ : Mu), J X G 5 2 y (emy y) rvI tpT 19 [(0, .ref (G.1 + a)), (1, .int v1), (2, .int v2)] [] (μ, y) (kb19 v2 μ)) (hk31 : ∀ (v3 : Int32) (μ : Mu), J X G 5 2 y (emy y) rvI tpT 31 [(0, .ref (G.1 + a)), (1, .int v1), (2, .int v2), (3, .int v3)] [] (μ, y) (kb31 v3 μ)) (v3 : Int32)  (μ : Mu) : J X G 5 2 y (emy y) rvI tpT 31 [(0, .ref (G.1 + a)), (1, .int v1), (2, .int v2), (3, .int v3)] [] (μ, y) (Mo_shadow_31b a kb19 kb31 v1 v2 v3  μ) := by
  unfold Mo_shadow_31b
  refine J_iload_n (k0 := 3) (pc := 31) 3 hX (by decide +kernel) rfl rfl ?_
  refine J_aload_n (k0 := 0) (pc := 32) 0 hX (by decide +kernel) rfl rfl ?_
  refine J_gr (pc := 33) hX (by decide +kernel) fl_Mo_89 hL.1 rfl hL.2.2.2.2.2.2.2.2.2.2.2.2.2.2.2.2.2.2.2.2.2.2.2.2.2.2.1.1 ?_
  refine J_iconst (pc := 36) (n := 1) (v := 1) hX (by decide +kernel) (by decide +kernel) ?_
  refine J_ldA (pc := 37) hX (by decide +kernel) hL.2.2.2.2.2.2.2.2.2.2.2.2.2.2.2.2.2.2.2.2.2.2.2.2.2.2.1.2 (fun x1 => ?_)
  refine J_icmp_gt (pc := 38) (off := 98) (tgt := 136) hX (by decide +kernel) (by decide +kernel) (fun _ => ?_) (fun _ => ?_)
  · refine J_iinc (pc := 136) (n := 1) 2 [(2, .int (v2 + 1)), (0, .ref (G.1 + a)), (1, .int v1), (3, .int v3)] hX (by decide +kernel) rfl rfl (by decide) rfl ?_
    refine J_goto (pc := 139) (off := -120) (tgt := 19) hX (by decide +kernel) (by decide +kernel) ?_
    exact J_sub [1, 2, 0] _ rfl (hk19 (v2 + 1) μ)
  · refine J_iload_n (k0 := 3) (pc := 41) 3 hX (by decide +kernel) rfl rfl ?_
    refine J_if_ne (pc := 42) (off := 7) (tgt := 49) hX (by decide +kernel) (by decide +kernel) (fun _ => ?_) (fun _ => ?_)
    · refine J_iconst (pc := 49) (n := 0) (v := 0) hX (by decide +kernel) (by decide +kernel) ?_
      exact J_sub [0, 1, 2, 3] _ rfl (jMo_shadow_50 hL hX v1 v2 v3 0 hk19 hk31 μ)
    · refine J_iconst (pc := 45) (n := 1) (v := 1) hX (by decide +kernel) (by decide +kernel) ?_
      refine J_goto (pc := 46) (off := 4) (tgt := 50) hX (by decide +kernel) (by decide +kernel) ?_
      exact J_sub [0, 1, 2, 3] _ rfl (jMo_shadow_50 hL hX v1 v2 v3 1 hk19 hk31 μ)
set_option maxRecDepth 100000 in
set_option maxHeartbeats 4000000 in
theorem jMo_shadow_31 {X : Cx} {l : Launch} {G : Gx} {y : Ly} {a : Nat} (hL : LyMo y a ) (hX : Ok X l G prog_13_method_113_code 5 (some .int) "SaltFiguresModel") (v1 : Int32) (v2 : Int32) {kb19 : Int32 → Mu → Option (Int32 × Mu)} (hk19 : ∀ (v2 : Int32) (μ : Mu), J X G 5 2 y (emy y) rvI tpT 19 [(0, .ref (G.1 + a)), (1, .int v1), (2, .int v2)] [] (μ, y) (kb19 v2 μ)) : ∀ (fu : Nat) (v3 : Int32) (μ : Mu), J X G 5 2 y (emy y) rvI tpT 31 [(0, .ref (G.1 + a)), (1, .int v1), (2, .int v2), (3, .int v3)] [] (μ, y) (Mo_shadow_31 a kb19 v1 v2 fu v3 μ) := by
  intro fu
  induction fu with
  | zero => intros; exact J_none
  | succ fu ih => intro v3 μ; exact jMo_shadow_31b hL hX v1 v2 hk19 ih v3 μ
set_option maxRecDepth 100000 in
set_option maxHeartbeats 4000000 in
theorem jMo_shadow_19b {X : Cx} {l : Launch} {G : Gx} {y : Ly} {a : Nat} (hL : LyMo y a ) (hX : Ok X l G prog_13_method_113_code 5 (some .int) "SaltFiguresModel") (v1 : Int32)  {kb19 : Int32 → Mu → Option (Int32 × Mu)}  (hk19 : ∀ (v2 : Int32) (μ : Mu), J X G 5 2 y (emy y) rvI tpT 19 [(0, .ref (G.1 + a)), (1, .int v1), (2, .int v2)] [] (μ, y) (kb19 v2 μ)) (v2 : Int32)  (μ : Mu) : J X G 5 2 y (emy y) rvI tpT 19 [(0, .ref (G.1 + a)), (1, .int v1), (2, .int v2)] [] (μ, y) (Mo_shadow_19b a  kb19 v1 v2  μ) := by
  unfold Mo_shadow_19b
  refine J_iload_n (k0 := 2) (pc := 19) 2 hX (by decide +kernel) rfl rfl ?_
  refine J_aload_n (k0 := 0) (pc := 20) 0 hX (by decide +kernel) rfl rfl ?_
  refine J_gr (pc := 21) hX (by decide +kernel) fl_Mo_89 hL.1 rfl hL.2.2.2.2.2.2.2.2.2.2.2.2.2.2.2.2.2.2.2.2.2.2.2.2.2.2.1.1 ?_
  refine J_iconst (pc := 24) (n := 0) (v := 0) hX (by decide +kernel) (by decide +kernel) ?_
  refine J_ldA (pc := 25) hX (by decide +kernel) hL.2.2.2.2.2.2.2.2.2.2.2.2.2.2.2.2.2.2.2.2.2.2.2.2.2.2.1.2 (fun x1 => ?_)
  refine J_icmp_gt (pc := 26) (off := 116) (tgt := 142) hX (by decide +kernel) (by decide +kernel) (fun _ => ?_) (fun _ => ?_)
  · refine J_aload_n (k0 := 0) (pc := 142) 0 hX (by decide +kernel) rfl rfl ?_
    refine J_gr (pc := 143) hX (by decide +kernel) fl_Mo_95 hL.1 rfl hL.2.2.2.2.2.2.2.2.2.2.2.2.2.2.2.2.2.2.2.2.2.2.2.2.2.2.2.2.1.1 ?_
    refine J_bipush (pc := 146) (n := 11) (v := 11) hX (by decide +kernel) (by decide +kernel) ?_
    refine J_aload_n (k0 := 0) (pc := 148) 0 hX (by decide +kernel) rfl rfl ?_
    refine J_gr (pc := 149) hX (by decide +kernel) fl_Mo_89 hL.1 rfl hL.2.2.2.2.2.2.2.2.2.2.2.2.2.2.2.2.2.2.2.2.2.2.2.2.2.2.1.1 ?_
    refine J_iconst (pc := 152) (n := 0) (v := 0) hX (by decide +kernel) (by decide +kernel) ?_
    refine J_ldA (pc := 153) hX (by decide +kernel) hL.2.2.2.2.2.2.2.2.2.2.2.2.2.2.2.2.2.2.2.2.2.2.2.2.2.2.1.2 (fun x2 => ?_)
    refine J_imul (pc := 154) hX (by decide +kernel) ?_
    refine J_aload_n (k0 := 0) (pc := 155) 0 hX (by decide +kernel) rfl rfl ?_
    refine J_gr (pc := 156) hX (by decide +kernel) fl_Mo_89 hL.1 rfl hL.2.2.2.2.2.2.2.2.2.2.2.2.2.2.2.2.2.2.2.2.2.2.2.2.2.2.1.1 ?_
    refine J_iconst (pc := 159) (n := 1) (v := 1) hX (by decide +kernel) (by decide +kernel) ?_
    refine J_ldA (pc := 160) hX (by decide +kernel) hL.2.2.2.2.2.2.2.2.2.2.2.2.2.2.2.2.2.2.2.2.2.2.2.2.2.2.1.2 (fun x3 => ?_)
    refine J_iadd (pc := 161) hX (by decide +kernel) ?_
    refine J_ldA (pc := 162) hX (by decide +kernel) hL.2.2.2.2.2.2.2.2.2.2.2.2.2.2.2.2.2.2.2.2.2.2.2.2.2.2.2.2.1.2 (fun x4 => ?_)
    refine J_istore_n (k0 := 2) (pc := 163) [(2, .int x4), (0, .ref (G.1 + a)), (1, .int v1)] hX (by decide +kernel) rfl (by decide) rfl ?_
    refine J_iload_n (k0 := 1) (pc := 164) 2 hX (by decide +kernel) rfl rfl ?_
    refine J_iconst (pc := 165) (n := 1) (v := 1) hX (by decide +kernel) (by decide +kernel) ?_
    refine J_icmp_ne (pc := 166) (off := 7) (tgt := 173) hX (by decide +kernel) (by decide +kernel) (fun _ => ?_) (fun _ => ?_)
    · refine J_iload_n (k0 := 2) (pc := 173) 0 hX (by decide +kernel) rfl rfl ?_
      refine J_if_le (pc := 174) (off := 7) (tgt := 181) hX (by decide +kernel) (by decide +kernel) (fun _ => ?_) (fun _ => ?_)
      · refine J_iconst (pc := 181) (n := 0) (v := 0) hX (by decide +kernel) (by decide +kernel) ?_
        exact J_iret (pc := 182) hX (by decide +kernel) rfl trivial
      · refine J_iconst (pc := 177) (n := 1) (v := 1) hX (by decide +kernel) (by decide +kernel) ?_
        refine J_goto (pc := 178) (off := 4) (tgt := 182) hX (by decide +kernel) (by decide +kernel) ?_
        exact J_iret (pc := 182) hX (by decide +kernel) rfl trivial
    · refine J_iload_n (k0 := 2) (pc := 169) 0 hX (by decide +kernel) rfl rfl ?_
      refine J_goto (pc := 170) (off := 12) (tgt := 182) hX (by decide +kernel) (by decide +kernel) ?_
      exact J_iret (pc := 182) hX (by decide +kernel) rfl trivial
  · refine J_iconst (pc := 29) (n := 0) (v := 0) hX (by decide +kernel) (by decide +kernel) ?_
    refine J_istore_n (k0 := 3) (pc := 30) [(3, .int 0), (0, .ref (G.1 + a)), (1, .int v1), (2, .int v2)] hX (by decide +kernel) rfl (by decide) rfl ?_
    exact J_sub [1, 2, 3, 0] _ rfl (jMo_shadow_31 hL hX v1 v2 hk19 FU 0 μ)
set_option maxRecDepth 100000 in
set_option maxHeartbeats 4000000 in
theorem jMo_shadow_19 {X : Cx} {l : Launch} {G : Gx} {y : Ly} {a : Nat} (hL : LyMo y a ) (hX : Ok X l G prog_13_method_113_code 5 (some .int) "SaltFiguresModel") (v1 : Int32)   : ∀ (fu : Nat) (v2 : Int32) (μ : Mu), J X G 5 2 y (emy y) rvI tpT 19 [(0, .ref (G.1 + a)), (1, .int v1), (2, .int v2)] [] (μ, y) (Mo_shadow_19 a  v1 fu v2 μ) := by
  intro fu
  induction fu with
  | zero => intros; exact J_none
  | succ fu ih => intro v2 μ; exact jMo_shadow_19b hL hX v1  ih v2 μ
set_option maxRecDepth 100000 in
set_option maxHeartbeats 4000000 in
theorem jMo_shadow {X : Cx} {l : Launch} {G : Gx} {y : Ly} {a : Nat} (hL : LyMo y a ) (hX : Ok X l G prog_13_method_113_code 5 (some .int) "SaltFiguresModel") (v1 : Int32) (μ : Mu) : J X G 5 2 y (emy y) rvI tpT 0 [(0, .ref (G.1 + a)), (1, .int v1)] [] (μ, y) (Mo_shadow a v1 μ) := by
  unfold Mo_shadow
  refine J_aload_n (k0 := 0) (pc := 0) 0 hX (by decide +kernel) rfl rfl ?_
  refine J_iconst (pc := 1) (n := 0) (v := 0) hX (by decide +kernel) (by decide +kernel) ?_
  refine J_pF (pc := 2) hX (by decide +kernel) fl_Mo_131 hL.1 rfl (fun μ1 => ?_)
  refine J_aload_n (k0 := 0) (pc := 5) 0 hX (by decide +kernel) rfl rfl ?_
  refine J_iload_n (k0 := 1) (pc := 6) 1 hX (by decide +kernel) rfl rfl ?_
  refine J_iconst (pc := 7) (n := 0) (v := 0) hX (by decide +kernel) (by decide +kernel) ?_
  refine J_iconst (pc := 8) (n := 1) (v := 1) hX (by decide +kernel) (by decide +kernel) ?_
  refine J_cVi (pc := 9) (idx := 154) [.int v1, .int 0, .int 1] hX (by decide +kernel) (mq mt_6 226 (by decide +kernel)) mv_Mo_isIn hL.1 rfl rfl (Nat.le_of_ble_eq_true rfl) (Nat.le_of_ble_eq_true rfl) (c_Mo_isIn hL v1 0 1 μ1) (fun x3 μ2 => ?_)
  refine J_if_ne (pc := 12) (off := 5) (tgt := 17) hX (by decide +kernel) (by decide +kernel) (fun _ => ?_) (fun _ => ?_)
  · refine J_iconst (pc := 17) (n := 0) (v := 0) hX (by decide +kernel) (by decide +kernel) ?_
    refine J_istore_n (k0 := 2) (pc := 18) [(2, .int 0), (0, .ref (G.1 + a)), (1, .int v1)] hX (by decide +kernel) rfl (by decide) rfl ?_
    exact J_sub [1, 2, 0] _ rfl (jMo_shadow_19 hL hX v1 FU 0 μ2)
  · refine J_iconst (pc := 15) (n := -1) (v := (-1)) hX (by decide +kernel) (by decide +kernel) ?_
    exact J_iret (pc := 16) hX (by decide +kernel) rfl trivial
set_option maxRecDepth 100000 in
set_option maxHeartbeats 4000000 in
theorem c_Mo_shadow {l : Launch} {G : Gx} {y : Ly} {a : Nat} (hL : LyMo y a ) (v1 : Int32) (μ : Mu) : Cn l G ⟨"SaltFiguresModel", "shadow", "(I)I"⟩ prog_13_method_113_code 5 (some .int) 2 [.ref (G.1 + a), .int v1] (μ, y) (emy y) rvI tpT (Mo_shadow a v1 μ) := cn_of (by decide +kernel) (Nat.le_of_ble_eq_true rfl) (fun _ _ _ => ⟨List.prefix_refl _, trivial⟩) (fun X hX _ => jMo_shadow hL hX v1 μ)

def Mo_side (a : Nat) (v1 : Int32) (v2 : Int32) (v3 : Int32) (μ : Mu) : Option (Int32 × Mu) := pF μ a 0 0 (fun μ1 => gF μ1 a 42 (fun x2 => cl (Mo_isIn a v1 0 (x2 - 1) μ1) (fun x4 μ3 => (if x4 = 0 then some ((-2), μ3) else gF μ3 a 42 (fun x5 => cl (Mo_isIn a v2 0 (x5 - 1) μ3) (fun x7 μ6 => (if x7 = 0 then some ((-2), μ6) else gF μ6 a 42 (fun x8 => cl (Mo_isIn a v3 0 (x8 - 1) μ6) (fun x10 μ9 => (if x10 = 0 then some ((-2), μ9) else (if v1 = v2 then some ((-2), μ9) else cl (Mo_areaOf a v1 v2 v3 μ9) (fun x12 μ11 => (if x12 ≤ 0 then (if 0 ≤ x12 then some (0, μ11) else some ((-1), μ11)) else some (1, μ11))))))))))))))
set_option maxRecDepth 100000 in
set_option maxHeartbeats 4000000 in
theorem jMo_side {X : Cx} {l : Launch} {G : Gx} {y : Ly} {a : Nat} (hL : LyMo y a ) (hX : Ok X l G prog_13_method_101_code 5 (some .int) "SaltFiguresModel") (v1 : Int32) (v2 : Int32) (v3 : Int32) (μ : Mu) : J X G 5 2 y (emy y) rvI tpT 0 [(0, .ref (G.1 + a)), (1, .int v1), (2, .int v2), (3, .int v3)] [] (μ, y) (Mo_side a v1 v2 v3 μ) := by
  unfold Mo_side
  refine J_aload_n (k0 := 0) (pc := 0) 0 hX (by decide +kernel) rfl rfl ?_
  refine J_iconst (pc := 1) (n := 0) (v := 0) hX (by decide +kernel) (by decide +kernel) ?_
  refine J_pF (pc := 2) hX (by decide +kernel) fl_Mo_131 hL.1 rfl (fun μ1 => ?_)
  refine J_aload_n (k0 := 0) (pc := 5) 0 hX (by decide +kernel) rfl rfl ?_
  refine J_iload_n (k0 := 1) (pc := 6) 1 hX (by decide +kernel) rfl rfl ?_
  refine J_iconst (pc := 7) (n := 0) (v := 0) hX (by decide +kernel) (by decide +kernel) ?_
  refine J_aload_n (k0 := 0) (pc := 8) 0 hX (by decide +kernel) rfl rfl ?_
  refine J_gF (pc := 9) hX (by decide +kernel) fl_Mo_432 hL.1 rfl (fun x2 => ?_)
  refine J_iconst (pc := 12) (n := 1) (v := 1) hX (by decide +kernel) (by decide +kernel) ?_
  refine J_isub (pc := 13) hX (by decide +kernel) ?_
  refine J_cVi (pc := 14) (idx := 154) [.int v1, .int 0, .int (x2 - 1)] hX (by decide +kernel) (mq mt_6 226 (by decide +kernel)) mv_Mo_isIn hL.1 rfl rfl (Nat.le_of_ble_eq_true rfl) (Nat.le_of_ble_eq_true rfl) (c_Mo_isIn hL v1 0 (x2 - 1) μ1) (fun x4 μ3 => ?_)
  refine J_if_eq (pc := 17) (off := 38) (tgt := 55) hX (by decide +kernel) (by decide +kernel) (fun _ => ?_) (fun _ => ?_)
  · refine J_bipush (pc := 55) (n := -2) (v := (-2)) hX (by decide +kernel) (by decide +kernel) ?_
    exact J_iret (pc := 57) hX (by decide +kernel) rfl trivial
  · refine J_aload_n (k0 := 0) (pc := 20) 0 hX (by decide +kernel) rfl rfl ?_
    refine J_iload_n (k0 := 2) (pc := 21) 2 hX (by decide +kernel) rfl rfl ?_
    refine J_iconst (pc := 22) (n := 0) (v := 0) hX (by decide +kernel) (by decide +kernel) ?_
    refine J_aload_n (k0 := 0) (pc := 23) 0 hX (by decide +kernel) rfl rfl ?_
    refine J_gF (pc := 24) hX (by decide +kernel) fl_Mo_432 hL.1 rfl (fun x5 => ?_)
    refine J_iconst (pc := 27) (n := 1) (v := 1) hX (by decide +kernel) (by decide +kernel) ?_
    refine J_isub (pc := 28) hX (by decide +kernel) ?_
    refine J_cVi (pc := 29) (idx := 154) [.int v2, .int 0, .int (x5 - 1)] hX (by decide +kernel) (mq mt_6 226 (by decide +kernel)) mv_Mo_isIn hL.1 rfl rfl (Nat.le_of_ble_eq_true rfl) (Nat.le_of_ble_eq_true rfl) (c_Mo_isIn hL v2 0 (x5 - 1) μ3) (fun x7 μ6 => ?_)
    refine J_if_eq (pc := 32) (off := 23) (tgt := 55) hX (by decide +kernel) (by decide +kernel) (fun _ => ?_) (fun _ => ?_)
    · refine J_bipush (pc := 55) (n := -2) (v := (-2)) hX (by decide +kernel) (by decide +kernel) ?_
      exact J_iret (pc := 57) hX (by decide +kernel) rfl trivial
    · refine J_aload_n (k0 := 0) (pc := 35) 0 hX (by decide +kernel) rfl rfl ?_
      refine J_iload_n (k0 := 3) (pc := 36) 3 hX (by decide +kernel) rfl rfl ?_
      refine J_iconst (pc := 37) (n := 0) (v := 0) hX (by decide +kernel) (by decide +kernel) ?_
      refine J_aload_n (k0 := 0) (pc := 38) 0 hX (by decide +kernel) rfl rfl ?_
      refine J_gF (pc := 39) hX (by decide +kernel) fl_Mo_432 hL.1 rfl (fun x8 => ?_)
      refine J_iconst (pc := 42) (n := 1) (v := 1) hX (by decide +kernel) (by decide +kernel) ?_
      refine J_isub (pc := 43) hX (by decide +kernel) ?_
      refine J_cVi (pc := 44) (idx := 154) [.int v3, .int 0, .int (x8 - 1)] hX (by decide +kernel) (mq mt_6 226 (by decide +kernel)) mv_Mo_isIn hL.1 rfl rfl (Nat.le_of_ble_eq_true rfl) (Nat.le_of_ble_eq_true rfl) (c_Mo_isIn hL v3 0 (x8 - 1) μ6) (fun x10 μ9 => ?_)
      refine J_if_eq (pc := 47) (off := 8) (tgt := 55) hX (by decide +kernel) (by decide +kernel) (fun _ => ?_) (fun _ => ?_)
      · refine J_bipush (pc := 55) (n := -2) (v := (-2)) hX (by decide +kernel) (by decide +kernel) ?_
        exact J_iret (pc := 57) hX (by decide +kernel) rfl trivial
      · refine J_iload_n (k0 := 1) (pc := 50) 1 hX (by decide +kernel) rfl rfl ?_
        refine J_iload_n (k0 := 2) (pc := 51) 2 hX (by decide +kernel) rfl rfl ?_
        refine J_icmp_ne (pc := 52) (off := 6) (tgt := 58) hX (by decide +kernel) (by decide +kernel) (fun _ => ?_) (fun _ => ?_)
        · refine J_aload_n (k0 := 0) (pc := 58) 0 hX (by decide +kernel) rfl rfl ?_
          refine J_iload_n (k0 := 1) (pc := 59) 1 hX (by decide +kernel) rfl rfl ?_
          refine J_iload_n (k0 := 2) (pc := 60) 2 hX (by decide +kernel) rfl rfl ?_
          refine J_iload_n (k0 := 3) (pc := 61) 3 hX (by decide +kernel) rfl rfl ?_
          refine J_cVi (pc := 62) (idx := 435) [.int v1, .int v2, .int v3] hX (by decide +kernel) (mq mt_8 114 (by decide +kernel)) mv_Mo_areaOf hL.1 rfl rfl (Nat.le_of_ble_eq_true rfl) (Nat.le_of_ble_eq_true rfl) (c_Mo_areaOf hL v1 v2 v3 μ9) (fun x12 μ11 => ?_)
          refine J_istore (pc := 65) [(4, .int x12), (0, .ref (G.1 + a)), (1, .int v1), (2, .int v2), (3, .int v3)] hX (by decide +kernel) (by decide) rfl ?_
          refine J_iload (pc := 67) 0 hX (by decide +kernel) rfl ?_
          refine J_if_le (pc := 69) (off := 7) (tgt := 76) hX (by decide +kernel) (by decide +kernel) (fun _ => ?_) (fun _ => ?_)
          · refine J_iload (pc := 76) 0 hX (by decide +kernel) rfl ?_
            refine J_if_ge (pc := 78) (off := 7) (tgt := 85) hX (by decide +kernel) (by decide +kernel) (fun _ => ?_) (fun _ => ?_)
            · refine J_iconst (pc := 85) (n := 0) (v := 0) hX (by decide +kernel) (by decide +kernel) ?_
              exact J_iret (pc := 86) hX (by decide +kernel) rfl trivial
            · refine J_iconst (pc := 81) (n := -1) (v := (-1)) hX (by decide +kernel) (by decide +kernel) ?_
              refine J_goto (pc := 82) (off := 4) (tgt := 86) hX (by decide +kernel) (by decide +kernel) ?_
              exact J_iret (pc := 86) hX (by decide +kernel) rfl trivial
          · refine J_iconst (pc := 72) (n := 1) (v := 1) hX (by decide +kernel) (by decide +kernel) ?_
            refine J_goto (pc := 73) (off := 13) (tgt := 86) hX (by decide +kernel) (by decide +kernel) ?_
            exact J_iret (pc := 86) hX (by decide +kernel) rfl trivial
        · refine J_bipush (pc := 55) (n := -2) (v := (-2)) hX (by decide +kernel) (by decide +kernel) ?_
          exact J_iret (pc := 57) hX (by decide +kernel) rfl trivial
set_option maxRecDepth 100000 in
set_option maxHeartbeats 4000000 in
theorem c_Mo_side {l : Launch} {G : Gx} {y : Ly} {a : Nat} (hL : LyMo y a ) (v1 : Int32) (v2 : Int32) (v3 : Int32) (μ : Mu) : Cn l G ⟨"SaltFiguresModel", "side", "(III)I"⟩ prog_13_method_101_code 5 (some .int) 2 [.ref (G.1 + a), .int v1, .int v2, .int v3] (μ, y) (emy y) rvI tpT (Mo_side a v1 v2 v3 μ) := cn_of (by decide +kernel) (Nat.le_of_ble_eq_true rfl) (fun _ _ _ => ⟨List.prefix_refl _, trivial⟩) (fun X hX _ => jMo_side hL hX v1 v2 v3 μ)

def Mo_slabs_120 (a : Nat) (kb36 : Int32 → Mu → Option (Int32 × Mu)) (kb50 : Int32 → Mu → Option (Int32 × Mu))  (v1 : Int32) (v2 : Int32) (v3 : Int32)  (μ : Mu) : Option (Int32 × Mu) := kb50 (v3 + 2) μ
def Mo_slabs_50b (a : Nat) (kb36 : Int32 → Mu → Option (Int32 × Mu)) (kb50 : Int32 → Mu → Option (Int32 × Mu)) (v1 : Int32) (v2 : Int32) (v3 : Int32)  (μ : Mu) : Option (Int32 × Mu) := (if v2 < v3 then kb36 (v2 + 2) μ else ldA μ (a + 25) 41 v2 (fun x1 => ldA μ (a + 25) 41 (v2 - v3) (fun x2 => ldA μ (a + 25) 41 (v2 - v3) (fun x3 => cl (Mo_added a x2 x3 μ) (fun x5 μ4 => cl (Mo_added a x1 x5 μ4) (fun x7 μ6 => stA μ6 (a + 25) 41 v2 x7 (fun μ8 => (if v3 = 2 then ldA μ8 (a + 25) 41 v2 (fun x9 => ldA μ8 (a + 25) 41 (v2 - 2) (fun x10 => cl (Mo_added a x9 x10 μ8) (fun x12 μ11 => stA μ11 (a + 25) 41 v2 x12 (fun μ13 => Mo_slabs_120 a kb36 kb50 v1 v2 v3 μ13)))) else Mo_slabs_120 a kb36 kb50 v1 v2 v3 μ8))))))))
def Mo_slabs_50 (a : Nat) (kb36 : Int32 → Mu → Option (Int32 × Mu)) (v1 : Int32) (v2 : Int32) (fu : Nat) : Int32 → Mu → Option (Int32 × Mu) := lp (fun kb => Mo_slabs_50b a kb36 kb v1 v2) (fun _ _ => none) fu
def Mo_slabs_36b (a : Nat)  (kb36 : Int32 → Mu → Option (Int32 × Mu)) (v1 : Int32) (v2 : Int32)  (μ : Mu) : Option (Int32 × Mu) := (if v1 < v2 then ldA μ (a + 25) 41 v1 (fun x1 => some (x1, μ)) else stA μ (a + 25) 41 v2 0 (fun μ2 => Mo_slabs_50 a kb36 v1 v2 FU 2 μ2))
def Mo_slabs_36 (a : Nat)  (v1 : Int32) (fu : Nat) : Int32 → Mu → Option (Int32 × Mu) := lp (fun kb => Mo_slabs_36b a  kb v1) (fun _ _ => none) fu
def Mo_slabs (a : Nat) (v1 : Int32) (μ : Mu) : Option (Int32 × Mu) := pF μ a 0 0 (fun μ1 => cl (Mo_isIn a v1 0 40 μ1) (fun x3 μ2 => (if x3 = 0 then some ((-1), μ2) else (if (jrem v1 2) = 1 then some (0, μ2) else stA μ2 (a + 25) 41 0 1 (fun μ4 => Mo_slabs_36 a v1 FU 2 μ4)))))
set_option maxRecDepth 100000 in
set_option maxHeartbeats 4000000 in
theorem jMo_slabs_120 {X : Cx} {l : Launch} {G : Gx} {y : Ly} {a : Nat} (hL : LyMo y a ) (hX : Ok X l G prog_13_method_111_code 4 (some .int) "SaltFiguresModel")  (v1 : Int32) (v2 : Int32) (v3 : Int32)  {kb36 : Int32 → Mu → Option (Int32 × Mu)} {kb50 : Int32 → Mu → Option (Int32 × Mu)} (hk36 : ∀ (v2 : Int32) (μ : Mu), J X G 4 2 y (emy y) rvI tpT 36 [(0, .ref (G.1 + a)), (1, .int v1), (2, .int v2)] [] (μ, y) (kb36 v2 μ)) (hk50 : ∀ (v3 : Int32) (μ : Mu), J X G 4 2 y (emy y) rvI tpT 50 [(0, .ref (G.1 + a)), (1, .int v1), (2, .int v2), (3, .int v3)] [] (μ, y) (kb50 v3 μ)) (μ : Mu) : J X G 4 2 y (emy y) rvI tpT 120 [(0, .ref (G.1 + a)), (1, .int v1), (2, .int v2), (3, .int v3)] [] (μ, y) (Mo_slabs_120 a kb36 kb50  v1 v2 v3  μ) := by
  unfold Mo_slabs_120
  refine J_iload_n (k0 := 3) (pc := 120) 3 hX (by decide +kernel) rfl rfl ?_
  refine J_iconst (pc := 121) (n := 2) (v := 2) hX (by decide +kernel) (by decide +kernel) ?_
  refine J_iadd (pc := 122) hX (by decide +kernel) ?_
  refine J_istore_n (k0 := 3) (pc := 123) [(3, .int (v3 + 2)), (0, .ref (G.1 + a)), (1, .int v1), (2, .int v2)] hX (by decide +kernel) rfl (by decide) rfl ?_
  refine J_goto (pc := 124) (off := -74) (tgt := 50) hX (by decide +kernel) (by decide +kernel) ?_
  exact J_sub [1, 2, 3, 0] _ rfl (hk50 (v3 + 2) μ)
set_option maxRecDepth 100000 in
set_option maxHeartbeats 4000000 in
theorem jMo_slabs_50b {X : Cx} {l : Launch} {G : Gx} {y : Ly} {a : Nat} (hL : LyMo y a ) (hX : Ok X l G prog_13_method_111_code 4 (some .int) "SaltFiguresModel") (v1 : Int32) (v2 : Int32) {kb36 : Int32 → Mu → Option (Int32 × Mu)} {kb50 : Int32 → Mu → Option (Int32 × Mu)} (hk36 : ∀ (v2 : Int32) (μ : Mu), J X G 4 2 y (emy y) rvI tpT 36 [(0, .ref (G.1 + a)), (1, .int v1), (2, .int v2)] [] (μ, y) (kb36 v2 μ)) (hk50 : ∀ (v3 : Int32) (μ : Mu), J X G 4 2 y (emy y) rvI tpT 50 [(0, .ref (G.1 + a)), (1, .int v1), (2, .int v2), (3, .int v3)] [] (μ, y) (kb50 v3 μ)) (v3 : Int32)  (μ : Mu) : J X G 4 2 y (emy y) rvI tpT 50 [(0, .ref (G.1 + a)), (1, .int v1), (2, .int v2), (3, .int v3)] [] (μ, y) (Mo_slabs_50b a kb36 kb50 v1 v2 v3  μ) := by
  unfold Mo_slabs_50b
  refine J_iload_n (k0 := 3) (pc := 50) 3 hX (by decide +kernel) rfl rfl ?_
  refine J_iload_n (k0 := 2) (pc := 51) 2 hX (by decide +kernel) rfl rfl ?_
  refine J_icmp_gt (pc := 52) (off := 75) (tgt := 127) hX (by decide +kernel) (by decide +kernel) (fun _ => ?_) (fun _ => ?_)
  · refine J_iload_n (k0 := 2) (pc := 127) 2 hX (by decide +kernel) rfl rfl ?_
    refine J_iconst (pc := 128) (n := 2) (v := 2) hX (by decide +kernel) (by decide +kernel) ?_
    refine J_iadd (pc := 129) hX (by decide +kernel) ?_
    refine J_istore_n (k0 := 2) (pc := 130) [(2, .int (v2 + 2)), (0, .ref (G.1 + a)), (1, .int v1), (3, .int v3)] hX (by decide +kernel) rfl (by decide) rfl ?_
    refine J_goto (pc := 131) (off := -95) (tgt := 36) hX (by decide +kernel) (by decide +kernel) ?_
    exact J_sub [1, 2, 0] _ rfl (hk36 (v2 + 2) μ)
  · refine J_aload_n (k0 := 0) (pc := 55) 0 hX (by decide +kernel) rfl rfl ?_
    refine J_gr (pc := 56) hX (by decide +kernel) fl_Mo_86 hL.1 rfl hL.2.2.2.2.2.2.2.2.2.2.2.2.2.2.2.2.2.2.2.2.2.2.2.2.2.1.1 ?_
    refine J_iload_n (k0 := 2) (pc := 59) 2 hX (by decide +kernel) rfl rfl ?_
    refine J_aload_n (k0 := 0) (pc := 60) 0 hX (by decide +kernel) rfl rfl ?_
    refine J_aload_n (k0 := 0) (pc := 61) 0 hX (by decide +kernel) rfl rfl ?_
    refine J_gr (pc := 62) hX (by decide +kernel) fl_Mo_86 hL.1 rfl hL.2.2.2.2.2.2.2.2.2.2.2.2.2.2.2.2.2.2.2.2.2.2.2.2.2.1.1 ?_
    refine J_iload_n (k0 := 2) (pc := 65) 2 hX (by decide +kernel) rfl rfl ?_
    refine J_ldA (pc := 66) hX (by decide +kernel) hL.2.2.2.2.2.2.2.2.2.2.2.2.2.2.2.2.2.2.2.2.2.2.2.2.2.1.2 (fun x1 => ?_)
    refine J_aload_n (k0 := 0) (pc := 67) 0 hX (by decide +kernel) rfl rfl ?_
    refine J_aload_n (k0 := 0) (pc := 68) 0 hX (by decide +kernel) rfl rfl ?_
    refine J_gr (pc := 69) hX (by decide +kernel) fl_Mo_86 hL.1 rfl hL.2.2.2.2.2.2.2.2.2.2.2.2.2.2.2.2.2.2.2.2.2.2.2.2.2.1.1 ?_
    refine J_iload_n (k0 := 2) (pc := 72) 2 hX (by decide +kernel) rfl rfl ?_
    refine J_iload_n (k0 := 3) (pc := 73) 3 hX (by decide +kernel) rfl rfl ?_
    refine J_isub (pc := 74) hX (by decide +kernel) ?_
    refine J_ldA (pc := 75) hX (by decide +kernel) hL.2.2.2.2.2.2.2.2.2.2.2.2.2.2.2.2.2.2.2.2.2.2.2.2.2.1.2 (fun x2 => ?_)
    refine J_aload_n (k0 := 0) (pc := 76) 0 hX (by decide +kernel) rfl rfl ?_
    refine J_gr (pc := 77) hX (by decide +kernel) fl_Mo_86 hL.1 rfl hL.2.2.2.2.2.2.2.2.2.2.2.2.2.2.2.2.2.2.2.2.2.2.2.2.2.1.1 ?_
    refine J_iload_n (k0 := 2) (pc := 80) 2 hX (by decide +kernel) rfl rfl ?_
    refine J_iload_n (k0 := 3) (pc := 81) 3 hX (by decide +kernel) rfl rfl ?_
    refine J_isub (pc := 82) hX (by decide +kernel) ?_
    refine J_ldA (pc := 83) hX (by decide +kernel) hL.2.2.2.2.2.2.2.2.2.2.2.2.2.2.2.2.2.2.2.2.2.2.2.2.2.1.2 (fun x3 => ?_)
    refine J_cVi (pc := 84) (idx := 456) [.int x2, .int x3] hX (by decide +kernel) (mq mt_8 160 (by decide +kernel)) mv_Mo_added hL.1 rfl rfl (Nat.le_of_ble_eq_true rfl) (Nat.le_of_ble_eq_true rfl) (c_Mo_added hL x2 x3 μ) (fun x5 μ4 => ?_)
    refine J_cVi (pc := 87) (idx := 456) [.int x1, .int x5] hX (by decide +kernel) (mq mt_8 160 (by decide +kernel)) mv_Mo_added hL.1 rfl rfl (Nat.le_of_ble_eq_true rfl) (Nat.le_of_ble_eq_true rfl) (c_Mo_added hL x1 x5 μ4) (fun x7 μ6 => ?_)
    refine J_stA (pc := 90) hX (by decide +kernel) hL.2.2.2.2.2.2.2.2.2.2.2.2.2.2.2.2.2.2.2.2.2.2.2.2.2.1.2 (fun μ8 => ?_)
    refine J_iload_n (k0 := 3) (pc := 91) 3 hX (by decide +kernel) rfl rfl ?_
    refine J_iconst (pc := 92) (n := 2) (v := 2) hX (by decide +kernel) (by decide +kernel) ?_
    refine J_icmp_ne (pc := 93) (off := 27) (tgt := 120) hX (by decide +kernel) (by decide +kernel) (fun _ => ?_) (fun _ => ?_)
    · exact J_sub [0, 1, 2, 3] _ rfl (jMo_slabs_120 hL hX v1 v2 v3 hk36 hk50 μ8)
    · refine J_aload_n (k0 := 0) (pc := 96) 0 hX (by decide +kernel) rfl rfl ?_
      refine J_gr (pc := 97) hX (by decide +kernel) fl_Mo_86 hL.1 rfl hL.2.2.2.2.2.2.2.2.2.2.2.2.2.2.2.2.2.2.2.2.2.2.2.2.2.1.1 ?_
      refine J_iload_n (k0 := 2) (pc := 100) 2 hX (by decide +kernel) rfl rfl ?_
      refine J_aload_n (k0 := 0) (pc := 101) 0 hX (by decide +kernel) rfl rfl ?_
      refine J_aload_n (k0 := 0) (pc := 102) 0 hX (by decide +kernel) rfl rfl ?_
      refine J_gr (pc := 103) hX (by decide +kernel) fl_Mo_86 hL.1 rfl hL.2.2.2.2.2.2.2.2.2.2.2.2.2.2.2.2.2.2.2.2.2.2.2.2.2.1.1 ?_
      refine J_iload_n (k0 := 2) (pc := 106) 2 hX (by decide +kernel) rfl rfl ?_
      refine J_ldA (pc := 107) hX (by decide +kernel) hL.2.2.2.2.2.2.2.2.2.2.2.2.2.2.2.2.2.2.2.2.2.2.2.2.2.1.2 (fun x9 => ?_)
      refine J_aload_n (k0 := 0) (pc := 108) 0 hX (by decide +kernel) rfl rfl ?_
      refine J_gr (pc := 109) hX (by decide +kernel) fl_Mo_86 hL.1 rfl hL.2.2.2.2.2.2.2.2.2.2.2.2.2.2.2.2.2.2.2.2.2.2.2.2.2.1.1 ?_
      refine J_iload_n (k0 := 2) (pc := 112) 2 hX (by decide +kernel) rfl rfl ?_
      refine J_iconst (pc := 113) (n := 2) (v := 2) hX (by decide +kernel) (by decide +kernel) ?_
      refine J_isub (pc := 114) hX (by decide +kernel) ?_
      refine J_ldA (pc := 115) hX (by decide +kernel) hL.2.2.2.2.2.2.2.2.2.2.2.2.2.2.2.2.2.2.2.2.2.2.2.2.2.1.2 (fun x10 => ?_)
      refine J_cVi (pc := 116) (idx := 456) [.int x9, .int x10] hX (by decide +kernel) (mq mt_8 160 (by decide +kernel)) mv_Mo_added hL.1 rfl rfl (Nat.le_of_ble_eq_true rfl) (Nat.le_of_ble_eq_true rfl) (c_Mo_added hL x9 x10 μ8) (fun x12 μ11 => ?_)
      refine J_stA (pc := 119) hX (by decide +kernel) hL.2.2.2.2.2.2.2.2.2.2.2.2.2.2.2.2.2.2.2.2.2.2.2.2.2.1.2 (fun μ13 => ?_)
      exact J_sub [0, 1, 2, 3] _ rfl (jMo_slabs_120 hL hX v1 v2 v3 hk36 hk50 μ13)
set_option maxRecDepth 100000 in
set_option maxHeartbeats 4000000 in
theorem jMo_slabs_50 {X : Cx} {l : Launch} {G : Gx} {y : Ly} {a : Nat} (hL : LyMo y a ) (hX : Ok X l G prog_13_method_111_code 4 (some .int) "SaltFiguresModel") (v1 : Int32) (v2 : Int32) {kb36 : Int32 → Mu → Option (Int32 × Mu)} (hk36 : ∀ (v2 : Int32) (μ : Mu), J X G 4 2 y (emy y) rvI tpT 36 [(0, .ref (G.1 + a)), (1, .int v1), (2, .int v2)] [] (μ, y) (kb36 v2 μ)) : ∀ (fu : Nat) (v3 : Int32) (μ : Mu), J X G 4 2 y (emy y) rvI tpT 50 [(0, .ref (G.1 + a)), (1, .int v1), (2, .int v2), (3, .int v3)] [] (μ, y) (Mo_slabs_50 a kb36 v1 v2 fu v3 μ) := by
  intro fu
  induction fu with
  | zero => intros; exact J_none
  | succ fu ih => intro v3 μ; exact jMo_slabs_50b hL hX v1 v2 hk36 ih v3 μ
set_option maxRecDepth 100000 in
set_option maxHeartbeats 4000000 in
theorem jMo_slabs_36b {X : Cx} {l : Launch} {G : Gx} {y : Ly} {a : Nat} (hL : LyMo y a ) (hX : Ok X l G prog_13_method_111_code 4 (some .int) "SaltFiguresModel") (v1 : Int32)  {kb36 : Int32 → Mu → Option (Int32 × Mu)}  (hk36 : ∀ (v2 : Int32) (μ : Mu), J X G 4 2 y (emy y) rvI tpT 36 [(0, .ref (G.1 + a)), (1, .int v1), (2, .int v2)] [] (μ, y) (kb36 v2 μ)) (v2 : Int32)  (μ : Mu) : J X G 4 2 y (emy y) rvI tpT 36 [(0, .ref (G.1 + a)), (1, .int v1), (2, .int v2)] [] (μ, y) (Mo_slabs_36b a  kb36 v1 v2  μ) := by
  unfold Mo_slabs_36b
  refine J_iload_n (k0 := 2) (pc := 36) 2 hX (by decide +kernel) rfl rfl ?_
  refine J_iload_n (k0 := 1) (pc := 37) 1 hX (by decide +kernel) rfl rfl ?_
  refine J_icmp_gt (pc := 38) (off := 96) (tgt := 134) hX (by decide +kernel) (by decide +kernel) (fun _ => ?_) (fun _ => ?_)
  · refine J_aload_n (k0 := 0) (pc := 134) 0 hX (by decide +kernel) rfl rfl ?_
    refine J_gr (pc := 135) hX (by decide +kernel) fl_Mo_86 hL.1 rfl hL.2.2.2.2.2.2.2.2.2.2.2.2.2.2.2.2.2.2.2.2.2.2.2.2.2.1.1 ?_
    refine J_iload_n (k0 := 1) (pc := 138) 1 hX (by decide +kernel) rfl rfl ?_
    refine J_ldA (pc := 139) hX (by decide +kernel) hL.2.2.2.2.2.2.2.2.2.2.2.2.2.2.2.2.2.2.2.2.2.2.2.2.2.1.2 (fun x1 => ?_)
    exact J_iret (pc := 140) hX (by decide +kernel) rfl trivial
  · refine J_aload_n (k0 := 0) (pc := 41) 0 hX (by decide +kernel) rfl rfl ?_
    refine J_gr (pc := 42) hX (by decide +kernel) fl_Mo_86 hL.1 rfl hL.2.2.2.2.2.2.2.2.2.2.2.2.2.2.2.2.2.2.2.2.2.2.2.2.2.1.1 ?_
    refine J_iload_n (k0 := 2) (pc := 45) 2 hX (by decide +kernel) rfl rfl ?_
    refine J_iconst (pc := 46) (n := 0) (v := 0) hX (by decide +kernel) (by decide +kernel) ?_
    refine J_stA (pc := 47) hX (by decide +kernel) hL.2.2.2.2.2.2.2.2.2.2.2.2.2.2.2.2.2.2.2.2.2.2.2.2.2.1.2 (fun μ2 => ?_)
    refine J_iconst (pc := 48) (n := 2) (v := 2) hX (by decide +kernel) (by decide +kernel) ?_
    refine J_istore_n (k0 := 3) (pc := 49) [(3, .int 2), (0, .ref (G.1 + a)), (1, .int v1), (2, .int v2)] hX (by decide +kernel) rfl (by decide) rfl ?_
    exact J_sub [1, 2, 3, 0] _ rfl (jMo_slabs_50 hL hX v1 v2 hk36 FU 2 μ2)
set_option maxRecDepth 100000 in
set_option maxHeartbeats 4000000 in
theorem jMo_slabs_36 {X : Cx} {l : Launch} {G : Gx} {y : Ly} {a : Nat} (hL : LyMo y a ) (hX : Ok X l G prog_13_method_111_code 4 (some .int) "SaltFiguresModel") (v1 : Int32)   : ∀ (fu : Nat) (v2 : Int32) (μ : Mu), J X G 4 2 y (emy y) rvI tpT 36 [(0, .ref (G.1 + a)), (1, .int v1), (2, .int v2)] [] (μ, y) (Mo_slabs_36 a  v1 fu v2 μ) := by
  intro fu
  induction fu with
  | zero => intros; exact J_none
  | succ fu ih => intro v2 μ; exact jMo_slabs_36b hL hX v1  ih v2 μ
set_option maxRecDepth 100000 in
set_option maxHeartbeats 4000000 in
theorem jMo_slabs {X : Cx} {l : Launch} {G : Gx} {y : Ly} {a : Nat} (hL : LyMo y a ) (hX : Ok X l G prog_13_method_111_code 4 (some .int) "SaltFiguresModel") (v1 : Int32) (μ : Mu) : J X G 4 2 y (emy y) rvI tpT 0 [(0, .ref (G.1 + a)), (1, .int v1)] [] (μ, y) (Mo_slabs a v1 μ) := by
  unfold Mo_slabs
  refine J_aload_n (k0 := 0) (pc := 0) 0 hX (by decide +kernel) rfl rfl ?_
  refine J_iconst (pc := 1) (n := 0) (v := 0) hX (by decide +kernel) (by decide +kernel) ?_
  refine J_pF (pc := 2) hX (by decide +kernel) fl_Mo_131 hL.1 rfl (fun μ1 => ?_)
  refine J_aload_n (k0 := 0) (pc := 5) 0 hX (by decide +kernel) rfl rfl ?_
  refine J_iload_n (k0 := 1) (pc := 6) 1 hX (by decide +kernel) rfl rfl ?_
  refine J_iconst (pc := 7) (n := 0) (v := 0) hX (by decide +kernel) (by decide +kernel) ?_
  refine J_bipush (pc := 8) (n := 40) (v := 40) hX (by decide +kernel) (by decide +kernel) ?_
  refine J_cVi (pc := 10) (idx := 154) [.int v1, .int 0, .int 40] hX (by decide +kernel) (mq mt_6 226 (by decide +kernel)) mv_Mo_isIn hL.1 rfl rfl (Nat.le_of_ble_eq_true rfl) (Nat.le_of_ble_eq_true rfl) (c_Mo_isIn hL v1 0 40 μ1) (fun x3 μ2 => ?_)
  refine J_if_ne (pc := 13) (off := 5) (tgt := 18) hX (by decide +kernel) (by decide +kernel) (fun _ => ?_) (fun _ => ?_)
  · refine J_iload_n (k0 := 1) (pc := 18) 1 hX (by decide +kernel) rfl rfl ?_
    refine J_iconst (pc := 19) (n := 2) (v := 2) hX (by decide +kernel) (by decide +kernel) ?_
    refine J_iremK (pc := 20) hX (by decide +kernel) (by decide +kernel) ?_
    refine J_iconst (pc := 21) (n := 1) (v := 1) hX (by decide +kernel) (by decide +kernel) ?_
    refine J_icmp_ne (pc := 22) (off := 5) (tgt := 27) hX (by decide +kernel) (by decide +kernel) (fun _ => ?_) (fun _ => ?_)
    · refine J_aload_n (k0 := 0) (pc := 27) 0 hX (by decide +kernel) rfl rfl ?_
      refine J_gr (pc := 28) hX (by decide +kernel) fl_Mo_86 hL.1 rfl hL.2.2.2.2.2.2.2.2.2.2.2.2.2.2.2.2.2.2.2.2.2.2.2.2.2.1.1 ?_
      refine J_iconst (pc := 31) (n := 0) (v := 0) hX (by decide +kernel) (by decide +kernel) ?_
      refine J_iconst (pc := 32) (n := 1) (v := 1) hX (by decide +kernel) (by decide +kernel) ?_
      refine J_stA (pc := 33) hX (by decide +kernel) hL.2.2.2.2.2.2.2.2.2.2.2.2.2.2.2.2.2.2.2.2.2.2.2.2.2.1.2 (fun μ4 => ?_)
      refine J_iconst (pc := 34) (n := 2) (v := 2) hX (by decide +kernel) (by decide +kernel) ?_
      refine J_istore_n (k0 := 2) (pc := 35) [(2, .int 2), (0, .ref (G.1 + a)), (1, .int v1)] hX (by decide +kernel) rfl (by decide) rfl ?_
      exact J_sub [1, 2, 0] _ rfl (jMo_slabs_36 hL hX v1 FU 2 μ4)
    · refine J_iconst (pc := 25) (n := 0) (v := 0) hX (by decide +kernel) (by decide +kernel) ?_
      exact J_iret (pc := 26) hX (by decide +kernel) rfl trivial
  · refine J_iconst (pc := 16) (n := -1) (v := (-1)) hX (by decide +kernel) (by decide +kernel) ?_
    exact J_iret (pc := 17) hX (by decide +kernel) rfl trivial
set_option maxRecDepth 100000 in
set_option maxHeartbeats 4000000 in
theorem c_Mo_slabs {l : Launch} {G : Gx} {y : Ly} {a : Nat} (hL : LyMo y a ) (v1 : Int32) (μ : Mu) : Cn l G ⟨"SaltFiguresModel", "slabs", "(I)I"⟩ prog_13_method_111_code 4 (some .int) 2 [.ref (G.1 + a), .int v1] (μ, y) (emy y) rvI tpT (Mo_slabs a v1 μ) := cn_of (by decide +kernel) (Nat.le_of_ble_eq_true rfl) (fun _ _ _ => ⟨List.prefix_refl _, trivial⟩) (fun X hX _ => jMo_slabs hL hX v1 μ)

def Mo_stage_32b (a : Nat)  (kb32 : Int32 → Mu → Option (Int32 × Mu)) (v1 : Int32) (v2 : Int32)  (μ : Mu) : Option (Int32 × Mu) := gF μ a 55 (fun x1 => (if x1 ≤ v2 then gF μ a 55 (fun x2 => (if x2 = 6 then some ((-1), μ) else gF μ a 55 (fun x3 => stA μ (a + 32) 6 x3 v1 (fun μ4 => gF μ4 a 55 (fun x5 => pF μ4 a 55 (x5 + 1) (fun μ6 => gF μ6 a 55 (fun x7 => some (x7, μ6)))))))) else ldA μ (a + 32) 6 v2 (fun x8 => (if x8 = v1 then gF μ a 55 (fun x9 => some (x9, μ)) else kb32 (v2 + 1) μ))))
def Mo_stage_32 (a : Nat)  (v1 : Int32) (fu : Nat) : Int32 → Mu → Option (Int32 × Mu) := lp (fun kb => Mo_stage_32b a  kb v1) (fun _ _ => none) fu
def Mo_stage (a : Nat) (v1 : Int32) (μ : Mu) : Option (Int32 × Mu) := pF μ a 0 0 (fun μ1 => (if v1 = ((-1)) then pF μ1 a 55 0 (fun μ4 => some (0, μ4)) else cl (Mo_isIn a v1 1 20 μ1) (fun x3 μ2 => (if x3 = 0 then some ((-1), μ2) else Mo_stage_32 a v1 FU 0 μ2))))
set_option maxRecDepth 100000 in
set_option maxHeartbeats 4000000 in
theorem jMo_stage_32b {X : Cx} {l : Launch} {G : Gx} {y : Ly} {a : Nat} (hL : LyMo y a ) (hX : Ok X l G prog_13_method_121_code 3 (some .int) "SaltFiguresModel") (v1 : Int32)  {kb32 : Int32 → Mu → Option (Int32 × Mu)}  (hk32 : ∀ (v2 : Int32) (μ : Mu), J X G 3 2 y (emy y) rvI tpT 32 [(0, .ref (G.1 + a)), (1, .int v1), (2, .int v2)] [] (μ, y) (kb32 v2 μ)) (v2 : Int32)  (μ : Mu) : J X G 3 2 y (emy y) rvI tpT 32 [(0, .ref (G.1 + a)), (1, .int v1), (2, .int v2)] [] (μ, y) (Mo_stage_32b a  kb32 v1 v2  μ) := by
  unfold Mo_stage_32b
  refine J_iload_n (k0 := 2) (pc := 32) 2 hX (by decide +kernel) rfl rfl ?_
  refine J_aload_n (k0 := 0) (pc := 33) 0 hX (by decide +kernel) rfl rfl ?_
  refine J_gF (pc := 34) hX (by decide +kernel) fl_Mo_474 hL.1 rfl (fun x1 => ?_)
  refine J_icmp_ge (pc := 37) (off := 24) (tgt := 61) hX (by decide +kernel) (by decide +kernel) (fun _ => ?_) (fun _ => ?_)
  · refine J_aload_n (k0 := 0) (pc := 61) 0 hX (by decide +kernel) rfl rfl ?_
    refine J_gF (pc := 62) hX (by decide +kernel) fl_Mo_474 hL.1 rfl (fun x2 => ?_)
    refine J_bipush (pc := 65) (n := 6) (v := 6) hX (by decide +kernel) (by decide +kernel) ?_
    refine J_icmp_ne (pc := 67) (off := 5) (tgt := 72) hX (by decide +kernel) (by decide +kernel) (fun _ => ?_) (fun _ => ?_)
    · refine J_aload_n (k0 := 0) (pc := 72) 0 hX (by decide +kernel) rfl rfl ?_
      refine J_gr (pc := 73) hX (by decide +kernel) fl_Mo_107 hL.1 rfl hL.2.2.2.2.2.2.2.2.2.2.2.2.2.2.2.2.2.2.2.2.2.2.2.2.2.2.2.2.2.2.2.2.1.1 ?_
      refine J_aload_n (k0 := 0) (pc := 76) 0 hX (by decide +kernel) rfl rfl ?_
      refine J_gF (pc := 77) hX (by decide +kernel) fl_Mo_474 hL.1 rfl (fun x3 => ?_)
      refine J_iload_n (k0 := 1) (pc := 80) 1 hX (by decide +kernel) rfl rfl ?_
      refine J_stA (pc := 81) hX (by decide +kernel) hL.2.2.2.2.2.2.2.2.2.2.2.2.2.2.2.2.2.2.2.2.2.2.2.2.2.2.2.2.2.2.2.2.1.2 (fun μ4 => ?_)
      refine J_aload_n (k0 := 0) (pc := 82) 0 hX (by decide +kernel) rfl rfl ?_
      refine J_aload_n (k0 := 0) (pc := 83) 0 hX (by decide +kernel) rfl rfl ?_
      refine J_gF (pc := 84) hX (by decide +kernel) fl_Mo_474 hL.1 rfl (fun x5 => ?_)
      refine J_iconst (pc := 87) (n := 1) (v := 1) hX (by decide +kernel) (by decide +kernel) ?_
      refine J_iadd (pc := 88) hX (by decide +kernel) ?_
      refine J_pF (pc := 89) hX (by decide +kernel) fl_Mo_474 hL.1 rfl (fun μ6 => ?_)
      refine J_aload_n (k0 := 0) (pc := 92) 0 hX (by decide +kernel) rfl rfl ?_
      refine J_gF (pc := 93) hX (by decide +kernel) fl_Mo_474 hL.1 rfl (fun x7 => ?_)
      exact J_iret (pc := 96) hX (by decide +kernel) rfl trivial
    · refine J_iconst (pc := 70) (n := -1) (v := (-1)) hX (by decide +kernel) (by decide +kernel) ?_
      exact J_iret (pc := 71) hX (by decide +kernel) rfl trivial
  · refine J_aload_n (k0 := 0) (pc := 40) 0 hX (by decide +kernel) rfl rfl ?_
    refine J_gr (pc := 41) hX (by decide +kernel) fl_Mo_107 hL.1 rfl hL.2.2.2.2.2.2.2.2.2.2.2.2.2.2.2.2.2.2.2.2.2.2.2.2.2.2.2.2.2.2.2.2.1.1 ?_
    refine J_iload_n (k0 := 2) (pc := 44) 2 hX (by decide +kernel) rfl rfl ?_
    refine J_ldA (pc := 45) hX (by decide +kernel) hL.2.2.2.2.2.2.2.2.2.2.2.2.2.2.2.2.2.2.2.2.2.2.2.2.2.2.2.2.2.2.2.2.1.2 (fun x8 => ?_)
    refine J_iload_n (k0 := 1) (pc := 46) 1 hX (by decide +kernel) rfl rfl ?_
    refine J_icmp_ne (pc := 47) (off := 8) (tgt := 55) hX (by decide +kernel) (by decide +kernel) (fun _ => ?_) (fun _ => ?_)
    · refine J_iinc (pc := 55) (n := 1) 2 [(2, .int (v2 + 1)), (0, .ref (G.1 + a)), (1, .int v1)] hX (by decide +kernel) rfl rfl (by decide) rfl ?_
      refine J_goto (pc := 58) (off := -26) (tgt := 32) hX (by decide +kernel) (by decide +kernel) ?_
      exact J_sub [1, 2, 0] _ rfl (hk32 (v2 + 1) μ)
    · refine J_aload_n (k0 := 0) (pc := 50) 0 hX (by decide +kernel) rfl rfl ?_
      refine J_gF (pc := 51) hX (by decide +kernel) fl_Mo_474 hL.1 rfl (fun x9 => ?_)
      exact J_iret (pc := 54) hX (by decide +kernel) rfl trivial
set_option maxRecDepth 100000 in
set_option maxHeartbeats 4000000 in
theorem jMo_stage_32 {X : Cx} {l : Launch} {G : Gx} {y : Ly} {a : Nat} (hL : LyMo y a ) (hX : Ok X l G prog_13_method_121_code 3 (some .int) "SaltFiguresModel") (v1 : Int32)   : ∀ (fu : Nat) (v2 : Int32) (μ : Mu), J X G 3 2 y (emy y) rvI tpT 32 [(0, .ref (G.1 + a)), (1, .int v1), (2, .int v2)] [] (μ, y) (Mo_stage_32 a  v1 fu v2 μ) := by
  intro fu
  induction fu with
  | zero => intros; exact J_none
  | succ fu ih => intro v2 μ; exact jMo_stage_32b hL hX v1  ih v2 μ
set_option maxRecDepth 100000 in
set_option maxHeartbeats 4000000 in
theorem jMo_stage {X : Cx} {l : Launch} {G : Gx} {y : Ly} {a : Nat} (hL : LyMo y a ) (hX : Ok X l G prog_13_method_121_code 3 (some .int) "SaltFiguresModel") (v1 : Int32) (μ : Mu) : J X G 3 2 y (emy y) rvI tpT 0 [(0, .ref (G.1 + a)), (1, .int v1)] [] (μ, y) (Mo_stage a v1 μ) := by
  unfold Mo_stage
  refine J_aload_n (k0 := 0) (pc := 0) 0 hX (by decide +kernel) rfl rfl ?_
  refine J_iconst (pc := 1) (n := 0) (v := 0) hX (by decide +kernel) (by decide +kernel) ?_
  refine J_pF (pc := 2) hX (by decide +kernel) fl_Mo_131 hL.1 rfl (fun μ1 => ?_)
  refine J_iload_n (k0 := 1) (pc := 5) 1 hX (by decide +kernel) rfl rfl ?_
  refine J_iconst (pc := 6) (n := -1) (v := (-1)) hX (by decide +kernel) (by decide +kernel) ?_
  refine J_icmp_ne (pc := 7) (off := 10) (tgt := 17) hX (by decide +kernel) (by decide +kernel) (fun _ => ?_) (fun _ => ?_)
  · refine J_aload_n (k0 := 0) (pc := 17) 0 hX (by decide +kernel) rfl rfl ?_
    refine J_iload_n (k0 := 1) (pc := 18) 1 hX (by decide +kernel) rfl rfl ?_
    refine J_iconst (pc := 19) (n := 1) (v := 1) hX (by decide +kernel) (by decide +kernel) ?_
    refine J_bipush (pc := 20) (n := 20) (v := 20) hX (by decide +kernel) (by decide +kernel) ?_
    refine J_cVi (pc := 22) (idx := 154) [.int v1, .int 1, .int 20] hX (by decide +kernel) (mq mt_6 226 (by decide +kernel)) mv_Mo_isIn hL.1 rfl rfl (Nat.le_of_ble_eq_true rfl) (Nat.le_of_ble_eq_true rfl) (c_Mo_isIn hL v1 1 20 μ1) (fun x3 μ2 => ?_)
    refine J_if_ne (pc := 25) (off := 5) (tgt := 30) hX (by decide +kernel) (by decide +kernel) (fun _ => ?_) (fun _ => ?_)
    · refine J_iconst (pc := 30) (n := 0) (v := 0) hX (by decide +kernel) (by decide +kernel) ?_
      refine J_istore_n (k0 := 2) (pc := 31) [(2, .int 0), (0, .ref (G.1 + a)), (1, .int v1)] hX (by decide +kernel) rfl (by decide) rfl ?_
      exact J_sub [1, 2, 0] _ rfl (jMo_stage_32 hL hX v1 FU 0 μ2)
    · refine J_iconst (pc := 28) (n := -1) (v := (-1)) hX (by decide +kernel) (by decide +kernel) ?_
      exact J_iret (pc := 29) hX (by decide +kernel) rfl trivial
  · refine J_aload_n (k0 := 0) (pc := 10) 0 hX (by decide +kernel) rfl rfl ?_
    refine J_iconst (pc := 11) (n := 0) (v := 0) hX (by decide +kernel) (by decide +kernel) ?_
    refine J_pF (pc := 12) hX (by decide +kernel) fl_Mo_474 hL.1 rfl (fun μ4 => ?_)
    refine J_iconst (pc := 15) (n := 0) (v := 0) hX (by decide +kernel) (by decide +kernel) ?_
    exact J_iret (pc := 16) hX (by decide +kernel) rfl trivial
set_option maxRecDepth 100000 in
set_option maxHeartbeats 4000000 in
theorem c_Mo_stage {l : Launch} {G : Gx} {y : Ly} {a : Nat} (hL : LyMo y a ) (v1 : Int32) (μ : Mu) : Cn l G ⟨"SaltFiguresModel", "stage", "(I)I"⟩ prog_13_method_121_code 3 (some .int) 2 [.ref (G.1 + a), .int v1] (μ, y) (emy y) rvI tpT (Mo_stage a v1 μ) := cn_of (by decide +kernel) (Nat.le_of_ble_eq_true rfl) (fun _ _ _ => ⟨List.prefix_refl _, trivial⟩) (fun X hX _ => jMo_stage hL hX v1 μ)

def Mo_state (a : Nat) (v1 : Int32) (μ : Mu) : Option (Int32 × Mu) := pF μ a 0 0 (fun μ1 => ldA μ1 (a + 1) 118 1 (fun x2 => stA μ1 (a + 1) 118 1 v1 (fun μ3 => pF μ3 a 3 0 (fun μ4 => some (x2, μ4)))))
set_option maxRecDepth 100000 in
set_option maxHeartbeats 4000000 in
theorem jMo_state {X : Cx} {l : Launch} {G : Gx} {y : Ly} {a : Nat} (hL : LyMo y a ) (hX : Ok X l G prog_13_method_14_code 3 (some .int) "SaltFiguresModel") (v1 : Int32) (μ : Mu) : J X G 3 1 y (emy y) rvI tpT 0 [(0, .ref (G.1 + a)), (1, .int v1)] [] (μ, y) (Mo_state a v1 μ) := by
  unfold Mo_state
  refine J_aload_n (k0 := 0) (pc := 0) 0 hX (by decide +kernel) rfl rfl ?_
  refine J_iconst (pc := 1) (n := 0) (v := 0) hX (by decide +kernel) (by decide +kernel) ?_
  refine J_pF (pc := 2) hX (by decide +kernel) fl_Mo_131 hL.1 rfl (fun μ1 => ?_)
  refine J_aload_n (k0 := 0) (pc := 5) 0 hX (by decide +kernel) rfl rfl ?_
  refine J_gr (pc := 6) hX (by decide +kernel) fl_Mo_7 hL.1 rfl hL.2.1.1 ?_
  refine J_iconst (pc := 9) (n := 1) (v := 1) hX (by decide +kernel) (by decide +kernel) ?_
  refine J_ldA (pc := 10) hX (by decide +kernel) hL.2.1.2 (fun x2 => ?_)
  refine J_istore_n (k0 := 2) (pc := 11) [(2, .int x2), (0, .ref (G.1 + a)), (1, .int v1)] hX (by decide +kernel) rfl (by decide) rfl ?_
  refine J_aload_n (k0 := 0) (pc := 12) 1 hX (by decide +kernel) rfl rfl ?_
  refine J_gr (pc := 13) hX (by decide +kernel) fl_Mo_7 hL.1 rfl hL.2.1.1 ?_
  refine J_iconst (pc := 16) (n := 1) (v := 1) hX (by decide +kernel) (by decide +kernel) ?_
  refine J_iload_n (k0 := 1) (pc := 17) 2 hX (by decide +kernel) rfl rfl ?_
  refine J_stA (pc := 18) hX (by decide +kernel) hL.2.1.2 (fun μ3 => ?_)
  refine J_aload_n (k0 := 0) (pc := 19) 1 hX (by decide +kernel) rfl rfl ?_
  refine J_iconst (pc := 20) (n := 0) (v := 0) hX (by decide +kernel) (by decide +kernel) ?_
  refine J_pF (pc := 21) hX (by decide +kernel) fl_Mo_135 hL.1 rfl (fun μ4 => ?_)
  refine J_iload_n (k0 := 2) (pc := 24) 0 hX (by decide +kernel) rfl rfl ?_
  exact J_iret (pc := 25) hX (by decide +kernel) rfl trivial
set_option maxRecDepth 100000 in
set_option maxHeartbeats 4000000 in
theorem c_Mo_state {l : Launch} {G : Gx} {y : Ly} {a : Nat} (hL : LyMo y a ) (v1 : Int32) (μ : Mu) : Cn l G ⟨"SaltFiguresModel", "state", "(I)I"⟩ prog_13_method_14_code 3 (some .int) 1 [.ref (G.1 + a), .int v1] (μ, y) (emy y) rvI tpT (Mo_state a v1 μ) := cn_of (by decide +kernel) (Nat.le_of_ble_eq_true rfl) (fun _ _ _ => ⟨List.prefix_refl _, trivial⟩) (fun X hX _ => jMo_state hL hX v1 μ)

def Mo_switches_41b (a : Nat)  (kb41 : Int32 → Mu → Option (Int32 × Mu)) (v1 : Int32) (v3 : Int32)  (μ : Mu) : Option (Int32 × Mu) := (if (v3 ^^^ (jshr v3 1)) = v1 then some (v3, μ) else kb41 (v3 + 1) μ)
def Mo_switches_41 (a : Nat)  (v1 : Int32) (fu : Nat) : Int32 → Mu → Option (Int32 × Mu) := lp (fun kb => Mo_switches_41b a  kb v1) (fun _ _ => none) fu
def Mo_switches (a : Nat) (v1 : Int32) (v2 : Int32) (μ : Mu) : Option (Int32 × Mu) := pF μ a 0 0 (fun μ1 => cl (Mo_isIn a v1 0 1023 μ1) (fun x3 μ2 => (if x3 = 0 then some ((-1), μ2) else cl (Mo_isIn a v2 0 1 μ2) (fun x5 μ4 => (if x5 = 0 then some ((-1), μ4) else (if v2 = 0 then some (v1 ^^^ (jshr v1 1), μ4) else Mo_switches_41 a v1 FU 0 μ4))))))
set_option maxRecDepth 100000 in
set_option maxHeartbeats 4000000 in
theorem jMo_switches_41b {X : Cx} {l : Launch} {G : Gx} {y : Ly} {a : Nat} (hL : LyMo y a ) (hX : Ok X l G prog_13_method_120_code 4 (some .int) "SaltFiguresModel") (v1 : Int32)  {kb41 : Int32 → Mu → Option (Int32 × Mu)}  (hk41 : ∀ (v3 : Int32) (μ : Mu), J X G 4 2 y (emy y) rvI tpT 41 [(1, .int v1), (3, .int v3)] [] (μ, y) (kb41 v3 μ)) (v3 : Int32)  (μ : Mu) : J X G 4 2 y (emy y) rvI tpT 41 [(1, .int v1), (3, .int v3)] [] (μ, y) (Mo_switches_41b a  kb41 v1 v3  μ) := by
  unfold Mo_switches_41b
  refine J_iload_n (k0 := 3) (pc := 41) 1 hX (by decide +kernel) rfl rfl ?_
  refine J_iload_n (k0 := 3) (pc := 42) 1 hX (by decide +kernel) rfl rfl ?_
  refine J_iconst (pc := 43) (n := 1) (v := 1) hX (by decide +kernel) (by decide +kernel) ?_
  refine J_ishr (pc := 44) hX (by decide +kernel) ?_
  refine J_ixor (pc := 45) hX (by decide +kernel) ?_
  refine J_iload_n (k0 := 1) (pc := 46) 0 hX (by decide +kernel) rfl rfl ?_
  refine J_icmp_eq (pc := 47) (off := 10) (tgt := 57) hX (by decide +kernel) (by decide +kernel) (fun _ => ?_) (fun _ => ?_)
  · refine J_iload_n (k0 := 3) (pc := 57) 1 hX (by decide +kernel) rfl rfl ?_
    exact J_iret (pc := 58) hX (by decide +kernel) rfl trivial
  · refine J_iload_n (k0 := 3) (pc := 50) 1 hX (by decide +kernel) rfl rfl ?_
    refine J_iconst (pc := 51) (n := 1) (v := 1) hX (by decide +kernel) (by decide +kernel) ?_
    refine J_iadd (pc := 52) hX (by decide +kernel) ?_
    refine J_istore_n (k0 := 3) (pc := 53) [(3, .int (v3 + 1)), (1, .int v1)] hX (by decide +kernel) rfl (by decide) rfl ?_
    refine J_goto (pc := 54) (off := -13) (tgt := 41) hX (by decide +kernel) (by decide +kernel) ?_
    exact J_sub [1, 0] _ rfl (hk41 (v3 + 1) μ)
set_option maxRecDepth 100000 in
set_option maxHeartbeats 4000000 in
theorem jMo_switches_41 {X : Cx} {l : Launch} {G : Gx} {y : Ly} {a : Nat} (hL : LyMo y a ) (hX : Ok X l G prog_13_method_120_code 4 (some .int) "SaltFiguresModel") (v1 : Int32)   : ∀ (fu : Nat) (v3 : Int32) (μ : Mu), J X G 4 2 y (emy y) rvI tpT 41 [(1, .int v1), (3, .int v3)] [] (μ, y) (Mo_switches_41 a  v1 fu v3 μ) := by
  intro fu
  induction fu with
  | zero => intros; exact J_none
  | succ fu ih => intro v3 μ; exact jMo_switches_41b hL hX v1  ih v3 μ
set_option maxRecDepth 100000 in
set_option maxHeartbeats 4000000 in
theorem jMo_switches {X : Cx} {l : Launch} {G : Gx} {y : Ly} {a : Nat} (hL : LyMo y a ) (hX : Ok X l G prog_13_method_120_code 4 (some .int) "SaltFiguresModel") (v1 : Int32) (v2 : Int32) (μ : Mu) : J X G 4 2 y (emy y) rvI tpT 0 [(0, .ref (G.1 + a)), (1, .int v1), (2, .int v2)] [] (μ, y) (Mo_switches a v1 v2 μ) := by
  unfold Mo_switches
  refine J_aload_n (k0 := 0) (pc := 0) 0 hX (by decide +kernel) rfl rfl ?_
  refine J_iconst (pc := 1) (n := 0) (v := 0) hX (by decide +kernel) (by decide +kernel) ?_
  refine J_pF (pc := 2) hX (by decide +kernel) fl_Mo_131 hL.1 rfl (fun μ1 => ?_)
  refine J_aload_n (k0 := 0) (pc := 5) 0 hX (by decide +kernel) rfl rfl ?_
  refine J_iload_n (k0 := 1) (pc := 6) 1 hX (by decide +kernel) rfl rfl ?_
  refine J_iconst (pc := 7) (n := 0) (v := 0) hX (by decide +kernel) (by decide +kernel) ?_
  refine J_sipush (pc := 8) (n := 1023) (v := 1023) hX (by decide +kernel) (by decide +kernel) ?_
  refine J_cVi (pc := 11) (idx := 154) [.int v1, .int 0, .int 1023] hX (by decide +kernel) (mq mt_6 226 (by decide +kernel)) mv_Mo_isIn hL.1 rfl rfl (Nat.le_of_ble_eq_true rfl) (Nat.le_of_ble_eq_true rfl) (c_Mo_isIn hL v1 0 1023 μ1) (fun x3 μ2 => ?_)
  refine J_if_eq (pc := 14) (off := 13) (tgt := 27) hX (by decide +kernel) (by decide +kernel) (fun _ => ?_) (fun _ => ?_)
  · refine J_iconst (pc := 27) (n := -1) (v := (-1)) hX (by decide +kernel) (by decide +kernel) ?_
    exact J_iret (pc := 28) hX (by decide +kernel) rfl trivial
  · refine J_aload_n (k0 := 0) (pc := 17) 0 hX (by decide +kernel) rfl rfl ?_
    refine J_iload_n (k0 := 2) (pc := 18) 2 hX (by decide +kernel) rfl rfl ?_
    refine J_iconst (pc := 19) (n := 0) (v := 0) hX (by decide +kernel) (by decide +kernel) ?_
    refine J_iconst (pc := 20) (n := 1) (v := 1) hX (by decide +kernel) (by decide +kernel) ?_
    refine J_cVi (pc := 21) (idx := 154) [.int v2, .int 0, .int 1] hX (by decide +kernel) (mq mt_6 226 (by decide +kernel)) mv_Mo_isIn hL.1 rfl rfl (Nat.le_of_ble_eq_true rfl) (Nat.le_of_ble_eq_true rfl) (c_Mo_isIn hL v2 0 1 μ2) (fun x5 μ4 => ?_)
    refine J_if_ne (pc := 24) (off := 5) (tgt := 29) hX (by decide +kernel) (by decide +kernel) (fun _ => ?_) (fun _ => ?_)
    · refine J_iload_n (k0 := 2) (pc := 29) 2 hX (by decide +kernel) rfl rfl ?_
      refine J_if_ne (pc := 30) (off := 9) (tgt := 39) hX (by decide +kernel) (by decide +kernel) (fun _ => ?_) (fun _ => ?_)
      · refine J_iconst (pc := 39) (n := 0) (v := 0) hX (by decide +kernel) (by decide +kernel) ?_
        refine J_istore_n (k0 := 3) (pc := 40) [(3, .int 0), (0, .ref (G.1 + a)), (1, .int v1), (2, .int v2)] hX (by decide +kernel) rfl (by decide) rfl ?_
        exact J_sub [2, 0] _ rfl (jMo_switches_41 hL hX v1 FU 0 μ4)
      · refine J_iload_n (k0 := 1) (pc := 33) 1 hX (by decide +kernel) rfl rfl ?_
        refine J_iload_n (k0 := 1) (pc := 34) 1 hX (by decide +kernel) rfl rfl ?_
        refine J_iconst (pc := 35) (n := 1) (v := 1) hX (by decide +kernel) (by decide +kernel) ?_
        refine J_ishr (pc := 36) hX (by decide +kernel) ?_
        refine J_ixor (pc := 37) hX (by decide +kernel) ?_
        exact J_iret (pc := 38) hX (by decide +kernel) rfl trivial
    · refine J_iconst (pc := 27) (n := -1) (v := (-1)) hX (by decide +kernel) (by decide +kernel) ?_
      exact J_iret (pc := 28) hX (by decide +kernel) rfl trivial
set_option maxRecDepth 100000 in
set_option maxHeartbeats 4000000 in
theorem c_Mo_switches {l : Launch} {G : Gx} {y : Ly} {a : Nat} (hL : LyMo y a ) (v1 : Int32) (v2 : Int32) (μ : Mu) : Cn l G ⟨"SaltFiguresModel", "switches", "(II)I"⟩ prog_13_method_120_code 4 (some .int) 2 [.ref (G.1 + a), .int v1, .int v2] (μ, y) (emy y) rvI tpT (Mo_switches a v1 v2 μ) := cn_of (by decide +kernel) (Nat.le_of_ble_eq_true rfl) (fun _ _ _ => ⟨List.prefix_refl _, trivial⟩) (fun X hX _ => jMo_switches hL hX v1 v2 μ)

def Mo_takesLaw_107b (a : Nat)  (kb107 : Int32 → Mu → Option (Unit × Mu)) (v1 : Int32) (v2 : Int32)  (μ : Mu) : Option (Unit × Mu) := gF μ a 23 (fun x1 => (if x1 ≤ v2 then gF μ a 22 (fun x2 => stA μ (a + 7) 2 x2 v1 (fun μ3 => some ((), μ3))) else gF μ a 22 (fun x4 => ldA μ (a + 12) 1200 (800 + v2) (fun x5 => stA μ (a + 12) 1200 ((400 * x4) + v2) x5 (fun μ6 => gF μ6 a 22 (fun x7 => ldA μ6 (a + 13) 1200 (800 + v2) (fun x8 => stA μ6 (a + 13) 1200 ((400 * x7) + v2) x8 (fun μ9 => kb107 (v2 + 1) μ9))))))))
def Mo_takesLaw_107 (a : Nat)  (v1 : Int32) (fu : Nat) : Int32 → Mu → Option (Unit × Mu) := lp (fun kb => Mo_takesLaw_107b a  kb v1) (fun _ _ => none) fu
def Mo_takesLaw_2b (a : Nat)  (kb2 : Int32 → Mu → Option (Unit × Mu)) (v1 : Int32) (v2 : Int32)  (μ : Mu) : Option (Unit × Mu) := (if v1 ≤ v2 then Mo_takesLaw_107 a v1 FU 0 μ else gF μ a 22 (fun x1 => ldA μ (a + 8) 48 (32 + v2) (fun x2 => stA μ (a + 8) 48 ((16 * x1) + v2) x2 (fun μ3 => gF μ3 a 22 (fun x4 => ldA μ3 (a + 9) 48 (32 + v2) (fun x5 => stA μ3 (a + 9) 48 ((16 * x4) + v2) x5 (fun μ6 => gF μ6 a 22 (fun x7 => ldA μ6 (a + 10) 48 (32 + v2) (fun x8 => stA μ6 (a + 10) 48 ((16 * x7) + v2) x8 (fun μ9 => gF μ9 a 22 (fun x10 => ldA μ9 (a + 11) 48 (32 + v2) (fun x11 => stA μ9 (a + 11) 48 ((16 * x10) + v2) x11 (fun μ12 => kb2 (v2 + 1) μ12)))))))))))))
def Mo_takesLaw_2 (a : Nat)  (v1 : Int32) (fu : Nat) : Int32 → Mu → Option (Unit × Mu) := lp (fun kb => Mo_takesLaw_2b a  kb v1) (fun _ _ => none) fu
def Mo_takesLaw (a : Nat) (v1 : Int32) (μ : Mu) : Option (Unit × Mu) := Mo_takesLaw_2 a v1 FU 0 μ
set_option maxRecDepth 100000 in
set_option maxHeartbeats 4000000 in
theorem jMo_takesLaw_107b {X : Cx} {l : Launch} {G : Gx} {y : Ly} {a : Nat} (hL : LyMo y a ) (hX : Ok X l G prog_13_method_46_code 3 none "SaltFiguresModel") (v1 : Int32)  {kb107 : Int32 → Mu → Option (Unit × Mu)}  (hk107 : ∀ (v2 : Int32) (μ : Mu), J X G 3 1 y (emy y) rvV tpT 107 [(0, .ref (G.1 + a)), (1, .int v1), (2, .int v2)] [] (μ, y) (kb107 v2 μ)) (v2 : Int32)  (μ : Mu) : J X G 3 1 y (emy y) rvV tpT 107 [(0, .ref (G.1 + a)), (1, .int v1), (2, .int v2)] [] (μ, y) (Mo_takesLaw_107b a  kb107 v1 v2  μ) := by
  unfold Mo_takesLaw_107b
  refine J_iload_n (k0 := 2) (pc := 107) 2 hX (by decide +kernel) rfl rfl ?_
  refine J_aload_n (k0 := 0) (pc := 108) 0 hX (by decide +kernel) rfl rfl ?_
  refine J_gF (pc := 109) hX (by decide +kernel) fl_Mo_206 hL.1 rfl (fun x1 => ?_)
  refine J_icmp_ge (pc := 112) (off := 59) (tgt := 171) hX (by decide +kernel) (by decide +kernel) (fun _ => ?_) (fun _ => ?_)
  · refine J_aload_n (k0 := 0) (pc := 171) 0 hX (by decide +kernel) rfl rfl ?_
    refine J_gr (pc := 172) hX (by decide +kernel) fl_Mo_28 hL.1 rfl hL.2.2.2.2.2.2.2.1.1 ?_
    refine J_aload_n (k0 := 0) (pc := 175) 0 hX (by decide +kernel) rfl rfl ?_
    refine J_gF (pc := 176) hX (by decide +kernel) fl_Mo_260 hL.1 rfl (fun x2 => ?_)
    refine J_iload_n (k0 := 1) (pc := 179) 1 hX (by decide +kernel) rfl rfl ?_
    refine J_stA (pc := 180) hX (by decide +kernel) hL.2.2.2.2.2.2.2.1.2 (fun μ3 => ?_)
    exact J_vret (pc := 181) hX (by decide +kernel) rfl trivial
  · refine J_aload_n (k0 := 0) (pc := 115) 0 hX (by decide +kernel) rfl rfl ?_
    refine J_gr (pc := 116) hX (by decide +kernel) fl_Mo_43 hL.1 rfl hL.2.2.2.2.2.2.2.2.2.2.2.2.1.1 ?_
    refine J_sipush (pc := 119) (n := 400) (v := 400) hX (by decide +kernel) (by decide +kernel) ?_
    refine J_aload_n (k0 := 0) (pc := 122) 0 hX (by decide +kernel) rfl rfl ?_
    refine J_gF (pc := 123) hX (by decide +kernel) fl_Mo_260 hL.1 rfl (fun x4 => ?_)
    refine J_imul (pc := 126) hX (by decide +kernel) ?_
    refine J_iload_n (k0 := 2) (pc := 127) 2 hX (by decide +kernel) rfl rfl ?_
    refine J_iadd (pc := 128) hX (by decide +kernel) ?_
    refine J_aload_n (k0 := 0) (pc := 129) 0 hX (by decide +kernel) rfl rfl ?_
    refine J_gr (pc := 130) hX (by decide +kernel) fl_Mo_43 hL.1 rfl hL.2.2.2.2.2.2.2.2.2.2.2.2.1.1 ?_
    refine J_sipush (pc := 133) (n := 800) (v := 800) hX (by decide +kernel) (by decide +kernel) ?_
    refine J_iload_n (k0 := 2) (pc := 136) 2 hX (by decide +kernel) rfl rfl ?_
    refine J_iadd (pc := 137) hX (by decide +kernel) ?_
    refine J_ldA (pc := 138) hX (by decide +kernel) hL.2.2.2.2.2.2.2.2.2.2.2.2.1.2 (fun x5 => ?_)
    refine J_stA (pc := 139) hX (by decide +kernel) hL.2.2.2.2.2.2.2.2.2.2.2.2.1.2 (fun μ6 => ?_)
    refine J_aload_n (k0 := 0) (pc := 140) 0 hX (by decide +kernel) rfl rfl ?_
    refine J_gr (pc := 141) hX (by decide +kernel) fl_Mo_46 hL.1 rfl hL.2.2.2.2.2.2.2.2.2.2.2.2.2.1.1 ?_
    refine J_sipush (pc := 144) (n := 400) (v := 400) hX (by decide +kernel) (by decide +kernel) ?_
    refine J_aload_n (k0 := 0) (pc := 147) 0 hX (by decide +kernel) rfl rfl ?_
    refine J_gF (pc := 148) hX (by decide +kernel) fl_Mo_260 hL.1 rfl (fun x7 => ?_)
    refine J_imul (pc := 151) hX (by decide +kernel) ?_
    refine J_iload_n (k0 := 2) (pc := 152) 2 hX (by decide +kernel) rfl rfl ?_
    refine J_iadd (pc := 153) hX (by decide +kernel) ?_
    refine J_aload_n (k0 := 0) (pc := 154) 0 hX (by decide +kernel) rfl rfl ?_
    refine J_gr (pc := 155) hX (by decide +kernel) fl_Mo_46 hL.1 rfl hL.2.2.2.2.2.2.2.2.2.2.2.2.2.1.1 ?_
    refine J_sipush (pc := 158) (n := 800) (v := 800) hX (by decide +kernel) (by decide +kernel) ?_
    refine J_iload_n (k0 := 2) (pc := 161) 2 hX (by decide +kernel) rfl rfl ?_
    refine J_iadd (pc := 162) hX (by decide +kernel) ?_
    refine J_ldA (pc := 163) hX (by decide +kernel) hL.2.2.2.2.2.2.2.2.2.2.2.2.2.1.2 (fun x8 => ?_)
    refine J_stA (pc := 164) hX (by decide +kernel) hL.2.2.2.2.2.2.2.2.2.2.2.2.2.1.2 (fun μ9 => ?_)
    refine J_iinc (pc := 165) (n := 1) 2 [(2, .int (v2 + 1)), (0, .ref (G.1 + a)), (1, .int v1)] hX (by decide +kernel) rfl rfl (by decide) rfl ?_
    refine J_goto (pc := 168) (off := -61) (tgt := 107) hX (by decide +kernel) (by decide +kernel) ?_
    exact J_sub [1, 2, 0] _ rfl (hk107 (v2 + 1) μ9)
set_option maxRecDepth 100000 in
set_option maxHeartbeats 4000000 in
theorem jMo_takesLaw_107 {X : Cx} {l : Launch} {G : Gx} {y : Ly} {a : Nat} (hL : LyMo y a ) (hX : Ok X l G prog_13_method_46_code 3 none "SaltFiguresModel") (v1 : Int32)   : ∀ (fu : Nat) (v2 : Int32) (μ : Mu), J X G 3 1 y (emy y) rvV tpT 107 [(0, .ref (G.1 + a)), (1, .int v1), (2, .int v2)] [] (μ, y) (Mo_takesLaw_107 a  v1 fu v2 μ) := by
  intro fu
  induction fu with
  | zero => intros; exact J_none
  | succ fu ih => intro v2 μ; exact jMo_takesLaw_107b hL hX v1  ih v2 μ
set_option maxRecDepth 100000 in
set_option maxHeartbeats 4000000 in
theorem jMo_takesLaw_2b {X : Cx} {l : Launch} {G : Gx} {y : Ly} {a : Nat} (hL : LyMo y a ) (hX : Ok X l G prog_13_method_46_code 3 none "SaltFiguresModel") (v1 : Int32)  {kb2 : Int32 → Mu → Option (Unit × Mu)}  (hk2 : ∀ (v2 : Int32) (μ : Mu), J X G 3 1 y (emy y) rvV tpT 2 [(0, .ref (G.1 + a)), (1, .int v1), (2, .int v2)] [] (μ, y) (kb2 v2 μ)) (v2 : Int32)  (μ : Mu) : J X G 3 1 y (emy y) rvV tpT 2 [(0, .ref (G.1 + a)), (1, .int v1), (2, .int v2)] [] (μ, y) (Mo_takesLaw_2b a  kb2 v1 v2  μ) := by
  unfold Mo_takesLaw_2b
  refine J_iload_n (k0 := 2) (pc := 2) 2 hX (by decide +kernel) rfl rfl ?_
  refine J_iload_n (k0 := 1) (pc := 3) 1 hX (by decide +kernel) rfl rfl ?_
  refine J_icmp_ge (pc := 4) (off := 101) (tgt := 105) hX (by decide +kernel) (by decide +kernel) (fun _ => ?_) (fun _ => ?_)
  · refine J_iconst (pc := 105) (n := 0) (v := 0) hX (by decide +kernel) (by decide +kernel) ?_
    refine J_istore_n (k0 := 2) (pc := 106) [(2, .int 0), (0, .ref (G.1 + a)), (1, .int v1)] hX (by decide +kernel) rfl (by decide) rfl ?_
    exact J_sub [1, 2, 0] _ rfl (jMo_takesLaw_107 hL hX v1 FU 0 μ)
  · refine J_aload_n (k0 := 0) (pc := 7) 0 hX (by decide +kernel) rfl rfl ?_
    refine J_gr (pc := 8) hX (by decide +kernel) fl_Mo_31 hL.1 rfl hL.2.2.2.2.2.2.2.2.1.1 ?_
    refine J_bipush (pc := 11) (n := 16) (v := 16) hX (by decide +kernel) (by decide +kernel) ?_
    refine J_aload_n (k0 := 0) (pc := 13) 0 hX (by decide +kernel) rfl rfl ?_
    refine J_gF (pc := 14) hX (by decide +kernel) fl_Mo_260 hL.1 rfl (fun x1 => ?_)
    refine J_imul (pc := 17) hX (by decide +kernel) ?_
    refine J_iload_n (k0 := 2) (pc := 18) 2 hX (by decide +kernel) rfl rfl ?_
    refine J_iadd (pc := 19) hX (by decide +kernel) ?_
    refine J_aload_n (k0 := 0) (pc := 20) 0 hX (by decide +kernel) rfl rfl ?_
    refine J_gr (pc := 21) hX (by decide +kernel) fl_Mo_31 hL.1 rfl hL.2.2.2.2.2.2.2.2.1.1 ?_
    refine J_bipush (pc := 24) (n := 32) (v := 32) hX (by decide +kernel) (by decide +kernel) ?_
    refine J_iload_n (k0 := 2) (pc := 26) 2 hX (by decide +kernel) rfl rfl ?_
    refine J_iadd (pc := 27) hX (by decide +kernel) ?_
    refine J_ldA (pc := 28) hX (by decide +kernel) hL.2.2.2.2.2.2.2.2.1.2 (fun x2 => ?_)
    refine J_stA (pc := 29) hX (by decide +kernel) hL.2.2.2.2.2.2.2.2.1.2 (fun μ3 => ?_)
    refine J_aload_n (k0 := 0) (pc := 30) 0 hX (by decide +kernel) rfl rfl ?_
    refine J_gr (pc := 31) hX (by decide +kernel) fl_Mo_34 hL.1 rfl hL.2.2.2.2.2.2.2.2.2.1.1 ?_
    refine J_bipush (pc := 34) (n := 16) (v := 16) hX (by decide +kernel) (by decide +kernel) ?_
    refine J_aload_n (k0 := 0) (pc := 36) 0 hX (by decide +kernel) rfl rfl ?_
    refine J_gF (pc := 37) hX (by decide +kernel) fl_Mo_260 hL.1 rfl (fun x4 => ?_)
    refine J_imul (pc := 40) hX (by decide +kernel) ?_
    refine J_iload_n (k0 := 2) (pc := 41) 2 hX (by decide +kernel) rfl rfl ?_
    refine J_iadd (pc := 42) hX (by decide +kernel) ?_
    refine J_aload_n (k0 := 0) (pc := 43) 0 hX (by decide +kernel) rfl rfl ?_
    refine J_gr (pc := 44) hX (by decide +kernel) fl_Mo_34 hL.1 rfl hL.2.2.2.2.2.2.2.2.2.1.1 ?_
    refine J_bipush (pc := 47) (n := 32) (v := 32) hX (by decide +kernel) (by decide +kernel) ?_
    refine J_iload_n (k0 := 2) (pc := 49) 2 hX (by decide +kernel) rfl rfl ?_
    refine J_iadd (pc := 50) hX (by decide +kernel) ?_
    refine J_ldA (pc := 51) hX (by decide +kernel) hL.2.2.2.2.2.2.2.2.2.1.2 (fun x5 => ?_)
    refine J_stA (pc := 52) hX (by decide +kernel) hL.2.2.2.2.2.2.2.2.2.1.2 (fun μ6 => ?_)
    refine J_aload_n (k0 := 0) (pc := 53) 0 hX (by decide +kernel) rfl rfl ?_
    refine J_gr (pc := 54) hX (by decide +kernel) fl_Mo_37 hL.1 rfl hL.2.2.2.2.2.2.2.2.2.2.1.1 ?_
    refine J_bipush (pc := 57) (n := 16) (v := 16) hX (by decide +kernel) (by decide +kernel) ?_
    refine J_aload_n (k0 := 0) (pc := 59) 0 hX (by decide +kernel) rfl rfl ?_
    refine J_gF (pc := 60) hX (by decide +kernel) fl_Mo_260 hL.1 rfl (fun x7 => ?_)
    refine J_imul (pc := 63) hX (by decide +kernel) ?_
    refine J_iload_n (k0 := 2) (pc := 64) 2 hX (by decide +kernel) rfl rfl ?_
    refine J_iadd (pc := 65) hX (by decide +kernel) ?_
    refine J_aload_n (k0 := 0) (pc := 66) 0 hX (by decide +kernel) rfl rfl ?_
    refine J_gr (pc := 67) hX (by decide +kernel) fl_Mo_37 hL.1 rfl hL.2.2.2.2.2.2.2.2.2.2.1.1 ?_
    refine J_bipush (pc := 70) (n := 32) (v := 32) hX (by decide +kernel) (by decide +kernel) ?_
    refine J_iload_n (k0 := 2) (pc := 72) 2 hX (by decide +kernel) rfl rfl ?_
    refine J_iadd (pc := 73) hX (by decide +kernel) ?_
    refine J_ldA (pc := 74) hX (by decide +kernel) hL.2.2.2.2.2.2.2.2.2.2.1.2 (fun x8 => ?_)
    refine J_stA (pc := 75) hX (by decide +kernel) hL.2.2.2.2.2.2.2.2.2.2.1.2 (fun μ9 => ?_)
    refine J_aload_n (k0 := 0) (pc := 76) 0 hX (by decide +kernel) rfl rfl ?_
    refine J_gr (pc := 77) hX (by decide +kernel) fl_Mo_40 hL.1 rfl hL.2.2.2.2.2.2.2.2.2.2.2.1.1 ?_
    refine J_bipush (pc := 80) (n := 16) (v := 16) hX (by decide +kernel) (by decide +kernel) ?_
    refine J_aload_n (k0 := 0) (pc := 82) 0 hX (by decide +kernel) rfl rfl ?_
    refine J_gF (pc := 83) hX (by decide +kernel) fl_Mo_260 hL.1 rfl (fun x10 => ?_)
    refine J_imul (pc := 86) hX (by decide +kernel) ?_
    refine J_iload_n (k0 := 2) (pc := 87) 2 hX (by decide +kernel) rfl rfl ?_
    refine J_iadd (pc := 88) hX (by decide +kernel) ?_
    refine J_aload_n (k0 := 0) (pc := 89) 0 hX (by decide +kernel) rfl rfl ?_
    refine J_gr (pc := 90) hX (by decide +kernel) fl_Mo_40 hL.1 rfl hL.2.2.2.2.2.2.2.2.2.2.2.1.1 ?_
    refine J_bipush (pc := 93) (n := 32) (v := 32) hX (by decide +kernel) (by decide +kernel) ?_
    refine J_iload_n (k0 := 2) (pc := 95) 2 hX (by decide +kernel) rfl rfl ?_
    refine J_iadd (pc := 96) hX (by decide +kernel) ?_
    refine J_ldA (pc := 97) hX (by decide +kernel) hL.2.2.2.2.2.2.2.2.2.2.2.1.2 (fun x11 => ?_)
    refine J_stA (pc := 98) hX (by decide +kernel) hL.2.2.2.2.2.2.2.2.2.2.2.1.2 (fun μ12 => ?_)
    refine J_iinc (pc := 99) (n := 1) 2 [(2, .int (v2 + 1)), (0, .ref (G.1 + a)), (1, .int v1)] hX (by decide +kernel) rfl rfl (by decide) rfl ?_
    refine J_goto (pc := 102) (off := -100) (tgt := 2) hX (by decide +kernel) (by decide +kernel) ?_
    exact J_sub [1, 2, 0] _ rfl (hk2 (v2 + 1) μ12)
set_option maxRecDepth 100000 in
set_option maxHeartbeats 4000000 in
theorem jMo_takesLaw_2 {X : Cx} {l : Launch} {G : Gx} {y : Ly} {a : Nat} (hL : LyMo y a ) (hX : Ok X l G prog_13_method_46_code 3 none "SaltFiguresModel") (v1 : Int32)   : ∀ (fu : Nat) (v2 : Int32) (μ : Mu), J X G 3 1 y (emy y) rvV tpT 2 [(0, .ref (G.1 + a)), (1, .int v1), (2, .int v2)] [] (μ, y) (Mo_takesLaw_2 a  v1 fu v2 μ) := by
  intro fu
  induction fu with
  | zero => intros; exact J_none
  | succ fu ih => intro v2 μ; exact jMo_takesLaw_2b hL hX v1  ih v2 μ
set_option maxRecDepth 100000 in
set_option maxHeartbeats 4000000 in
theorem jMo_takesLaw {X : Cx} {l : Launch} {G : Gx} {y : Ly} {a : Nat} (hL : LyMo y a ) (hX : Ok X l G prog_13_method_46_code 3 none "SaltFiguresModel") (v1 : Int32) (μ : Mu) : J X G 3 1 y (emy y) rvV tpT 0 [(0, .ref (G.1 + a)), (1, .int v1)] [] (μ, y) (Mo_takesLaw a v1 μ) := by
  unfold Mo_takesLaw
  refine J_iconst (pc := 0) (n := 0) (v := 0) hX (by decide +kernel) (by decide +kernel) ?_
  refine J_istore_n (k0 := 2) (pc := 1) [(2, .int 0), (0, .ref (G.1 + a)), (1, .int v1)] hX (by decide +kernel) rfl (by decide) rfl ?_
  exact J_sub [1, 2, 0] _ rfl (jMo_takesLaw_2 hL hX v1 FU 0 μ)
set_option maxRecDepth 100000 in
set_option maxHeartbeats 4000000 in
theorem c_Mo_takesLaw {l : Launch} {G : Gx} {y : Ly} {a : Nat} (hL : LyMo y a ) (v1 : Int32) (μ : Mu) : Cn l G ⟨"SaltFiguresModel", "takesLaw", "(I)V"⟩ prog_13_method_46_code 3 none 1 [.ref (G.1 + a), .int v1] (μ, y) (emy y) rvV tpT (Mo_takesLaw a v1 μ) := cn_of (by decide +kernel) (Nat.le_of_ble_eq_true rfl) (fun _ _ _ => ⟨List.prefix_refl _, trivial⟩) (fun X hX _ => jMo_takesLaw hL hX v1 μ)

def Mo_takesTable_97 (a : Nat) (kb28 : Int32 → Mu → Option (Unit × Mu))  (v1 : Int32) (v2 : Int32)  (μ : Mu) : Option (Unit × Mu) := kb28 (v2 + 1) μ
def Mo_takesTable_75 (a : Nat) (kb28 : Int32 → Mu → Option (Unit × Mu))  (v1 : Int32) (v2 : Int32)  (μ : Mu) : Option (Unit × Mu) := ldA μ (a + 16) 16 v2 (fun x1 => ldA μ (a + 15) 16 v2 (fun x2 => stA μ (a + 1) 118 (102 + x1) (x2 + 1) (fun μ3 => Mo_takesTable_97 a kb28 v1 v2 μ3)))
def Mo_takesTable_28b (a : Nat)  (kb28 : Int32 → Mu → Option (Unit × Mu)) (v1 : Int32) (v2 : Int32)  (μ : Mu) : Option (Unit × Mu) := (if v1 ≤ v2 then pF μ a 31 v1 (fun μ1 => some ((), μ1)) else ldA μ (a + 16) 16 v2 (fun x2 => cl (Mo_isAlive a x2 μ) (fun x4 μ3 => (if x4 = 0 then Mo_takesTable_97 a kb28 v1 v2 μ3 else ldA μ3 (a + 15) 16 v2 (fun x5 => cl (Mo_whoHas a x5 μ3) (fun x7 μ6 => (if x7 = ((-1)) then Mo_takesTable_75 a kb28 v1 v2 μ6 else stA μ6 (a + 1) 118 (102 + x7) 0 (fun μ8 => Mo_takesTable_75 a kb28 v1 v2 μ8))))))))
def Mo_takesTable_28 (a : Nat)  (v1 : Int32) (fu : Nat) : Int32 → Mu → Option (Unit × Mu) := lp (fun kb => Mo_takesTable_28b a  kb v1) (fun _ _ => none) fu
def Mo_takesTable_2b (a : Nat)  (kb2 : Int32 → Mu → Option (Unit × Mu)) (v1 : Int32) (v2 : Int32)  (μ : Mu) : Option (Unit × Mu) := gF μ a 6 (fun x1 => (if x1 ≤ v2 then Mo_takesTable_28 a v1 FU 0 μ else stA μ (a + 1) 118 (102 + v2) 0 (fun μ2 => kb2 (v2 + 1) μ2)))
def Mo_takesTable_2 (a : Nat)  (v1 : Int32) (fu : Nat) : Int32 → Mu → Option (Unit × Mu) := lp (fun kb => Mo_takesTable_2b a  kb v1) (fun _ _ => none) fu
def Mo_takesTable (a : Nat) (v1 : Int32) (μ : Mu) : Option (Unit × Mu) := Mo_takesTable_2 a v1 FU 0 μ
set_option maxRecDepth 100000 in
set_option maxHeartbeats 4000000 in
theorem jMo_takesTable_97 {X : Cx} {l : Launch} {G : Gx} {y : Ly} {a : Nat} (hL : LyMo y a ) (hX : Ok X l G prog_13_method_57_code 4 none "SaltFiguresModel")  (v1 : Int32) (v2 : Int32)  {kb28 : Int32 → Mu → Option (Unit × Mu)} (hk28 : ∀ (v2 : Int32) (μ : Mu), J X G 4 3 y (emy y) rvV tpT 28 [(0, .ref (G.1 + a)), (1, .int v1), (2, .int v2)] [] (μ, y) (kb28 v2 μ)) (μ : Mu) : J X G 4 3 y (emy y) rvV tpT 97 [(0, .ref (G.1 + a)), (1, .int v1), (2, .int v2)] [] (μ, y) (Mo_takesTable_97 a kb28  v1 v2  μ) := by
  unfold Mo_takesTable_97
  refine J_iinc (pc := 97) (n := 1) 2 [(2, .int (v2 + 1)), (0, .ref (G.1 + a)), (1, .int v1)] hX (by decide +kernel) rfl rfl (by decide) rfl ?_
  refine J_goto (pc := 100) (off := -72) (tgt := 28) hX (by decide +kernel) (by decide +kernel) ?_
  exact J_sub [1, 2, 0] _ rfl (hk28 (v2 + 1) μ)
set_option maxRecDepth 100000 in
set_option maxHeartbeats 4000000 in
theorem jMo_takesTable_75 {X : Cx} {l : Launch} {G : Gx} {y : Ly} {a : Nat} (hL : LyMo y a ) (hX : Ok X l G prog_13_method_57_code 4 none "SaltFiguresModel")  (v1 : Int32) (v2 : Int32)  {kb28 : Int32 → Mu → Option (Unit × Mu)} (hk28 : ∀ (v2 : Int32) (μ : Mu), J X G 4 3 y (emy y) rvV tpT 28 [(0, .ref (G.1 + a)), (1, .int v1), (2, .int v2)] [] (μ, y) (kb28 v2 μ)) (μ : Mu) : J X G 4 3 y (emy y) rvV tpT 75 [(0, .ref (G.1 + a)), (1, .int v1), (2, .int v2)] [] (μ, y) (Mo_takesTable_75 a kb28  v1 v2  μ) := by
  unfold Mo_takesTable_75
  refine J_aload_n (k0 := 0) (pc := 75) 0 hX (by decide +kernel) rfl rfl ?_
  refine J_gr (pc := 76) hX (by decide +kernel) fl_Mo_7 hL.1 rfl hL.2.1.1 ?_
  refine J_bipush (pc := 79) (n := 102) (v := 102) hX (by decide +kernel) (by decide +kernel) ?_
  refine J_aload_n (k0 := 0) (pc := 81) 0 hX (by decide +kernel) rfl rfl ?_
  refine J_gr (pc := 82) hX (by decide +kernel) fl_Mo_59 hL.1 rfl hL.2.2.2.2.2.2.2.2.2.2.2.2.2.2.2.2.1.1 ?_
  refine J_iload_n (k0 := 2) (pc := 85) 2 hX (by decide +kernel) rfl rfl ?_
  refine J_ldA (pc := 86) hX (by decide +kernel) hL.2.2.2.2.2.2.2.2.2.2.2.2.2.2.2.2.1.2 (fun x1 => ?_)
  refine J_iadd (pc := 87) hX (by decide +kernel) ?_
  refine J_aload_n (k0 := 0) (pc := 88) 0 hX (by decide +kernel) rfl rfl ?_
  refine J_gr (pc := 89) hX (by decide +kernel) fl_Mo_56 hL.1 rfl hL.2.2.2.2.2.2.2.2.2.2.2.2.2.2.2.1.1 ?_
  refine J_iload_n (k0 := 2) (pc := 92) 2 hX (by decide +kernel) rfl rfl ?_
  refine J_ldA (pc := 93) hX (by decide +kernel) hL.2.2.2.2.2.2.2.2.2.2.2.2.2.2.2.1.2 (fun x2 => ?_)
  refine J_iconst (pc := 94) (n := 1) (v := 1) hX (by decide +kernel) (by decide +kernel) ?_
  refine J_iadd (pc := 95) hX (by decide +kernel) ?_
  refine J_stA (pc := 96) hX (by decide +kernel) hL.2.1.2 (fun μ3 => ?_)
  exact J_sub [0, 1, 2] _ rfl (jMo_takesTable_97 hL hX v1 v2 hk28 μ3)
set_option maxRecDepth 100000 in
set_option maxHeartbeats 4000000 in
theorem jMo_takesTable_28b {X : Cx} {l : Launch} {G : Gx} {y : Ly} {a : Nat} (hL : LyMo y a ) (hX : Ok X l G prog_13_method_57_code 4 none "SaltFiguresModel") (v1 : Int32)  {kb28 : Int32 → Mu → Option (Unit × Mu)}  (hk28 : ∀ (v2 : Int32) (μ : Mu), J X G 4 3 y (emy y) rvV tpT 28 [(0, .ref (G.1 + a)), (1, .int v1), (2, .int v2)] [] (μ, y) (kb28 v2 μ)) (v2 : Int32)  (μ : Mu) : J X G 4 3 y (emy y) rvV tpT 28 [(0, .ref (G.1 + a)), (1, .int v1), (2, .int v2)] [] (μ, y) (Mo_takesTable_28b a  kb28 v1 v2  μ) := by
  unfold Mo_takesTable_28b
  refine J_iload_n (k0 := 2) (pc := 28) 2 hX (by decide +kernel) rfl rfl ?_
  refine J_iload_n (k0 := 1) (pc := 29) 1 hX (by decide +kernel) rfl rfl ?_
  refine J_icmp_ge (pc := 30) (off := 73) (tgt := 103) hX (by decide +kernel) (by decide +kernel) (fun _ => ?_) (fun _ => ?_)
  · refine J_aload_n (k0 := 0) (pc := 103) 0 hX (by decide +kernel) rfl rfl ?_
    refine J_iload_n (k0 := 1) (pc := 104) 1 hX (by decide +kernel) rfl rfl ?_
    refine J_pF (pc := 105) hX (by decide +kernel) fl_Mo_294 hL.1 rfl (fun μ1 => ?_)
    exact J_vret (pc := 108) hX (by decide +kernel) rfl trivial
  · refine J_aload_n (k0 := 0) (pc := 33) 0 hX (by decide +kernel) rfl rfl ?_
    refine J_aload_n (k0 := 0) (pc := 34) 0 hX (by decide +kernel) rfl rfl ?_
    refine J_gr (pc := 35) hX (by decide +kernel) fl_Mo_59 hL.1 rfl hL.2.2.2.2.2.2.2.2.2.2.2.2.2.2.2.2.1.1 ?_
    refine J_iload_n (k0 := 2) (pc := 38) 2 hX (by decide +kernel) rfl rfl ?_
    refine J_ldA (pc := 39) hX (by decide +kernel) hL.2.2.2.2.2.2.2.2.2.2.2.2.2.2.2.2.1.2 (fun x2 => ?_)
    refine J_cVi (pc := 40) (idx := 162) [.int x2] hX (by decide +kernel) (mq mt_6 238 (by decide +kernel)) mv_Mo_isAlive hL.1 rfl rfl (Nat.le_of_ble_eq_true rfl) (Nat.le_of_ble_eq_true rfl) (c_Mo_isAlive hL x2 μ) (fun x4 μ3 => ?_)
    refine J_if_ne (pc := 43) (off := 6) (tgt := 49) hX (by decide +kernel) (by decide +kernel) (fun _ => ?_) (fun _ => ?_)
    · refine J_aload_n (k0 := 0) (pc := 49) 0 hX (by decide +kernel) rfl rfl ?_
      refine J_aload_n (k0 := 0) (pc := 50) 0 hX (by decide +kernel) rfl rfl ?_
      refine J_gr (pc := 51) hX (by decide +kernel) fl_Mo_56 hL.1 rfl hL.2.2.2.2.2.2.2.2.2.2.2.2.2.2.2.1.1 ?_
      refine J_iload_n (k0 := 2) (pc := 54) 2 hX (by decide +kernel) rfl rfl ?_
      refine J_ldA (pc := 55) hX (by decide +kernel) hL.2.2.2.2.2.2.2.2.2.2.2.2.2.2.2.1.2 (fun x5 => ?_)
      refine J_cVi (pc := 56) (idx := 151) [.int x5] hX (by decide +kernel) (mq mt_7 150 (by decide +kernel)) mv_Mo_whoHas hL.1 rfl rfl (Nat.le_of_ble_eq_true rfl) (Nat.le_of_ble_eq_true rfl) (c_Mo_whoHas hL x5 μ3) (fun x7 μ6 => ?_)
      refine J_istore_n (k0 := 3) (pc := 59) [(3, .int x7), (0, .ref (G.1 + a)), (1, .int v1), (2, .int v2)] hX (by decide +kernel) rfl (by decide) rfl ?_
      refine J_iload_n (k0 := 3) (pc := 60) 0 hX (by decide +kernel) rfl rfl ?_
      refine J_iconst (pc := 61) (n := -1) (v := (-1)) hX (by decide +kernel) (by decide +kernel) ?_
      refine J_icmp_eq (pc := 62) (off := 13) (tgt := 75) hX (by decide +kernel) (by decide +kernel) (fun _ => ?_) (fun _ => ?_)
      · exact J_sub [1, 2, 3] _ rfl (jMo_takesTable_75 hL hX v1 v2 hk28 μ6)
      · refine J_aload_n (k0 := 0) (pc := 65) 1 hX (by decide +kernel) rfl rfl ?_
        refine J_gr (pc := 66) hX (by decide +kernel) fl_Mo_7 hL.1 rfl hL.2.1.1 ?_
        refine J_bipush (pc := 69) (n := 102) (v := 102) hX (by decide +kernel) (by decide +kernel) ?_
        refine J_iload_n (k0 := 3) (pc := 71) 0 hX (by decide +kernel) rfl rfl ?_
        refine J_iadd (pc := 72) hX (by decide +kernel) ?_
        refine J_iconst (pc := 73) (n := 0) (v := 0) hX (by decide +kernel) (by decide +kernel) ?_
        refine J_stA (pc := 74) hX (by decide +kernel) hL.2.1.2 (fun μ8 => ?_)
        exact J_sub [1, 2, 3] _ rfl (jMo_takesTable_75 hL hX v1 v2 hk28 μ8)
    · refine J_goto (pc := 46) (off := 51) (tgt := 97) hX (by decide +kernel) (by decide +kernel) ?_
      exact J_sub [0, 1, 2] _ rfl (jMo_takesTable_97 hL hX v1 v2 hk28 μ3)
set_option maxRecDepth 100000 in
set_option maxHeartbeats 4000000 in
theorem jMo_takesTable_28 {X : Cx} {l : Launch} {G : Gx} {y : Ly} {a : Nat} (hL : LyMo y a ) (hX : Ok X l G prog_13_method_57_code 4 none "SaltFiguresModel") (v1 : Int32)   : ∀ (fu : Nat) (v2 : Int32) (μ : Mu), J X G 4 3 y (emy y) rvV tpT 28 [(0, .ref (G.1 + a)), (1, .int v1), (2, .int v2)] [] (μ, y) (Mo_takesTable_28 a  v1 fu v2 μ) := by
  intro fu
  induction fu with
  | zero => intros; exact J_none
  | succ fu ih => intro v2 μ; exact jMo_takesTable_28b hL hX v1  ih v2 μ
set_option maxRecDepth 100000 in
set_option maxHeartbeats 4000000 in
theorem jMo_takesTable_2b {X : Cx} {l : Launch} {G : Gx} {y : Ly} {a : Nat} (hL : LyMo y a ) (hX : Ok X l G prog_13_method_57_code 4 none "SaltFiguresModel") (v1 : Int32)  {kb2 : Int32 → Mu → Option (Unit × Mu)}  (hk2 : ∀ (v2 : Int32) (μ : Mu), J X G 4 3 y (emy y) rvV tpT 2 [(0, .ref (G.1 + a)), (1, .int v1), (2, .int v2)] [] (μ, y) (kb2 v2 μ)) (v2 : Int32)  (μ : Mu) : J X G 4 3 y (emy y) rvV tpT 2 [(0, .ref (G.1 + a)), (1, .int v1), (2, .int v2)] [] (μ, y) (Mo_takesTable_2b a  kb2 v1 v2  μ) := by
  unfold Mo_takesTable_2b
  refine J_iload_n (k0 := 2) (pc := 2) 2 hX (by decide +kernel) rfl rfl ?_
  refine J_aload_n (k0 := 0) (pc := 3) 0 hX (by decide +kernel) rfl rfl ?_
  refine J_gF (pc := 4) hX (by decide +kernel) fl_Mo_144 hL.1 rfl (fun x1 => ?_)
  refine J_icmp_ge (pc := 7) (off := 19) (tgt := 26) hX (by decide +kernel) (by decide +kernel) (fun _ => ?_) (fun _ => ?_)
  · refine J_iconst (pc := 26) (n := 0) (v := 0) hX (by decide +kernel) (by decide +kernel) ?_
    refine J_istore_n (k0 := 2) (pc := 27) [(2, .int 0), (0, .ref (G.1 + a)), (1, .int v1)] hX (by decide +kernel) rfl (by decide) rfl ?_
    exact J_sub [1, 2, 0] _ rfl (jMo_takesTable_28 hL hX v1 FU 0 μ)
  · refine J_aload_n (k0 := 0) (pc := 10) 0 hX (by decide +kernel) rfl rfl ?_
    refine J_gr (pc := 11) hX (by decide +kernel) fl_Mo_7 hL.1 rfl hL.2.1.1 ?_
    refine J_bipush (pc := 14) (n := 102) (v := 102) hX (by decide +kernel) (by decide +kernel) ?_
    refine J_iload_n (k0 := 2) (pc := 16) 2 hX (by decide +kernel) rfl rfl ?_
    refine J_iadd (pc := 17) hX (by decide +kernel) ?_
    refine J_iconst (pc := 18) (n := 0) (v := 0) hX (by decide +kernel) (by decide +kernel) ?_
    refine J_stA (pc := 19) hX (by decide +kernel) hL.2.1.2 (fun μ2 => ?_)
    refine J_iinc (pc := 20) (n := 1) 2 [(2, .int (v2 + 1)), (0, .ref (G.1 + a)), (1, .int v1)] hX (by decide +kernel) rfl rfl (by decide) rfl ?_
    refine J_goto (pc := 23) (off := -21) (tgt := 2) hX (by decide +kernel) (by decide +kernel) ?_
    exact J_sub [1, 2, 0] _ rfl (hk2 (v2 + 1) μ2)
set_option maxRecDepth 100000 in
set_option maxHeartbeats 4000000 in
theorem jMo_takesTable_2 {X : Cx} {l : Launch} {G : Gx} {y : Ly} {a : Nat} (hL : LyMo y a ) (hX : Ok X l G prog_13_method_57_code 4 none "SaltFiguresModel") (v1 : Int32)   : ∀ (fu : Nat) (v2 : Int32) (μ : Mu), J X G 4 3 y (emy y) rvV tpT 2 [(0, .ref (G.1 + a)), (1, .int v1), (2, .int v2)] [] (μ, y) (Mo_takesTable_2 a  v1 fu v2 μ) := by
  intro fu
  induction fu with
  | zero => intros; exact J_none
  | succ fu ih => intro v2 μ; exact jMo_takesTable_2b hL hX v1  ih v2 μ
set_option maxRecDepth 100000 in
set_option maxHeartbeats 4000000 in
theorem jMo_takesTable {X : Cx} {l : Launch} {G : Gx} {y : Ly} {a : Nat} (hL : LyMo y a ) (hX : Ok X l G prog_13_method_57_code 4 none "SaltFiguresModel") (v1 : Int32) (μ : Mu) : J X G 4 3 y (emy y) rvV tpT 0 [(0, .ref (G.1 + a)), (1, .int v1)] [] (μ, y) (Mo_takesTable a v1 μ) := by
  unfold Mo_takesTable
  refine J_iconst (pc := 0) (n := 0) (v := 0) hX (by decide +kernel) (by decide +kernel) ?_
  refine J_istore_n (k0 := 2) (pc := 1) [(2, .int 0), (0, .ref (G.1 + a)), (1, .int v1)] hX (by decide +kernel) rfl (by decide) rfl ?_
  exact J_sub [1, 2, 0] _ rfl (jMo_takesTable_2 hL hX v1 FU 0 μ)
set_option maxRecDepth 100000 in
set_option maxHeartbeats 4000000 in
theorem c_Mo_takesTable {l : Launch} {G : Gx} {y : Ly} {a : Nat} (hL : LyMo y a ) (v1 : Int32) (μ : Mu) : Cn l G ⟨"SaltFiguresModel", "takesTable", "(I)V"⟩ prog_13_method_57_code 4 none 3 [.ref (G.1 + a), .int v1] (μ, y) (emy y) rvV tpT (Mo_takesTable a v1 μ) := cn_of (by decide +kernel) (Nat.le_of_ble_eq_true rfl) (fun _ _ _ => ⟨List.prefix_refl _, trivial⟩) (fun X hX _ => jMo_takesTable hL hX v1 μ)

def Mo_takesOther_88 (a : Nat)     (μ : Mu) : Option (Unit × Mu) := pF μ a 3 0 (fun μ1 => some ((), μ1))
def Mo_takesOther_55b (a : Nat)  (kb55 : Int32 → Mu → Option (Unit × Mu)) (v2 : Int32) (v3 : Int32)  (μ : Mu) : Option (Unit × Mu) := (if (4 * v2) ≤ v3 then pF μ a 34 v2 (fun μ1 => Mo_takesOther_88 a μ1) else ldA μ (a + 17) 128 (64 + v3) (fun x2 => stA μ (a + 17) 128 v3 x2 (fun μ3 => kb55 (v3 + 1) μ3)))
def Mo_takesOther_55 (a : Nat)  (v2 : Int32) (fu : Nat) : Int32 → Mu → Option (Unit × Mu) := lp (fun kb => Mo_takesOther_55b a  kb v2) (fun _ _ => none) fu
def Mo_takesOther_7b (a : Nat)  (kb7 : Int32 → Mu → Option (Unit × Mu)) (v2 : Int32) (v3 : Int32)  (μ : Mu) : Option (Unit × Mu) := (if 16 ≤ v3 then pF μ a 36 v2 (fun μ1 => some ((), μ1)) else ldA μ (a + 18) 32 (16 + v3) (fun x2 => stA μ (a + 18) 32 v3 x2 (fun μ3 => kb7 (v3 + 1) μ3)))
def Mo_takesOther_7 (a : Nat)  (v2 : Int32) (fu : Nat) : Int32 → Mu → Option (Unit × Mu) := lp (fun kb => Mo_takesOther_7b a  kb v2) (fun _ _ => none) fu
def Mo_takesOther (a : Nat) (v1 : Int32) (v2 : Int32) (μ : Mu) : Option (Unit × Mu) := (if v1 = 3 then Mo_takesOther_7 a v2 FU 0 μ else (if v1 = 1 then cl (Mo_takesTable a v2 μ) (fun _ μ1 => Mo_takesOther_88 a μ1) else Mo_takesOther_55 a v2 FU 0 μ))
set_option maxRecDepth 100000 in
set_option maxHeartbeats 4000000 in
theorem jMo_takesOther_88 {X : Cx} {l : Launch} {G : Gx} {y : Ly} {a : Nat} (hL : LyMo y a ) (hX : Ok X l G prog_13_method_58_code 4 none "SaltFiguresModel")      (μ : Mu) : J X G 4 4 y (emy y) rvV tpT 88 [(0, .ref (G.1 + a))] [] (μ, y) (Mo_takesOther_88 a     μ) := by
  unfold Mo_takesOther_88
  refine J_aload_n (k0 := 0) (pc := 88) 0 hX (by decide +kernel) rfl rfl ?_
  refine J_iconst (pc := 89) (n := 0) (v := 0) hX (by decide +kernel) (by decide +kernel) ?_
  refine J_pF (pc := 90) hX (by decide +kernel) fl_Mo_135 hL.1 rfl (fun μ1 => ?_)
  exact J_vret (pc := 93) hX (by decide +kernel) rfl trivial
set_option maxRecDepth 100000 in
set_option maxHeartbeats 4000000 in
theorem jMo_takesOther_55b {X : Cx} {l : Launch} {G : Gx} {y : Ly} {a : Nat} (hL : LyMo y a ) (hX : Ok X l G prog_13_method_58_code 4 none "SaltFiguresModel") (v2 : Int32)  {kb55 : Int32 → Mu → Option (Unit × Mu)}  (hk55 : ∀ (v3 : Int32) (μ : Mu), J X G 4 4 y (emy y) rvV tpT 55 [(0, .ref (G.1 + a)), (2, .int v2), (3, .int v3)] [] (μ, y) (kb55 v3 μ)) (v3 : Int32)  (μ : Mu) : J X G 4 4 y (emy y) rvV tpT 55 [(0, .ref (G.1 + a)), (2, .int v2), (3, .int v3)] [] (μ, y) (Mo_takesOther_55b a  kb55 v2 v3  μ) := by
  unfold Mo_takesOther_55b
  refine J_iload_n (k0 := 3) (pc := 55) 2 hX (by decide +kernel) rfl rfl ?_
  refine J_iconst (pc := 56) (n := 4) (v := 4) hX (by decide +kernel) (by decide +kernel) ?_
  refine J_iload_n (k0 := 2) (pc := 57) 1 hX (by decide +kernel) rfl rfl ?_
  refine J_imul (pc := 58) hX (by decide +kernel) ?_
  refine J_icmp_ge (pc := 59) (off := 24) (tgt := 83) hX (by decide +kernel) (by decide +kernel) (fun _ => ?_) (fun _ => ?_)
  · refine J_aload_n (k0 := 0) (pc := 83) 0 hX (by decide +kernel) rfl rfl ?_
    refine J_iload_n (k0 := 2) (pc := 84) 1 hX (by decide +kernel) rfl rfl ?_
    refine J_pF (pc := 85) hX (by decide +kernel) fl_Mo_303 hL.1 rfl (fun μ1 => ?_)
    exact J_sub [0] _ rfl (jMo_takesOther_88 hL hX μ1)
  · refine J_aload_n (k0 := 0) (pc := 62) 0 hX (by decide +kernel) rfl rfl ?_
    refine J_gr (pc := 63) hX (by decide +kernel) fl_Mo_62 hL.1 rfl hL.2.2.2.2.2.2.2.2.2.2.2.2.2.2.2.2.2.1.1 ?_
    refine J_iload_n (k0 := 3) (pc := 66) 2 hX (by decide +kernel) rfl rfl ?_
    refine J_aload_n (k0 := 0) (pc := 67) 0 hX (by decide +kernel) rfl rfl ?_
    refine J_gr (pc := 68) hX (by decide +kernel) fl_Mo_62 hL.1 rfl hL.2.2.2.2.2.2.2.2.2.2.2.2.2.2.2.2.2.1.1 ?_
    refine J_bipush (pc := 71) (n := 64) (v := 64) hX (by decide +kernel) (by decide +kernel) ?_
    refine J_iload_n (k0 := 3) (pc := 73) 2 hX (by decide +kernel) rfl rfl ?_
    refine J_iadd (pc := 74) hX (by decide +kernel) ?_
    refine J_ldA (pc := 75) hX (by decide +kernel) hL.2.2.2.2.2.2.2.2.2.2.2.2.2.2.2.2.2.1.2 (fun x2 => ?_)
    refine J_stA (pc := 76) hX (by decide +kernel) hL.2.2.2.2.2.2.2.2.2.2.2.2.2.2.2.2.2.1.2 (fun μ3 => ?_)
    refine J_iinc (pc := 77) (n := 1) 2 [(3, .int (v3 + 1)), (0, .ref (G.1 + a)), (2, .int v2)] hX (by decide +kernel) rfl rfl (by decide) rfl ?_
    refine J_goto (pc := 80) (off := -25) (tgt := 55) hX (by decide +kernel) (by decide +kernel) ?_
    exact J_sub [1, 2, 0] _ rfl (hk55 (v3 + 1) μ3)
set_option maxRecDepth 100000 in
set_option maxHeartbeats 4000000 in
theorem jMo_takesOther_55 {X : Cx} {l : Launch} {G : Gx} {y : Ly} {a : Nat} (hL : LyMo y a ) (hX : Ok X l G prog_13_method_58_code 4 none "SaltFiguresModel") (v2 : Int32)   : ∀ (fu : Nat) (v3 : Int32) (μ : Mu), J X G 4 4 y (emy y) rvV tpT 55 [(0, .ref (G.1 + a)), (2, .int v2), (3, .int v3)] [] (μ, y) (Mo_takesOther_55 a  v2 fu v3 μ) := by
  intro fu
  induction fu with
  | zero => intros; exact J_none
  | succ fu ih => intro v3 μ; exact jMo_takesOther_55b hL hX v2  ih v3 μ
set_option maxRecDepth 100000 in
set_option maxHeartbeats 4000000 in
theorem jMo_takesOther_7b {X : Cx} {l : Launch} {G : Gx} {y : Ly} {a : Nat} (hL : LyMo y a ) (hX : Ok X l G prog_13_method_58_code 4 none "SaltFiguresModel") (v2 : Int32)  {kb7 : Int32 → Mu → Option (Unit × Mu)}  (hk7 : ∀ (v3 : Int32) (μ : Mu), J X G 4 4 y (emy y) rvV tpT 7 [(0, .ref (G.1 + a)), (2, .int v2), (3, .int v3)] [] (μ, y) (kb7 v3 μ)) (v3 : Int32)  (μ : Mu) : J X G 4 4 y (emy y) rvV tpT 7 [(0, .ref (G.1 + a)), (2, .int v2), (3, .int v3)] [] (μ, y) (Mo_takesOther_7b a  kb7 v2 v3  μ) := by
  unfold Mo_takesOther_7b
  refine J_iload_n (k0 := 3) (pc := 7) 2 hX (by decide +kernel) rfl rfl ?_
  refine J_bipush (pc := 8) (n := 16) (v := 16) hX (by decide +kernel) (by decide +kernel) ?_
  refine J_icmp_ge (pc := 10) (off := 24) (tgt := 34) hX (by decide +kernel) (by decide +kernel) (fun _ => ?_) (fun _ => ?_)
  · refine J_aload_n (k0 := 0) (pc := 34) 0 hX (by decide +kernel) rfl rfl ?_
    refine J_iload_n (k0 := 2) (pc := 35) 1 hX (by decide +kernel) rfl rfl ?_
    refine J_pF (pc := 36) hX (by decide +kernel) fl_Mo_297 hL.1 rfl (fun μ1 => ?_)
    exact J_vret (pc := 39) hX (by decide +kernel) rfl trivial
  · refine J_aload_n (k0 := 0) (pc := 13) 0 hX (by decide +kernel) rfl rfl ?_
    refine J_gr (pc := 14) hX (by decide +kernel) fl_Mo_65 hL.1 rfl hL.2.2.2.2.2.2.2.2.2.2.2.2.2.2.2.2.2.2.1.1 ?_
    refine J_iload_n (k0 := 3) (pc := 17) 2 hX (by decide +kernel) rfl rfl ?_
    refine J_aload_n (k0 := 0) (pc := 18) 0 hX (by decide +kernel) rfl rfl ?_
    refine J_gr (pc := 19) hX (by decide +kernel) fl_Mo_65 hL.1 rfl hL.2.2.2.2.2.2.2.2.2.2.2.2.2.2.2.2.2.2.1.1 ?_
    refine J_bipush (pc := 22) (n := 16) (v := 16) hX (by decide +kernel) (by decide +kernel) ?_
    refine J_iload_n (k0 := 3) (pc := 24) 2 hX (by decide +kernel) rfl rfl ?_
    refine J_iadd (pc := 25) hX (by decide +kernel) ?_
    refine J_ldA (pc := 26) hX (by decide +kernel) hL.2.2.2.2.2.2.2.2.2.2.2.2.2.2.2.2.2.2.1.2 (fun x2 => ?_)
    refine J_stA (pc := 27) hX (by decide +kernel) hL.2.2.2.2.2.2.2.2.2.2.2.2.2.2.2.2.2.2.1.2 (fun μ3 => ?_)
    refine J_iinc (pc := 28) (n := 1) 2 [(3, .int (v3 + 1)), (0, .ref (G.1 + a)), (2, .int v2)] hX (by decide +kernel) rfl rfl (by decide) rfl ?_
    refine J_goto (pc := 31) (off := -24) (tgt := 7) hX (by decide +kernel) (by decide +kernel) ?_
    exact J_sub [1, 2, 0] _ rfl (hk7 (v3 + 1) μ3)
set_option maxRecDepth 100000 in
set_option maxHeartbeats 4000000 in
theorem jMo_takesOther_7 {X : Cx} {l : Launch} {G : Gx} {y : Ly} {a : Nat} (hL : LyMo y a ) (hX : Ok X l G prog_13_method_58_code 4 none "SaltFiguresModel") (v2 : Int32)   : ∀ (fu : Nat) (v3 : Int32) (μ : Mu), J X G 4 4 y (emy y) rvV tpT 7 [(0, .ref (G.1 + a)), (2, .int v2), (3, .int v3)] [] (μ, y) (Mo_takesOther_7 a  v2 fu v3 μ) := by
  intro fu
  induction fu with
  | zero => intros; exact J_none
  | succ fu ih => intro v3 μ; exact jMo_takesOther_7b hL hX v2  ih v3 μ
set_option maxRecDepth 100000 in
set_option maxHeartbeats 4000000 in
theorem jMo_takesOther {X : Cx} {l : Launch} {G : Gx} {y : Ly} {a : Nat} (hL : LyMo y a ) (hX : Ok X l G prog_13_method_58_code 4 none "SaltFiguresModel") (v1 : Int32) (v2 : Int32) (μ : Mu) : J X G 4 4 y (emy y) rvV tpT 0 [(0, .ref (G.1 + a)), (1, .int v1), (2, .int v2)] [] (μ, y) (Mo_takesOther a v1 v2 μ) := by
  unfold Mo_takesOther
  refine J_iload_n (k0 := 1) (pc := 0) 1 hX (by decide +kernel) rfl rfl ?_
  refine J_iconst (pc := 1) (n := 3) (v := 3) hX (by decide +kernel) (by decide +kernel) ?_
  refine J_icmp_ne (pc := 2) (off := 38) (tgt := 40) hX (by decide +kernel) (by decide +kernel) (fun _ => ?_) (fun _ => ?_)
  · refine J_iload_n (k0 := 1) (pc := 40) 1 hX (by decide +kernel) rfl rfl ?_
    refine J_iconst (pc := 41) (n := 1) (v := 1) hX (by decide +kernel) (by decide +kernel) ?_
    refine J_icmp_ne (pc := 42) (off := 11) (tgt := 53) hX (by decide +kernel) (by decide +kernel) (fun _ => ?_) (fun _ => ?_)
    · refine J_iconst (pc := 53) (n := 0) (v := 0) hX (by decide +kernel) (by decide +kernel) ?_
      refine J_istore_n (k0 := 3) (pc := 54) [(3, .int 0), (0, .ref (G.1 + a)), (1, .int v1), (2, .int v2)] hX (by decide +kernel) rfl (by decide) rfl ?_
      exact J_sub [1, 3, 0] _ rfl (jMo_takesOther_55 hL hX v2 FU 0 μ)
    · refine J_aload_n (k0 := 0) (pc := 45) 0 hX (by decide +kernel) rfl rfl ?_
      refine J_iload_n (k0 := 2) (pc := 46) 2 hX (by decide +kernel) rfl rfl ?_
      refine J_cVv (pc := 47) (idx := 300) [.int v2] hX (by decide +kernel) (mq mt_7 146 (by decide +kernel)) mv_Mo_takesTable hL.1 rfl rfl (Nat.le_of_ble_eq_true rfl) (Nat.le_of_ble_eq_true rfl) (c_Mo_takesTable hL v2 μ) (fun μ1 => ?_)
      refine J_goto (pc := 50) (off := 38) (tgt := 88) hX (by decide +kernel) (by decide +kernel) ?_
      exact J_sub [0] _ rfl (jMo_takesOther_88 hL hX μ1)
  · refine J_iconst (pc := 5) (n := 0) (v := 0) hX (by decide +kernel) (by decide +kernel) ?_
    refine J_istore_n (k0 := 3) (pc := 6) [(3, .int 0), (0, .ref (G.1 + a)), (1, .int v1), (2, .int v2)] hX (by decide +kernel) rfl (by decide) rfl ?_
    exact J_sub [1, 3, 0] _ rfl (jMo_takesOther_7 hL hX v2 FU 0 μ)
set_option maxRecDepth 100000 in
set_option maxHeartbeats 4000000 in
theorem c_Mo_takesOther {l : Launch} {G : Gx} {y : Ly} {a : Nat} (hL : LyMo y a ) (v1 : Int32) (v2 : Int32) (μ : Mu) : Cn l G ⟨"SaltFiguresModel", "takesOther", "(II)V"⟩ prog_13_method_58_code 4 none 4 [.ref (G.1 + a), .int v1, .int v2] (μ, y) (emy y) rvV tpT (Mo_takesOther a v1 v2 μ) := cn_of (by decide +kernel) (Nat.le_of_ble_eq_true rfl) (fun _ _ _ => ⟨List.prefix_refl _, trivial⟩) (fun X hX _ => jMo_takesOther hL hX v1 v2 μ)

def Mo_tellsOf_76 (a : Nat) (kb4 : Int32 → Int32 → Mu → Option (Int32 × Mu))  (v1 : Int32) (v2 : Int32) (v3 : Int32)  (μ : Mu) : Option (Int32 × Mu) := kb4 v2 (v3 + 1) μ
def Mo_tellsOf_51 (a : Nat) (kb4 : Int32 → Int32 → Mu → Option (Int32 × Mu))  (v1 : Int32) (v2 : Int32) (v3 : Int32)  (μ : Mu) : Option (Int32 × Mu) := stA μ (a + 31) 32 v2 1 (fun μ1 => ldA μ1 (a + 30) 32 v3 (fun x2 => stA μ1 (a + 31) 32 (v2 + 1) x2 (fun μ3 => Mo_tellsOf_76 a kb4 v1 (v2 + 2) v3 μ3)))
def Mo_tellsOf_4b (a : Nat)  (kb4 : Int32 → Int32 → Mu → Option (Int32 × Mu)) (v1 : Int32) (v2 : Int32) (v3 : Int32)  (μ : Mu) : Option (Int32 × Mu) := (if v1 ≤ v3 then some (v2, μ) else (if v3 ≤ 0 then Mo_tellsOf_51 a kb4 v1 v2 v3 μ else ldA μ (a + 30) 32 v3 (fun x1 => ldA μ (a + 30) 32 (v3 - 1) (fun x2 => (if x1 = x2 then ldA μ (a + 31) 32 (v2 - 2) (fun x3 => stA μ (a + 31) 32 (v2 - 2) (x3 + 1) (fun μ4 => Mo_tellsOf_76 a kb4 v1 v2 v3 μ4)) else Mo_tellsOf_51 a kb4 v1 v2 v3 μ)))))
def Mo_tellsOf_4 (a : Nat)  (v1 : Int32) (fu : Nat) : Int32 → Int32 → Mu → Option (Int32 × Mu) := lp (fun kb => Mo_tellsOf_4b a  kb v1) (fun _ _ _ => none) fu
def Mo_tellsOf (a : Nat) (v1 : Int32) (μ : Mu) : Option (Int32 × Mu) := Mo_tellsOf_4 a v1 FU 0 0 μ
set_option maxRecDepth 100000 in
set_option maxHeartbeats 4000000 in
theorem jMo_tellsOf_76 {X : Cx} {l : Launch} {G : Gx} {y : Ly} {a : Nat} (hL : LyMo y a ) (hX : Ok X l G prog_13_method_117_code 4 (some .int) "SaltFiguresModel")  (v1 : Int32) (v2 : Int32) (v3 : Int32)  {kb4 : Int32 → Int32 → Mu → Option (Int32 × Mu)} (hk4 : ∀ (v2 : Int32) (v3 : Int32) (μ : Mu), J X G 4 1 y (emy y) rvI tpT 4 [(0, .ref (G.1 + a)), (1, .int v1), (2, .int v2), (3, .int v3)] [] (μ, y) (kb4 v2 v3 μ)) (μ : Mu) : J X G 4 1 y (emy y) rvI tpT 76 [(0, .ref (G.1 + a)), (1, .int v1), (2, .int v2), (3, .int v3)] [] (μ, y) (Mo_tellsOf_76 a kb4  v1 v2 v3  μ) := by
  unfold Mo_tellsOf_76
  refine J_iinc (pc := 76) (n := 1) 3 [(3, .int (v3 + 1)), (0, .ref (G.1 + a)), (1, .int v1), (2, .int v2)] hX (by decide +kernel) rfl rfl (by decide) rfl ?_
  refine J_goto (pc := 79) (off := -75) (tgt := 4) hX (by decide +kernel) (by decide +kernel) ?_
  exact J_sub [1, 2, 3, 0] _ rfl (hk4 v2 (v3 + 1) μ)
set_option maxRecDepth 100000 in
set_option maxHeartbeats 4000000 in
theorem jMo_tellsOf_51 {X : Cx} {l : Launch} {G : Gx} {y : Ly} {a : Nat} (hL : LyMo y a ) (hX : Ok X l G prog_13_method_117_code 4 (some .int) "SaltFiguresModel")  (v1 : Int32) (v2 : Int32) (v3 : Int32)  {kb4 : Int32 → Int32 → Mu → Option (Int32 × Mu)} (hk4 : ∀ (v2 : Int32) (v3 : Int32) (μ : Mu), J X G 4 1 y (emy y) rvI tpT 4 [(0, .ref (G.1 + a)), (1, .int v1), (2, .int v2), (3, .int v3)] [] (μ, y) (kb4 v2 v3 μ)) (μ : Mu) : J X G 4 1 y (emy y) rvI tpT 51 [(0, .ref (G.1 + a)), (1, .int v1), (2, .int v2), (3, .int v3)] [] (μ, y) (Mo_tellsOf_51 a kb4  v1 v2 v3  μ) := by
  unfold Mo_tellsOf_51
  refine J_aload_n (k0 := 0) (pc := 51) 0 hX (by decide +kernel) rfl rfl ?_
  refine J_gr (pc := 52) hX (by decide +kernel) fl_Mo_104 hL.1 rfl hL.2.2.2.2.2.2.2.2.2.2.2.2.2.2.2.2.2.2.2.2.2.2.2.2.2.2.2.2.2.2.2.1.1 ?_
  refine J_iload_n (k0 := 2) (pc := 55) 2 hX (by decide +kernel) rfl rfl ?_
  refine J_iconst (pc := 56) (n := 1) (v := 1) hX (by decide +kernel) (by decide +kernel) ?_
  refine J_stA (pc := 57) hX (by decide +kernel) hL.2.2.2.2.2.2.2.2.2.2.2.2.2.2.2.2.2.2.2.2.2.2.2.2.2.2.2.2.2.2.2.1.2 (fun μ1 => ?_)
  refine J_aload_n (k0 := 0) (pc := 58) 0 hX (by decide +kernel) rfl rfl ?_
  refine J_gr (pc := 59) hX (by decide +kernel) fl_Mo_104 hL.1 rfl hL.2.2.2.2.2.2.2.2.2.2.2.2.2.2.2.2.2.2.2.2.2.2.2.2.2.2.2.2.2.2.2.1.1 ?_
  refine J_iload_n (k0 := 2) (pc := 62) 2 hX (by decide +kernel) rfl rfl ?_
  refine J_iconst (pc := 63) (n := 1) (v := 1) hX (by decide +kernel) (by decide +kernel) ?_
  refine J_iadd (pc := 64) hX (by decide +kernel) ?_
  refine J_aload_n (k0 := 0) (pc := 65) 0 hX (by decide +kernel) rfl rfl ?_
  refine J_gr (pc := 66) hX (by decide +kernel) fl_Mo_101 hL.1 rfl hL.2.2.2.2.2.2.2.2.2.2.2.2.2.2.2.2.2.2.2.2.2.2.2.2.2.2.2.2.2.2.1.1 ?_
  refine J_iload_n (k0 := 3) (pc := 69) 3 hX (by decide +kernel) rfl rfl ?_
  refine J_ldA (pc := 70) hX (by decide +kernel) hL.2.2.2.2.2.2.2.2.2.2.2.2.2.2.2.2.2.2.2.2.2.2.2.2.2.2.2.2.2.2.1.2 (fun x2 => ?_)
  refine J_stA (pc := 71) hX (by decide +kernel) hL.2.2.2.2.2.2.2.2.2.2.2.2.2.2.2.2.2.2.2.2.2.2.2.2.2.2.2.2.2.2.2.1.2 (fun μ3 => ?_)
  refine J_iload_n (k0 := 2) (pc := 72) 2 hX (by decide +kernel) rfl rfl ?_
  refine J_iconst (pc := 73) (n := 2) (v := 2) hX (by decide +kernel) (by decide +kernel) ?_
  refine J_iadd (pc := 74) hX (by decide +kernel) ?_
  refine J_istore_n (k0 := 2) (pc := 75) [(2, .int (v2 + 2)), (0, .ref (G.1 + a)), (1, .int v1), (3, .int v3)] hX (by decide +kernel) rfl (by decide) rfl ?_
  exact J_sub [1, 2, 0, 3] _ rfl (jMo_tellsOf_76 hL hX v1 (v2 + 2) v3 hk4 μ3)
set_option maxRecDepth 100000 in
set_option maxHeartbeats 4000000 in
theorem jMo_tellsOf_4b {X : Cx} {l : Launch} {G : Gx} {y : Ly} {a : Nat} (hL : LyMo y a ) (hX : Ok X l G prog_13_method_117_code 4 (some .int) "SaltFiguresModel") (v1 : Int32)  {kb4 : Int32 → Int32 → Mu → Option (Int32 × Mu)}  (hk4 : ∀ (v2 : Int32) (v3 : Int32) (μ : Mu), J X G 4 1 y (emy y) rvI tpT 4 [(0, .ref (G.1 + a)), (1, .int v1), (2, .int v2), (3, .int v3)] [] (μ, y) (kb4 v2 v3 μ)) (v2 : Int32) (v3 : Int32)  (μ : Mu) : J X G 4 1 y (emy y) rvI tpT 4 [(0, .ref (G.1 + a)), (1, .int v1), (2, .int v2), (3, .int v3)] [] (μ, y) (Mo_tellsOf_4b a  kb4 v1 v2 v3  μ) := by
  unfold Mo_tellsOf_4b
  refine J_iload_n (k0 := 3) (pc := 4) 3 hX (by decide +kernel) rfl rfl ?_
  refine J_iload_n (k0 := 1) (pc := 5) 1 hX (by decide +kernel) rfl rfl ?_
  refine J_icmp_ge (pc := 6) (off := 76) (tgt := 82) hX (by decide +kernel) (by decide +kernel) (fun _ => ?_) (fun _ => ?_)
  · refine J_iload_n (k0 := 2) (pc := 82) 2 hX (by decide +kernel) rfl rfl ?_
    exact J_iret (pc := 83) hX (by decide +kernel) rfl trivial
  · refine J_iload_n (k0 := 3) (pc := 9) 3 hX (by decide +kernel) rfl rfl ?_
    refine J_if_le (pc := 10) (off := 41) (tgt := 51) hX (by decide +kernel) (by decide +kernel) (fun _ => ?_) (fun _ => ?_)
    · exact J_sub [0, 1, 2, 3] _ rfl (jMo_tellsOf_51 hL hX v1 v2 v3 hk4 μ)
    · refine J_aload_n (k0 := 0) (pc := 13) 0 hX (by decide +kernel) rfl rfl ?_
      refine J_gr (pc := 14) hX (by decide +kernel) fl_Mo_101 hL.1 rfl hL.2.2.2.2.2.2.2.2.2.2.2.2.2.2.2.2.2.2.2.2.2.2.2.2.2.2.2.2.2.2.1.1 ?_
      refine J_iload_n (k0 := 3) (pc := 17) 3 hX (by decide +kernel) rfl rfl ?_
      refine J_ldA (pc := 18) hX (by decide +kernel) hL.2.2.2.2.2.2.2.2.2.2.2.2.2.2.2.2.2.2.2.2.2.2.2.2.2.2.2.2.2.2.1.2 (fun x1 => ?_)
      refine J_aload_n (k0 := 0) (pc := 19) 0 hX (by decide +kernel) rfl rfl ?_
      refine J_gr (pc := 20) hX (by decide +kernel) fl_Mo_101 hL.1 rfl hL.2.2.2.2.2.2.2.2.2.2.2.2.2.2.2.2.2.2.2.2.2.2.2.2.2.2.2.2.2.2.1.1 ?_
      refine J_iload_n (k0 := 3) (pc := 23) 3 hX (by decide +kernel) rfl rfl ?_
      refine J_iconst (pc := 24) (n := 1) (v := 1) hX (by decide +kernel) (by decide +kernel) ?_
      refine J_isub (pc := 25) hX (by decide +kernel) ?_
      refine J_ldA (pc := 26) hX (by decide +kernel) hL.2.2.2.2.2.2.2.2.2.2.2.2.2.2.2.2.2.2.2.2.2.2.2.2.2.2.2.2.2.2.1.2 (fun x2 => ?_)
      refine J_icmp_ne (pc := 27) (off := 24) (tgt := 51) hX (by decide +kernel) (by decide +kernel) (fun _ => ?_) (fun _ => ?_)
      · exact J_sub [0, 1, 2, 3] _ rfl (jMo_tellsOf_51 hL hX v1 v2 v3 hk4 μ)
      · refine J_aload_n (k0 := 0) (pc := 30) 0 hX (by decide +kernel) rfl rfl ?_
        refine J_gr (pc := 31) hX (by decide +kernel) fl_Mo_104 hL.1 rfl hL.2.2.2.2.2.2.2.2.2.2.2.2.2.2.2.2.2.2.2.2.2.2.2.2.2.2.2.2.2.2.2.1.1 ?_
        refine J_iload_n (k0 := 2) (pc := 34) 2 hX (by decide +kernel) rfl rfl ?_
        refine J_iconst (pc := 35) (n := 2) (v := 2) hX (by decide +kernel) (by decide +kernel) ?_
        refine J_isub (pc := 36) hX (by decide +kernel) ?_
        refine J_aload_n (k0 := 0) (pc := 37) 0 hX (by decide +kernel) rfl rfl ?_
        refine J_gr (pc := 38) hX (by decide +kernel) fl_Mo_104 hL.1 rfl hL.2.2.2.2.2.2.2.2.2.2.2.2.2.2.2.2.2.2.2.2.2.2.2.2.2.2.2.2.2.2.2.1.1 ?_
        refine J_iload_n (k0 := 2) (pc := 41) 2 hX (by decide +kernel) rfl rfl ?_
        refine J_iconst (pc := 42) (n := 2) (v := 2) hX (by decide +kernel) (by decide +kernel) ?_
        refine J_isub (pc := 43) hX (by decide +kernel) ?_
        refine J_ldA (pc := 44) hX (by decide +kernel) hL.2.2.2.2.2.2.2.2.2.2.2.2.2.2.2.2.2.2.2.2.2.2.2.2.2.2.2.2.2.2.2.1.2 (fun x3 => ?_)
        refine J_iconst (pc := 45) (n := 1) (v := 1) hX (by decide +kernel) (by decide +kernel) ?_
        refine J_iadd (pc := 46) hX (by decide +kernel) ?_
        refine J_stA (pc := 47) hX (by decide +kernel) hL.2.2.2.2.2.2.2.2.2.2.2.2.2.2.2.2.2.2.2.2.2.2.2.2.2.2.2.2.2.2.2.1.2 (fun μ4 => ?_)
        refine J_goto (pc := 48) (off := 28) (tgt := 76) hX (by decide +kernel) (by decide +kernel) ?_
        exact J_sub [0, 1, 2, 3] _ rfl (jMo_tellsOf_76 hL hX v1 v2 v3 hk4 μ4)
set_option maxRecDepth 100000 in
set_option maxHeartbeats 4000000 in
theorem jMo_tellsOf_4 {X : Cx} {l : Launch} {G : Gx} {y : Ly} {a : Nat} (hL : LyMo y a ) (hX : Ok X l G prog_13_method_117_code 4 (some .int) "SaltFiguresModel") (v1 : Int32)   : ∀ (fu : Nat) (v2 : Int32) (v3 : Int32) (μ : Mu), J X G 4 1 y (emy y) rvI tpT 4 [(0, .ref (G.1 + a)), (1, .int v1), (2, .int v2), (3, .int v3)] [] (μ, y) (Mo_tellsOf_4 a  v1 fu v2 v3 μ) := by
  intro fu
  induction fu with
  | zero => intros; exact J_none
  | succ fu ih => intro v2 v3 μ; exact jMo_tellsOf_4b hL hX v1  ih v2 v3 μ
set_option maxRecDepth 100000 in
set_option maxHeartbeats 4000000 in
theorem jMo_tellsOf {X : Cx} {l : Launch} {G : Gx} {y : Ly} {a : Nat} (hL : LyMo y a ) (hX : Ok X l G prog_13_method_117_code 4 (some .int) "SaltFiguresModel") (v1 : Int32) (μ : Mu) : J X G 4 1 y (emy y) rvI tpT 0 [(0, .ref (G.1 + a)), (1, .int v1)] [] (μ, y) (Mo_tellsOf a v1 μ) := by
  unfold Mo_tellsOf
  refine J_iconst (pc := 0) (n := 0) (v := 0) hX (by decide +kernel) (by decide +kernel) ?_
  refine J_istore_n (k0 := 2) (pc := 1) [(2, .int 0), (0, .ref (G.1 + a)), (1, .int v1)] hX (by decide +kernel) rfl (by decide) rfl ?_
  refine J_iconst (pc := 2) (n := 0) (v := 0) hX (by decide +kernel) (by decide +kernel) ?_
  refine J_istore_n (k0 := 3) (pc := 3) [(3, .int 0), (2, .int 0), (0, .ref (G.1 + a)), (1, .int v1)] hX (by decide +kernel) rfl (by decide) rfl ?_
  exact J_sub [2, 3, 1, 0] _ rfl (jMo_tellsOf_4 hL hX v1 FU 0 0 μ)
set_option maxRecDepth 100000 in
set_option maxHeartbeats 4000000 in
theorem c_Mo_tellsOf {l : Launch} {G : Gx} {y : Ly} {a : Nat} (hL : LyMo y a ) (v1 : Int32) (μ : Mu) : Cn l G ⟨"SaltFiguresModel", "tellsOf", "(I)I"⟩ prog_13_method_117_code 4 (some .int) 1 [.ref (G.1 + a), .int v1] (μ, y) (emy y) rvI tpT (Mo_tellsOf a v1 μ) := cn_of (by decide +kernel) (Nat.le_of_ble_eq_true rfl) (fun _ _ _ => ⟨List.prefix_refl _, trivial⟩) (fun X hX _ => jMo_tellsOf hL hX v1 μ)

def Mo_tellsOne_25b (a : Nat) (kb11 : Int32 → Int32 → Mu → Option (Int32 × Mu)) (kb25 : Int32 → Mu → Option (Int32 × Mu)) (v1 : Int32) (v2 : Int32) (v3 : Int32) (v4 : Int32)  (μ : Mu) : Option (Int32 × Mu) := (if v2 ≤ v4 then kb11 v2 (v3 + 1) μ else ldA μ (a + 31) 32 v4 (fun x1 => stA μ (a + 30) 32 v4 x1 (fun μ2 => kb25 (v4 + 1) μ2)))
def Mo_tellsOne_25 (a : Nat) (kb11 : Int32 → Int32 → Mu → Option (Int32 × Mu)) (v1 : Int32) (v2 : Int32) (v3 : Int32) (fu : Nat) : Int32 → Mu → Option (Int32 × Mu) := lp (fun kb => Mo_tellsOne_25b a kb11 kb v1 v2 v3) (fun _ _ => none) fu
def Mo_tellsOne_11b (a : Nat)  (kb11 : Int32 → Int32 → Mu → Option (Int32 × Mu)) (v1 : Int32) (v2 : Int32) (v3 : Int32)  (μ : Mu) : Option (Int32 × Mu) := (if v1 ≤ v3 then some (v2, μ) else cl (Mo_tellsOf a v2 μ) (fun x2 μ1 => Mo_tellsOne_25 a kb11 v1 x2 v3 FU 0 μ1))
def Mo_tellsOne_11 (a : Nat)  (v1 : Int32) (fu : Nat) : Int32 → Int32 → Mu → Option (Int32 × Mu) := lp (fun kb => Mo_tellsOne_11b a  kb v1) (fun _ _ _ => none) fu
def Mo_tellsOne (a : Nat) (v1 : Int32) (μ : Mu) : Option (Int32 × Mu) := stA μ (a + 30) 32 0 1 (fun μ1 => Mo_tellsOne_11 a v1 FU 1 0 μ1)
set_option maxRecDepth 100000 in
set_option maxHeartbeats 4000000 in
theorem jMo_tellsOne_25b {X : Cx} {l : Launch} {G : Gx} {y : Ly} {a : Nat} (hL : LyMo y a ) (hX : Ok X l G prog_13_method_118_code 5 (some .int) "SaltFiguresModel") (v1 : Int32) (v2 : Int32) (v3 : Int32) {kb11 : Int32 → Int32 → Mu → Option (Int32 × Mu)} {kb25 : Int32 → Mu → Option (Int32 × Mu)} (hk11 : ∀ (v2 : Int32) (v3 : Int32) (μ : Mu), J X G 5 2 y (emy y) rvI tpT 11 [(0, .ref (G.1 + a)), (1, .int v1), (2, .int v2), (3, .int v3)] [] (μ, y) (kb11 v2 v3 μ)) (hk25 : ∀ (v4 : Int32) (μ : Mu), J X G 5 2 y (emy y) rvI tpT 25 [(0, .ref (G.1 + a)), (1, .int v1), (2, .int v2), (3, .int v3), (4, .int v4)] [] (μ, y) (kb25 v4 μ)) (v4 : Int32)  (μ : Mu) : J X G 5 2 y (emy y) rvI tpT 25 [(0, .ref (G.1 + a)), (1, .int v1), (2, .int v2), (3, .int v3), (4, .int v4)] [] (μ, y) (Mo_tellsOne_25b a kb11 kb25 v1 v2 v3 v4  μ) := by
  unfold Mo_tellsOne_25b
  refine J_iload (pc := 25) 4 hX (by decide +kernel) rfl ?_
  refine J_iload_n (k0 := 2) (pc := 27) 2 hX (by decide +kernel) rfl rfl ?_
  refine J_icmp_ge (pc := 28) (off := 23) (tgt := 51) hX (by decide +kernel) (by decide +kernel) (fun _ => ?_) (fun _ => ?_)
  · refine J_iinc (pc := 51) (n := 1) 3 [(3, .int (v3 + 1)), (0, .ref (G.1 + a)), (1, .int v1), (2, .int v2), (4, .int v4)] hX (by decide +kernel) rfl rfl (by decide) rfl ?_
    refine J_goto (pc := 54) (off := -43) (tgt := 11) hX (by decide +kernel) (by decide +kernel) ?_
    exact J_sub [1, 2, 3, 0] _ rfl (hk11 v2 (v3 + 1) μ)
  · refine J_aload_n (k0 := 0) (pc := 31) 0 hX (by decide +kernel) rfl rfl ?_
    refine J_gr (pc := 32) hX (by decide +kernel) fl_Mo_101 hL.1 rfl hL.2.2.2.2.2.2.2.2.2.2.2.2.2.2.2.2.2.2.2.2.2.2.2.2.2.2.2.2.2.2.1.1 ?_
    refine J_iload (pc := 35) 4 hX (by decide +kernel) rfl ?_
    refine J_aload_n (k0 := 0) (pc := 37) 0 hX (by decide +kernel) rfl rfl ?_
    refine J_gr (pc := 38) hX (by decide +kernel) fl_Mo_104 hL.1 rfl hL.2.2.2.2.2.2.2.2.2.2.2.2.2.2.2.2.2.2.2.2.2.2.2.2.2.2.2.2.2.2.2.1.1 ?_
    refine J_iload (pc := 41) 4 hX (by decide +kernel) rfl ?_
    refine J_ldA (pc := 43) hX (by decide +kernel) hL.2.2.2.2.2.2.2.2.2.2.2.2.2.2.2.2.2.2.2.2.2.2.2.2.2.2.2.2.2.2.2.1.2 (fun x1 => ?_)
    refine J_stA (pc := 44) hX (by decide +kernel) hL.2.2.2.2.2.2.2.2.2.2.2.2.2.2.2.2.2.2.2.2.2.2.2.2.2.2.2.2.2.2.1.2 (fun μ2 => ?_)
    refine J_iinc (pc := 45) (n := 1) 4 [(4, .int (v4 + 1)), (0, .ref (G.1 + a)), (1, .int v1), (2, .int v2), (3, .int v3)] hX (by decide +kernel) rfl rfl (by decide) rfl ?_
    refine J_goto (pc := 48) (off := -23) (tgt := 25) hX (by decide +kernel) (by decide +kernel) ?_
    exact J_sub [1, 2, 3, 4, 0] _ rfl (hk25 (v4 + 1) μ2)
set_option maxRecDepth 100000 in
set_option maxHeartbeats 4000000 in
theorem jMo_tellsOne_25 {X : Cx} {l : Launch} {G : Gx} {y : Ly} {a : Nat} (hL : LyMo y a ) (hX : Ok X l G prog_13_method_118_code 5 (some .int) "SaltFiguresModel") (v1 : Int32) (v2 : Int32) (v3 : Int32) {kb11 : Int32 → Int32 → Mu → Option (Int32 × Mu)} (hk11 : ∀ (v2 : Int32) (v3 : Int32) (μ : Mu), J X G 5 2 y (emy y) rvI tpT 11 [(0, .ref (G.1 + a)), (1, .int v1), (2, .int v2), (3, .int v3)] [] (μ, y) (kb11 v2 v3 μ)) : ∀ (fu : Nat) (v4 : Int32) (μ : Mu), J X G 5 2 y (emy y) rvI tpT 25 [(0, .ref (G.1 + a)), (1, .int v1), (2, .int v2), (3, .int v3), (4, .int v4)] [] (μ, y) (Mo_tellsOne_25 a kb11 v1 v2 v3 fu v4 μ) := by
  intro fu
  induction fu with
  | zero => intros; exact J_none
  | succ fu ih => intro v4 μ; exact jMo_tellsOne_25b hL hX v1 v2 v3 hk11 ih v4 μ
set_option maxRecDepth 100000 in
set_option maxHeartbeats 4000000 in
theorem jMo_tellsOne_11b {X : Cx} {l : Launch} {G : Gx} {y : Ly} {a : Nat} (hL : LyMo y a ) (hX : Ok X l G prog_13_method_118_code 5 (some .int) "SaltFiguresModel") (v1 : Int32)  {kb11 : Int32 → Int32 → Mu → Option (Int32 × Mu)}  (hk11 : ∀ (v2 : Int32) (v3 : Int32) (μ : Mu), J X G 5 2 y (emy y) rvI tpT 11 [(0, .ref (G.1 + a)), (1, .int v1), (2, .int v2), (3, .int v3)] [] (μ, y) (kb11 v2 v3 μ)) (v2 : Int32) (v3 : Int32)  (μ : Mu) : J X G 5 2 y (emy y) rvI tpT 11 [(0, .ref (G.1 + a)), (1, .int v1), (2, .int v2), (3, .int v3)] [] (μ, y) (Mo_tellsOne_11b a  kb11 v1 v2 v3  μ) := by
  unfold Mo_tellsOne_11b
  refine J_iload_n (k0 := 3) (pc := 11) 3 hX (by decide +kernel) rfl rfl ?_
  refine J_iload_n (k0 := 1) (pc := 12) 1 hX (by decide +kernel) rfl rfl ?_
  refine J_icmp_ge (pc := 13) (off := 44) (tgt := 57) hX (by decide +kernel) (by decide +kernel) (fun _ => ?_) (fun _ => ?_)
  · refine J_iload_n (k0 := 2) (pc := 57) 2 hX (by decide +kernel) rfl rfl ?_
    exact J_iret (pc := 58) hX (by decide +kernel) rfl trivial
  · refine J_aload_n (k0 := 0) (pc := 16) 0 hX (by decide +kernel) rfl rfl ?_
    refine J_iload_n (k0 := 2) (pc := 17) 2 hX (by decide +kernel) rfl rfl ?_
    refine J_cVi (pc := 18) (idx := 468) [.int v2] hX (by decide +kernel) (mq mt_8 197 (by decide +kernel)) mv_Mo_tellsOf hL.1 rfl rfl (Nat.le_of_ble_eq_true rfl) (Nat.le_of_ble_eq_true rfl) (c_Mo_tellsOf hL v2 μ) (fun x2 μ1 => ?_)
    refine J_istore_n (k0 := 2) (pc := 21) [(2, .int x2), (0, .ref (G.1 + a)), (1, .int v1), (3, .int v3)] hX (by decide +kernel) rfl (by decide) rfl ?_
    refine J_iconst (pc := 22) (n := 0) (v := 0) hX (by decide +kernel) (by decide +kernel) ?_
    refine J_istore (pc := 23) [(4, .int 0), (2, .int x2), (0, .ref (G.1 + a)), (1, .int v1), (3, .int v3)] hX (by decide +kernel) (by decide) rfl ?_
    exact J_sub [2, 3, 1, 4, 0] _ rfl (jMo_tellsOne_25 hL hX v1 x2 v3 hk11 FU 0 μ1)
set_option maxRecDepth 100000 in
set_option maxHeartbeats 4000000 in
theorem jMo_tellsOne_11 {X : Cx} {l : Launch} {G : Gx} {y : Ly} {a : Nat} (hL : LyMo y a ) (hX : Ok X l G prog_13_method_118_code 5 (some .int) "SaltFiguresModel") (v1 : Int32)   : ∀ (fu : Nat) (v2 : Int32) (v3 : Int32) (μ : Mu), J X G 5 2 y (emy y) rvI tpT 11 [(0, .ref (G.1 + a)), (1, .int v1), (2, .int v2), (3, .int v3)] [] (μ, y) (Mo_tellsOne_11 a  v1 fu v2 v3 μ) := by
  intro fu
  induction fu with
  | zero => intros; exact J_none
  | succ fu ih => intro v2 v3 μ; exact jMo_tellsOne_11b hL hX v1  ih v2 v3 μ
set_option maxRecDepth 100000 in
set_option maxHeartbeats 4000000 in
theorem jMo_tellsOne {X : Cx} {l : Launch} {G : Gx} {y : Ly} {a : Nat} (hL : LyMo y a ) (hX : Ok X l G prog_13_method_118_code 5 (some .int) "SaltFiguresModel") (v1 : Int32) (μ : Mu) : J X G 5 2 y (emy y) rvI tpT 0 [(0, .ref (G.1 + a)), (1, .int v1)] [] (μ, y) (Mo_tellsOne a v1 μ) := by
  unfold Mo_tellsOne
  refine J_aload_n (k0 := 0) (pc := 0) 0 hX (by decide +kernel) rfl rfl ?_
  refine J_gr (pc := 1) hX (by decide +kernel) fl_Mo_101 hL.1 rfl hL.2.2.2.2.2.2.2.2.2.2.2.2.2.2.2.2.2.2.2.2.2.2.2.2.2.2.2.2.2.2.1.1 ?_
  refine J_iconst (pc := 4) (n := 0) (v := 0) hX (by decide +kernel) (by decide +kernel) ?_
  refine J_iconst (pc := 5) (n := 1) (v := 1) hX (by decide +kernel) (by decide +kernel) ?_
  refine J_stA (pc := 6) hX (by decide +kernel) hL.2.2.2.2.2.2.2.2.2.2.2.2.2.2.2.2.2.2.2.2.2.2.2.2.2.2.2.2.2.2.1.2 (fun μ1 => ?_)
  refine J_iconst (pc := 7) (n := 1) (v := 1) hX (by decide +kernel) (by decide +kernel) ?_
  refine J_istore_n (k0 := 2) (pc := 8) [(2, .int 1), (0, .ref (G.1 + a)), (1, .int v1)] hX (by decide +kernel) rfl (by decide) rfl ?_
  refine J_iconst (pc := 9) (n := 0) (v := 0) hX (by decide +kernel) (by decide +kernel) ?_
  refine J_istore_n (k0 := 3) (pc := 10) [(3, .int 0), (2, .int 1), (0, .ref (G.1 + a)), (1, .int v1)] hX (by decide +kernel) rfl (by decide) rfl ?_
  exact J_sub [2, 3, 1, 0] _ rfl (jMo_tellsOne_11 hL hX v1 FU 1 0 μ1)
set_option maxRecDepth 100000 in
set_option maxHeartbeats 4000000 in
theorem c_Mo_tellsOne {l : Launch} {G : Gx} {y : Ly} {a : Nat} (hL : LyMo y a ) (v1 : Int32) (μ : Mu) : Cn l G ⟨"SaltFiguresModel", "tellsOne", "(I)I"⟩ prog_13_method_118_code 5 (some .int) 2 [.ref (G.1 + a), .int v1] (μ, y) (emy y) rvI tpT (Mo_tellsOne a v1 μ) := cn_of (by decide +kernel) (Nat.le_of_ble_eq_true rfl) (fun _ _ _ => ⟨List.prefix_refl _, trivial⟩) (fun X hX _ => jMo_tellsOne hL hX v1 μ)

def Mo_text_69 (a : Nat)   (v1 : Int32) (v2 : Int32)  (μ : Mu) : Option (Int32 × Mu) := pF μ a 9 0 (fun μ1 => (if v2 = ((-1)) then some ((-1), μ1) else (if v1 = 0 then cl (Mo_takesLaw a v2 μ1) (fun _ μ3 => some (v2, μ3)) else cl (Mo_takesOther a v1 v2 μ1) (fun _ μ2 => some (v2, μ2)))))
def Mo_text (a : Nat) (v1 : Int32) (μ : Mu) : Option (Int32 × Mu) := pF μ a 0 0 (fun μ1 => pF μ1 a 29 0 (fun μ2 => pF μ2 a 30 ((-1)) (fun μ3 => pF μ3 a 10 0 (fun μ4 => pF μ4 a 23 0 (fun μ5 => pF μ5 a 24 0 (fun μ6 => cl (Mo_isIn a v1 0 3 μ6) (fun x8 μ7 => (if x8 = 0 then Mo_text_69 a v1 ((-1)) μ7 else cl (Mo_readsText a v1 μ7) (fun x10 μ9 => (if x10 = ((-1)) then gF μ9 a 27 (fun x11 => pF μ9 a 29 x11 (fun μ12 => gF μ12 a 28 (fun x13 => pF μ12 a 30 x13 (fun μ14 => Mo_text_69 a v1 x10 μ14)))) else Mo_text_69 a v1 x10 μ9))))))))))
set_option maxRecDepth 100000 in
set_option maxHeartbeats 4000000 in
theorem jMo_text_69 {X : Cx} {l : Launch} {G : Gx} {y : Ly} {a : Nat} (hL : LyMo y a ) (hX : Ok X l G prog_13_method_59_code 3 (some .int) "SaltFiguresModel")  (v1 : Int32) (v2 : Int32)    (μ : Mu) : J X G 3 11 y (emy y) rvI tpT 69 [(0, .ref (G.1 + a)), (1, .int v1), (2, .int v2)] [] (μ, y) (Mo_text_69 a   v1 v2  μ) := by
  unfold Mo_text_69
  refine J_aload_n (k0 := 0) (pc := 69) 0 hX (by decide +kernel) rfl rfl ?_
  refine J_iconst (pc := 70) (n := 0) (v := 0) hX (by decide +kernel) (by decide +kernel) ?_
  refine J_pF (pc := 71) hX (by decide +kernel) fl_Mo_165 hL.1 rfl (fun μ1 => ?_)
  refine J_iload_n (k0 := 2) (pc := 74) 2 hX (by decide +kernel) rfl rfl ?_
  refine J_iconst (pc := 75) (n := -1) (v := (-1)) hX (by decide +kernel) (by decide +kernel) ?_
  refine J_icmp_ne (pc := 76) (off := 5) (tgt := 81) hX (by decide +kernel) (by decide +kernel) (fun _ => ?_) (fun _ => ?_)
  · refine J_iload_n (k0 := 1) (pc := 81) 1 hX (by decide +kernel) rfl rfl ?_
    refine J_if_ne (pc := 82) (off := 11) (tgt := 93) hX (by decide +kernel) (by decide +kernel) (fun _ => ?_) (fun _ => ?_)
    · refine J_aload_n (k0 := 0) (pc := 93) 0 hX (by decide +kernel) rfl rfl ?_
      refine J_iload_n (k0 := 1) (pc := 94) 1 hX (by decide +kernel) rfl rfl ?_
      refine J_iload_n (k0 := 2) (pc := 95) 2 hX (by decide +kernel) rfl rfl ?_
      refine J_cVv (pc := 96) (idx := 315) [.int v1, .int v2] hX (by decide +kernel) (mq mt_7 142 (by decide +kernel)) mv_Mo_takesOther hL.1 rfl rfl (Nat.le_of_ble_eq_true rfl) (Nat.le_of_ble_eq_true rfl) (c_Mo_takesOther hL v1 v2 μ1) (fun μ2 => ?_)
      refine J_iload_n (k0 := 2) (pc := 99) 2 hX (by decide +kernel) rfl rfl ?_
      exact J_iret (pc := 100) hX (by decide +kernel) rfl trivial
    · refine J_aload_n (k0 := 0) (pc := 85) 0 hX (by decide +kernel) rfl rfl ?_
      refine J_iload_n (k0 := 2) (pc := 86) 2 hX (by decide +kernel) rfl rfl ?_
      refine J_cVv (pc := 87) (idx := 312) [.int v2] hX (by decide +kernel) (mq mt_7 138 (by decide +kernel)) mv_Mo_takesLaw hL.1 rfl rfl (Nat.le_of_ble_eq_true rfl) (Nat.le_of_ble_eq_true rfl) (c_Mo_takesLaw hL v2 μ1) (fun μ3 => ?_)
      refine J_goto (pc := 90) (off := 9) (tgt := 99) hX (by decide +kernel) (by decide +kernel) ?_
      refine J_iload_n (k0 := 2) (pc := 99) 2 hX (by decide +kernel) rfl rfl ?_
      exact J_iret (pc := 100) hX (by decide +kernel) rfl trivial
  · refine J_iconst (pc := 79) (n := -1) (v := (-1)) hX (by decide +kernel) (by decide +kernel) ?_
    exact J_iret (pc := 80) hX (by decide +kernel) rfl trivial
set_option maxRecDepth 100000 in
set_option maxHeartbeats 4000000 in
theorem jMo_text {X : Cx} {l : Launch} {G : Gx} {y : Ly} {a : Nat} (hL : LyMo y a ) (hX : Ok X l G prog_13_method_59_code 3 (some .int) "SaltFiguresModel") (v1 : Int32) (μ : Mu) : J X G 3 11 y (emy y) rvI tpT 0 [(0, .ref (G.1 + a)), (1, .int v1)] [] (μ, y) (Mo_text a v1 μ) := by
  unfold Mo_text
  refine J_aload_n (k0 := 0) (pc := 0) 0 hX (by decide +kernel) rfl rfl ?_
  refine J_iconst (pc := 1) (n := 0) (v := 0) hX (by decide +kernel) (by decide +kernel) ?_
  refine J_pF (pc := 2) hX (by decide +kernel) fl_Mo_131 hL.1 rfl (fun μ1 => ?_)
  refine J_aload_n (k0 := 0) (pc := 5) 0 hX (by decide +kernel) rfl rfl ?_
  refine J_iconst (pc := 6) (n := 0) (v := 0) hX (by decide +kernel) (by decide +kernel) ?_
  refine J_pF (pc := 7) hX (by decide +kernel) fl_Mo_306 hL.1 rfl (fun μ2 => ?_)
  refine J_aload_n (k0 := 0) (pc := 10) 0 hX (by decide +kernel) rfl rfl ?_
  refine J_iconst (pc := 11) (n := -1) (v := (-1)) hX (by decide +kernel) (by decide +kernel) ?_
  refine J_pF (pc := 12) hX (by decide +kernel) fl_Mo_52 hL.1 rfl (fun μ3 => ?_)
  refine J_aload_n (k0 := 0) (pc := 15) 0 hX (by decide +kernel) rfl rfl ?_
  refine J_iconst (pc := 16) (n := 0) (v := 0) hX (by decide +kernel) (by decide +kernel) ?_
  refine J_pF (pc := 17) hX (by decide +kernel) fl_Mo_172 hL.1 rfl (fun μ4 => ?_)
  refine J_aload_n (k0 := 0) (pc := 20) 0 hX (by decide +kernel) rfl rfl ?_
  refine J_iconst (pc := 21) (n := 0) (v := 0) hX (by decide +kernel) (by decide +kernel) ?_
  refine J_pF (pc := 22) hX (by decide +kernel) fl_Mo_206 hL.1 rfl (fun μ5 => ?_)
  refine J_aload_n (k0 := 0) (pc := 25) 0 hX (by decide +kernel) rfl rfl ?_
  refine J_iconst (pc := 26) (n := 0) (v := 0) hX (by decide +kernel) (by decide +kernel) ?_
  refine J_pF (pc := 27) hX (by decide +kernel) fl_Mo_238 hL.1 rfl (fun μ6 => ?_)
  refine J_iconst (pc := 30) (n := -1) (v := (-1)) hX (by decide +kernel) (by decide +kernel) ?_
  refine J_istore_n (k0 := 2) (pc := 31) [(2, .int ((-1))), (0, .ref (G.1 + a)), (1, .int v1)] hX (by decide +kernel) rfl (by decide) rfl ?_
  refine J_aload_n (k0 := 0) (pc := 32) 1 hX (by decide +kernel) rfl rfl ?_
  refine J_iload_n (k0 := 1) (pc := 33) 2 hX (by decide +kernel) rfl rfl ?_
  refine J_iconst (pc := 34) (n := 0) (v := 0) hX (by decide +kernel) (by decide +kernel) ?_
  refine J_iconst (pc := 35) (n := 3) (v := 3) hX (by decide +kernel) (by decide +kernel) ?_
  refine J_cVi (pc := 36) (idx := 154) [.int v1, .int 0, .int 3] hX (by decide +kernel) (mq mt_6 226 (by decide +kernel)) mv_Mo_isIn hL.1 rfl rfl (Nat.le_of_ble_eq_true rfl) (Nat.le_of_ble_eq_true rfl) (c_Mo_isIn hL v1 0 3 μ6) (fun x8 μ7 => ?_)
  refine J_if_eq (pc := 39) (off := 30) (tgt := 69) hX (by decide +kernel) (by decide +kernel) (fun _ => ?_) (fun _ => ?_)
  · exact J_sub [1, 2, 0] _ rfl (jMo_text_69 hL hX v1 ((-1)) μ7)
  · refine J_aload_n (k0 := 0) (pc := 42) 1 hX (by decide +kernel) rfl rfl ?_
    refine J_iload_n (k0 := 1) (pc := 43) 2 hX (by decide +kernel) rfl rfl ?_
    refine J_cVi (pc := 44) (idx := 309) [.int v1] hX (by decide +kernel) (mq mt_7 18 (by decide +kernel)) mv_Mo_readsText hL.1 rfl rfl (Nat.le_of_ble_eq_true rfl) (Nat.le_of_ble_eq_true rfl) (c_Mo_readsText hL v1 μ7) (fun x10 μ9 => ?_)
    refine J_istore_n (k0 := 2) (pc := 47) [(2, .int x10), (0, .ref (G.1 + a)), (1, .int v1)] hX (by decide +kernel) rfl (by decide) rfl ?_
    refine J_iload_n (k0 := 2) (pc := 48) 0 hX (by decide +kernel) rfl rfl ?_
    refine J_iconst (pc := 49) (n := -1) (v := (-1)) hX (by decide +kernel) (by decide +kernel) ?_
    refine J_icmp_ne (pc := 50) (off := 19) (tgt := 69) hX (by decide +kernel) (by decide +kernel) (fun _ => ?_) (fun _ => ?_)
    · exact J_sub [1, 2, 0] _ rfl (jMo_text_69 hL hX v1 x10 μ9)
    · refine J_aload_n (k0 := 0) (pc := 53) 1 hX (by decide +kernel) rfl rfl ?_
      refine J_aload_n (k0 := 0) (pc := 54) 1 hX (by decide +kernel) rfl rfl ?_
      refine J_gF (pc := 55) hX (by decide +kernel) fl_Mo_200 hL.1 rfl (fun x11 => ?_)
      refine J_pF (pc := 58) hX (by decide +kernel) fl_Mo_306 hL.1 rfl (fun μ12 => ?_)
      refine J_aload_n (k0 := 0) (pc := 61) 1 hX (by decide +kernel) rfl rfl ?_
      refine J_aload_n (k0 := 0) (pc := 62) 1 hX (by decide +kernel) rfl rfl ?_
      refine J_gF (pc := 63) hX (by decide +kernel) fl_Mo_203 hL.1 rfl (fun x13 => ?_)
      refine J_pF (pc := 66) hX (by decide +kernel) fl_Mo_52 hL.1 rfl (fun μ14 => ?_)
      exact J_sub [1, 2, 0] _ rfl (jMo_text_69 hL hX v1 x10 μ14)
set_option maxRecDepth 100000 in
set_option maxHeartbeats 4000000 in
theorem c_Mo_text {l : Launch} {G : Gx} {y : Ly} {a : Nat} (hL : LyMo y a ) (v1 : Int32) (μ : Mu) : Cn l G ⟨"SaltFiguresModel", "text", "(I)I"⟩ prog_13_method_59_code 3 (some .int) 11 [.ref (G.1 + a), .int v1] (μ, y) (emy y) rvI tpT (Mo_text a v1 μ) := cn_of (by decide +kernel) (Nat.le_of_ble_eq_true rfl) (fun _ _ _ => ⟨List.prefix_refl _, trivial⟩) (fun X hX _ => jMo_text hL hX v1 μ)

def Mo_told_31b (a : Nat)  (kb31 : Int32 → Mu → Option (Int32 × Mu)) (v1 : Int32) (v2 : Int32)  (μ : Mu) : Option (Int32 × Mu) := ldA μ (a + 26) 2 0 (fun x1 => (if x1 ≤ v2 then ldA μ (a + 26) 2 0 (fun x2 => cl (Mo_tellsOf a x2 μ) (fun x4 μ3 => (if v1 = 0 then some (x4, μ3) else cl (Mo_isIn a v1 100 (99 + x4) μ3) (fun x6 μ5 => (if x6 = 0 then some ((-1), μ5) else ldA μ5 (a + 31) 32 (v1 - 100) (fun x7 => some (x7, μ5))))))) else ldA μ (a + 27) 20 v2 (fun x8 => stA μ (a + 30) 32 v2 x8 (fun μ9 => kb31 (v2 + 1) μ9))))
def Mo_told_31 (a : Nat)  (v1 : Int32) (fu : Nat) : Int32 → Mu → Option (Int32 × Mu) := lp (fun kb => Mo_told_31b a  kb v1) (fun _ _ => none) fu
def Mo_told (a : Nat) (v1 : Int32) (μ : Mu) : Option (Int32 × Mu) := pF μ a 0 0 (fun μ1 => cl (Mo_isIn a v1 200 210 μ1) (fun x3 μ2 => (if x3 = 0 then Mo_told_31 a v1 FU 0 μ2 else cl (Mo_tellsOne a (v1 - 200) μ2) (fun x5 μ4 => some (x5, μ4)))))
set_option maxRecDepth 100000 in
set_option maxHeartbeats 4000000 in
theorem jMo_told_31b {X : Cx} {l : Launch} {G : Gx} {y : Ly} {a : Nat} (hL : LyMo y a ) (hX : Ok X l G prog_13_method_119_code 3 (some .int) "SaltFiguresModel") (v1 : Int32)  {kb31 : Int32 → Mu → Option (Int32 × Mu)}  (hk31 : ∀ (v2 : Int32) (μ : Mu), J X G 3 3 y (emy y) rvI tpT 31 [(0, .ref (G.1 + a)), (1, .int v1), (2, .int v2)] [] (μ, y) (kb31 v2 μ)) (v2 : Int32)  (μ : Mu) : J X G 3 3 y (emy y) rvI tpT 31 [(0, .ref (G.1 + a)), (1, .int v1), (2, .int v2)] [] (μ, y) (Mo_told_31b a  kb31 v1 v2  μ) := by
  unfold Mo_told_31b
  refine J_iload_n (k0 := 2) (pc := 31) 2 hX (by decide +kernel) rfl rfl ?_
  refine J_aload_n (k0 := 0) (pc := 32) 0 hX (by decide +kernel) rfl rfl ?_
  refine J_gr (pc := 33) hX (by decide +kernel) fl_Mo_89 hL.1 rfl hL.2.2.2.2.2.2.2.2.2.2.2.2.2.2.2.2.2.2.2.2.2.2.2.2.2.2.1.1 ?_
  refine J_iconst (pc := 36) (n := 0) (v := 0) hX (by decide +kernel) (by decide +kernel) ?_
  refine J_ldA (pc := 37) hX (by decide +kernel) hL.2.2.2.2.2.2.2.2.2.2.2.2.2.2.2.2.2.2.2.2.2.2.2.2.2.2.1.2 (fun x1 => ?_)
  refine J_icmp_ge (pc := 38) (off := 21) (tgt := 59) hX (by decide +kernel) (by decide +kernel) (fun _ => ?_) (fun _ => ?_)
  · refine J_aload_n (k0 := 0) (pc := 59) 0 hX (by decide +kernel) rfl rfl ?_
    refine J_aload_n (k0 := 0) (pc := 60) 0 hX (by decide +kernel) rfl rfl ?_
    refine J_gr (pc := 61) hX (by decide +kernel) fl_Mo_89 hL.1 rfl hL.2.2.2.2.2.2.2.2.2.2.2.2.2.2.2.2.2.2.2.2.2.2.2.2.2.2.1.1 ?_
    refine J_iconst (pc := 64) (n := 0) (v := 0) hX (by decide +kernel) (by decide +kernel) ?_
    refine J_ldA (pc := 65) hX (by decide +kernel) hL.2.2.2.2.2.2.2.2.2.2.2.2.2.2.2.2.2.2.2.2.2.2.2.2.2.2.1.2 (fun x2 => ?_)
    refine J_cVi (pc := 66) (idx := 468) [.int x2] hX (by decide +kernel) (mq mt_8 197 (by decide +kernel)) mv_Mo_tellsOf hL.1 rfl rfl (Nat.le_of_ble_eq_true rfl) (Nat.le_of_ble_eq_true rfl) (c_Mo_tellsOf hL x2 μ) (fun x4 μ3 => ?_)
    refine J_istore_n (k0 := 2) (pc := 69) [(2, .int x4), (0, .ref (G.1 + a)), (1, .int v1)] hX (by decide +kernel) rfl (by decide) rfl ?_
    refine J_iload_n (k0 := 1) (pc := 70) 2 hX (by decide +kernel) rfl rfl ?_
    refine J_if_ne (pc := 71) (off := 5) (tgt := 76) hX (by decide +kernel) (by decide +kernel) (fun _ => ?_) (fun _ => ?_)
    · refine J_aload_n (k0 := 0) (pc := 76) 1 hX (by decide +kernel) rfl rfl ?_
      refine J_iload_n (k0 := 1) (pc := 77) 2 hX (by decide +kernel) rfl rfl ?_
      refine J_bipush (pc := 78) (n := 100) (v := 100) hX (by decide +kernel) (by decide +kernel) ?_
      refine J_bipush (pc := 80) (n := 99) (v := 99) hX (by decide +kernel) (by decide +kernel) ?_
      refine J_iload_n (k0 := 2) (pc := 82) 0 hX (by decide +kernel) rfl rfl ?_
      refine J_iadd (pc := 83) hX (by decide +kernel) ?_
      refine J_cVi (pc := 84) (idx := 154) [.int v1, .int 100, .int (99 + x4)] hX (by decide +kernel) (mq mt_6 226 (by decide +kernel)) mv_Mo_isIn hL.1 rfl rfl (Nat.le_of_ble_eq_true rfl) (Nat.le_of_ble_eq_true rfl) (c_Mo_isIn hL v1 100 (99 + x4) μ3) (fun x6 μ5 => ?_)
      refine J_if_eq (pc := 87) (off := 15) (tgt := 102) hX (by decide +kernel) (by decide +kernel) (fun _ => ?_) (fun _ => ?_)
      · refine J_iconst (pc := 102) (n := -1) (v := (-1)) hX (by decide +kernel) (by decide +kernel) ?_
        exact J_iret (pc := 103) hX (by decide +kernel) rfl trivial
      · refine J_aload_n (k0 := 0) (pc := 90) 1 hX (by decide +kernel) rfl rfl ?_
        refine J_gr (pc := 91) hX (by decide +kernel) fl_Mo_104 hL.1 rfl hL.2.2.2.2.2.2.2.2.2.2.2.2.2.2.2.2.2.2.2.2.2.2.2.2.2.2.2.2.2.2.2.1.1 ?_
        refine J_iload_n (k0 := 1) (pc := 94) 2 hX (by decide +kernel) rfl rfl ?_
        refine J_bipush (pc := 95) (n := 100) (v := 100) hX (by decide +kernel) (by decide +kernel) ?_
        refine J_isub (pc := 97) hX (by decide +kernel) ?_
        refine J_ldA (pc := 98) hX (by decide +kernel) hL.2.2.2.2.2.2.2.2.2.2.2.2.2.2.2.2.2.2.2.2.2.2.2.2.2.2.2.2.2.2.2.1.2 (fun x7 => ?_)
        refine J_goto (pc := 99) (off := 4) (tgt := 103) hX (by decide +kernel) (by decide +kernel) ?_
        exact J_iret (pc := 103) hX (by decide +kernel) rfl trivial
    · refine J_iload_n (k0 := 2) (pc := 74) 0 hX (by decide +kernel) rfl rfl ?_
      exact J_iret (pc := 75) hX (by decide +kernel) rfl trivial
  · refine J_aload_n (k0 := 0) (pc := 41) 0 hX (by decide +kernel) rfl rfl ?_
    refine J_gr (pc := 42) hX (by decide +kernel) fl_Mo_101 hL.1 rfl hL.2.2.2.2.2.2.2.2.2.2.2.2.2.2.2.2.2.2.2.2.2.2.2.2.2.2.2.2.2.2.1.1 ?_
    refine J_iload_n (k0 := 2) (pc := 45) 2 hX (by decide +kernel) rfl rfl ?_
    refine J_aload_n (k0 := 0) (pc := 46) 0 hX (by decide +kernel) rfl rfl ?_
    refine J_gr (pc := 47) hX (by decide +kernel) fl_Mo_92 hL.1 rfl hL.2.2.2.2.2.2.2.2.2.2.2.2.2.2.2.2.2.2.2.2.2.2.2.2.2.2.2.1.1 ?_
    refine J_iload_n (k0 := 2) (pc := 50) 2 hX (by decide +kernel) rfl rfl ?_
    refine J_ldA (pc := 51) hX (by decide +kernel) hL.2.2.2.2.2.2.2.2.2.2.2.2.2.2.2.2.2.2.2.2.2.2.2.2.2.2.2.1.2 (fun x8 => ?_)
    refine J_stA (pc := 52) hX (by decide +kernel) hL.2.2.2.2.2.2.2.2.2.2.2.2.2.2.2.2.2.2.2.2.2.2.2.2.2.2.2.2.2.2.1.2 (fun μ9 => ?_)
    refine J_iinc (pc := 53) (n := 1) 2 [(2, .int (v2 + 1)), (0, .ref (G.1 + a)), (1, .int v1)] hX (by decide +kernel) rfl rfl (by decide) rfl ?_
    refine J_goto (pc := 56) (off := -25) (tgt := 31) hX (by decide +kernel) (by decide +kernel) ?_
    exact J_sub [1, 2, 0] _ rfl (hk31 (v2 + 1) μ9)
set_option maxRecDepth 100000 in
set_option maxHeartbeats 4000000 in
theorem jMo_told_31 {X : Cx} {l : Launch} {G : Gx} {y : Ly} {a : Nat} (hL : LyMo y a ) (hX : Ok X l G prog_13_method_119_code 3 (some .int) "SaltFiguresModel") (v1 : Int32)   : ∀ (fu : Nat) (v2 : Int32) (μ : Mu), J X G 3 3 y (emy y) rvI tpT 31 [(0, .ref (G.1 + a)), (1, .int v1), (2, .int v2)] [] (μ, y) (Mo_told_31 a  v1 fu v2 μ) := by
  intro fu
  induction fu with
  | zero => intros; exact J_none
  | succ fu ih => intro v2 μ; exact jMo_told_31b hL hX v1  ih v2 μ
set_option maxRecDepth 100000 in
set_option maxHeartbeats 4000000 in
theorem jMo_told {X : Cx} {l : Launch} {G : Gx} {y : Ly} {a : Nat} (hL : LyMo y a ) (hX : Ok X l G prog_13_method_119_code 3 (some .int) "SaltFiguresModel") (v1 : Int32) (μ : Mu) : J X G 3 3 y (emy y) rvI tpT 0 [(0, .ref (G.1 + a)), (1, .int v1)] [] (μ, y) (Mo_told a v1 μ) := by
  unfold Mo_told
  refine J_aload_n (k0 := 0) (pc := 0) 0 hX (by decide +kernel) rfl rfl ?_
  refine J_iconst (pc := 1) (n := 0) (v := 0) hX (by decide +kernel) (by decide +kernel) ?_
  refine J_pF (pc := 2) hX (by decide +kernel) fl_Mo_131 hL.1 rfl (fun μ1 => ?_)
  refine J_aload_n (k0 := 0) (pc := 5) 0 hX (by decide +kernel) rfl rfl ?_
  refine J_iload_n (k0 := 1) (pc := 6) 1 hX (by decide +kernel) rfl rfl ?_
  refine J_sipush (pc := 7) (n := 200) (v := 200) hX (by decide +kernel) (by decide +kernel) ?_
  refine J_sipush (pc := 10) (n := 210) (v := 210) hX (by decide +kernel) (by decide +kernel) ?_
  refine J_cVi (pc := 13) (idx := 154) [.int v1, .int 200, .int 210] hX (by decide +kernel) (mq mt_6 226 (by decide +kernel)) mv_Mo_isIn hL.1 rfl rfl (Nat.le_of_ble_eq_true rfl) (Nat.le_of_ble_eq_true rfl) (c_Mo_isIn hL v1 200 210 μ1) (fun x3 μ2 => ?_)
  refine J_if_eq (pc := 16) (off := 13) (tgt := 29) hX (by decide +kernel) (by decide +kernel) (fun _ => ?_) (fun _ => ?_)
  · refine J_iconst (pc := 29) (n := 0) (v := 0) hX (by decide +kernel) (by decide +kernel) ?_
    refine J_istore_n (k0 := 2) (pc := 30) [(2, .int 0), (0, .ref (G.1 + a)), (1, .int v1)] hX (by decide +kernel) rfl (by decide) rfl ?_
    exact J_sub [1, 2, 0] _ rfl (jMo_told_31 hL hX v1 FU 0 μ2)
  · refine J_aload_n (k0 := 0) (pc := 19) 0 hX (by decide +kernel) rfl rfl ?_
    refine J_iload_n (k0 := 1) (pc := 20) 1 hX (by decide +kernel) rfl rfl ?_
    refine J_sipush (pc := 21) (n := 200) (v := 200) hX (by decide +kernel) (by decide +kernel) ?_
    refine J_isub (pc := 24) hX (by decide +kernel) ?_
    refine J_cVi (pc := 25) (idx := 471) [.int (v1 - 200)] hX (by decide +kernel) (mq mt_8 193 (by decide +kernel)) mv_Mo_tellsOne hL.1 rfl rfl (Nat.le_of_ble_eq_true rfl) (Nat.le_of_ble_eq_true rfl) (c_Mo_tellsOne hL (v1 - 200) μ2) (fun x5 μ4 => ?_)
    exact J_iret (pc := 28) hX (by decide +kernel) rfl trivial
set_option maxRecDepth 100000 in
set_option maxHeartbeats 4000000 in
theorem c_Mo_told {l : Launch} {G : Gx} {y : Ly} {a : Nat} (hL : LyMo y a ) (v1 : Int32) (μ : Mu) : Cn l G ⟨"SaltFiguresModel", "told", "(I)I"⟩ prog_13_method_119_code 3 (some .int) 3 [.ref (G.1 + a), .int v1] (μ, y) (emy y) rvI tpT (Mo_told a v1 μ) := cn_of (by decide +kernel) (Nat.le_of_ble_eq_true rfl) (fun _ _ _ => ⟨List.prefix_refl _, trivial⟩) (fun X hX _ => jMo_told hL hX v1 μ)

def Mo_turnedOf_4b (a : Nat)  (kb4 : Int32 → Int32 → Mu → Option (Int32 × Mu))  (v2 : Int32) (v3 : Int32)  (μ : Mu) : Option (Int32 × Mu) := (if v3 ≤ 0 then some (v2, μ) else kb4 ((10 * v2) + (jrem v3 10)) (v3 / 10) μ)
def Mo_turnedOf_4 (a : Nat)   (fu : Nat) : Int32 → Int32 → Mu → Option (Int32 × Mu) := lp (fun kb => Mo_turnedOf_4b a  kb ) (fun _ _ _ => none) fu
def Mo_turnedOf (a : Nat) (v1 : Int32) (μ : Mu) : Option (Int32 × Mu) := Mo_turnedOf_4 a FU 0 v1 μ
set_option maxRecDepth 100000 in
set_option maxHeartbeats 4000000 in
theorem jMo_turnedOf_4b {X : Cx} {l : Launch} {G : Gx} {y : Ly} {a : Nat} (hL : LyMo y a ) (hX : Ok X l G prog_13_method_105_code 4 (some .int) "SaltFiguresModel")   {kb4 : Int32 → Int32 → Mu → Option (Int32 × Mu)}  (hk4 : ∀ (v2 : Int32) (v3 : Int32) (μ : Mu), J X G 4 1 y (emy y) rvI tpT 4 [(2, .int v2), (3, .int v3)] [] (μ, y) (kb4 v2 v3 μ)) (v2 : Int32) (v3 : Int32)  (μ : Mu) : J X G 4 1 y (emy y) rvI tpT 4 [(2, .int v2), (3, .int v3)] [] (μ, y) (Mo_turnedOf_4b a  kb4  v2 v3  μ) := by
  unfold Mo_turnedOf_4b
  refine J_iload_n (k0 := 3) (pc := 4) 1 hX (by decide +kernel) rfl rfl ?_
  refine J_if_le (pc := 5) (off := 21) (tgt := 26) hX (by decide +kernel) (by decide +kernel) (fun _ => ?_) (fun _ => ?_)
  · refine J_iload_n (k0 := 2) (pc := 26) 0 hX (by decide +kernel) rfl rfl ?_
    exact J_iret (pc := 27) hX (by decide +kernel) rfl trivial
  · refine J_bipush (pc := 8) (n := 10) (v := 10) hX (by decide +kernel) (by decide +kernel) ?_
    refine J_iload_n (k0 := 2) (pc := 10) 0 hX (by decide +kernel) rfl rfl ?_
    refine J_imul (pc := 11) hX (by decide +kernel) ?_
    refine J_iload_n (k0 := 3) (pc := 12) 1 hX (by decide +kernel) rfl rfl ?_
    refine J_bipush (pc := 13) (n := 10) (v := 10) hX (by decide +kernel) (by decide +kernel) ?_
    refine J_iremK (pc := 15) hX (by decide +kernel) (by decide +kernel) ?_
    refine J_iadd (pc := 16) hX (by decide +kernel) ?_
    refine J_istore_n (k0 := 2) (pc := 17) [(2, .int ((10 * v2) + (jrem v3 10))), (3, .int v3)] hX (by decide +kernel) rfl (by decide) rfl ?_
    refine J_iload_n (k0 := 3) (pc := 18) 1 hX (by decide +kernel) rfl rfl ?_
    refine J_bipush (pc := 19) (n := 10) (v := 10) hX (by decide +kernel) (by decide +kernel) ?_
    refine J_idivK (pc := 21) hX (by decide +kernel) (by decide +kernel) ?_
    refine J_istore_n (k0 := 3) (pc := 22) [(3, .int (v3 / 10)), (2, .int ((10 * v2) + (jrem v3 10)))] hX (by decide +kernel) rfl (by decide) rfl ?_
    refine J_goto (pc := 23) (off := -19) (tgt := 4) hX (by decide +kernel) (by decide +kernel) ?_
    exact J_sub [1, 0] _ rfl (hk4 ((10 * v2) + (jrem v3 10)) (v3 / 10) μ)
set_option maxRecDepth 100000 in
set_option maxHeartbeats 4000000 in
theorem jMo_turnedOf_4 {X : Cx} {l : Launch} {G : Gx} {y : Ly} {a : Nat} (hL : LyMo y a ) (hX : Ok X l G prog_13_method_105_code 4 (some .int) "SaltFiguresModel")    : ∀ (fu : Nat) (v2 : Int32) (v3 : Int32) (μ : Mu), J X G 4 1 y (emy y) rvI tpT 4 [(2, .int v2), (3, .int v3)] [] (μ, y) (Mo_turnedOf_4 a   fu v2 v3 μ) := by
  intro fu
  induction fu with
  | zero => intros; exact J_none
  | succ fu ih => intro v2 v3 μ; exact jMo_turnedOf_4b hL hX   ih v2 v3 μ
set_option maxRecDepth 100000 in
set_option maxHeartbeats 4000000 in
theorem jMo_turnedOf {X : Cx} {l : Launch} {G : Gx} {y : Ly} {a : Nat} (hL : LyMo y a ) (hX : Ok X l G prog_13_method_105_code 4 (some .int) "SaltFiguresModel") (v1 : Int32) (μ : Mu) : J X G 4 1 y (emy y) rvI tpT 0 [(0, .ref (G.1 + a)), (1, .int v1)] [] (μ, y) (Mo_turnedOf a v1 μ) := by
  unfold Mo_turnedOf
  refine J_iconst (pc := 0) (n := 0) (v := 0) hX (by decide +kernel) (by decide +kernel) ?_
  refine J_istore_n (k0 := 2) (pc := 1) [(2, .int 0), (0, .ref (G.1 + a)), (1, .int v1)] hX (by decide +kernel) rfl (by decide) rfl ?_
  refine J_iload_n (k0 := 1) (pc := 2) 2 hX (by decide +kernel) rfl rfl ?_
  refine J_istore_n (k0 := 3) (pc := 3) [(3, .int v1), (2, .int 0), (0, .ref (G.1 + a)), (1, .int v1)] hX (by decide +kernel) rfl (by decide) rfl ?_
  exact J_sub [1, 0] _ rfl (jMo_turnedOf_4 hL hX FU 0 v1 μ)
set_option maxRecDepth 100000 in
set_option maxHeartbeats 4000000 in
theorem c_Mo_turnedOf {l : Launch} {G : Gx} {y : Ly} {a : Nat} (hL : LyMo y a ) (v1 : Int32) (μ : Mu) : Cn l G ⟨"SaltFiguresModel", "turnedOf", "(I)I"⟩ prog_13_method_105_code 4 (some .int) 1 [.ref (G.1 + a), .int v1] (μ, y) (emy y) rvI tpT (Mo_turnedOf a v1 μ) := cn_of (by decide +kernel) (Nat.le_of_ble_eq_true rfl) (fun _ _ _ => ⟨List.prefix_refl _, trivial⟩) (fun X hX _ => jMo_turnedOf hL hX v1 μ)

def Mo_turned_34b (a : Nat)  (kb34 : Int32 → Int32 → Mu → Option (Int32 × Mu)) (v2 : Int32) (v3 : Int32) (v4 : Int32)  (μ : Mu) : Option (Int32 × Mu) := (if 21 ≤ v4 then some ((-1), μ) else cl (Mo_turnedOf a v3 μ) (fun x2 μ1 => (if x2 = v3 then (if v2 = 0 then some (v4, μ1) else some (v3, μ1)) else cl (Mo_turnedOf a v3 μ1) (fun x4 μ3 => (if x4 ≤ (999999999 - v3) then cl (Mo_turnedOf a v3 μ3) (fun x6 μ5 => kb34 (v3 + x6) (v4 + 1) μ5) else some ((-1), μ3))))))
def Mo_turned_34 (a : Nat)  (v2 : Int32) (fu : Nat) : Int32 → Int32 → Mu → Option (Int32 × Mu) := lp (fun kb => Mo_turned_34b a  kb v2) (fun _ _ _ => none) fu
def Mo_turned (a : Nat) (v1 : Int32) (v2 : Int32) (μ : Mu) : Option (Int32 × Mu) := pF μ a 0 0 (fun μ1 => cl (Mo_isIn a v1 0 99999 μ1) (fun x3 μ2 => (if x3 = 0 then some ((-1), μ2) else cl (Mo_isIn a v2 0 1 μ2) (fun x5 μ4 => (if x5 = 0 then some ((-1), μ4) else Mo_turned_34 a v2 FU v1 0 μ4)))))
set_option maxRecDepth 100000 in
set_option maxHeartbeats 4000000 in
theorem jMo_turned_34b {X : Cx} {l : Launch} {G : Gx} {y : Ly} {a : Nat} (hL : LyMo y a ) (hX : Ok X l G prog_13_method_106_code 5 (some .int) "SaltFiguresModel") (v2 : Int32)  {kb34 : Int32 → Int32 → Mu → Option (Int32 × Mu)}  (hk34 : ∀ (v3 : Int32) (v4 : Int32) (μ : Mu), J X G 5 2 y (emy y) rvI tpT 34 [(0, .ref (G.1 + a)), (2, .int v2), (3, .int v3), (4, .int v4)] [] (μ, y) (kb34 v3 v4 μ)) (v3 : Int32) (v4 : Int32)  (μ : Mu) : J X G 5 2 y (emy y) rvI tpT 34 [(0, .ref (G.1 + a)), (2, .int v2), (3, .int v3), (4, .int v4)] [] (μ, y) (Mo_turned_34b a  kb34 v2 v3 v4  μ) := by
  unfold Mo_turned_34b
  refine J_iload (pc := 34) 3 hX (by decide +kernel) rfl ?_
  refine J_bipush (pc := 36) (n := 21) (v := 21) hX (by decide +kernel) (by decide +kernel) ?_
  refine J_icmp_ge (pc := 38) (off := 52) (tgt := 90) hX (by decide +kernel) (by decide +kernel) (fun _ => ?_) (fun _ => ?_)
  · refine J_iconst (pc := 90) (n := -1) (v := (-1)) hX (by decide +kernel) (by decide +kernel) ?_
    exact J_iret (pc := 91) hX (by decide +kernel) rfl trivial
  · refine J_aload_n (k0 := 0) (pc := 41) 0 hX (by decide +kernel) rfl rfl ?_
    refine J_iload_n (k0 := 3) (pc := 42) 2 hX (by decide +kernel) rfl rfl ?_
    refine J_cVi (pc := 43) (idx := 446) [.int v3] hX (by decide +kernel) (mq mt_8 135 (by decide +kernel)) mv_Mo_turnedOf hL.1 rfl rfl (Nat.le_of_ble_eq_true rfl) (Nat.le_of_ble_eq_true rfl) (c_Mo_turnedOf hL v3 μ) (fun x2 μ1 => ?_)
    refine J_iload_n (k0 := 3) (pc := 46) 2 hX (by decide +kernel) rfl rfl ?_
    refine J_icmp_ne (pc := 47) (off := 14) (tgt := 61) hX (by decide +kernel) (by decide +kernel) (fun _ => ?_) (fun _ => ?_)
    · refine J_aload_n (k0 := 0) (pc := 61) 0 hX (by decide +kernel) rfl rfl ?_
      refine J_iload_n (k0 := 3) (pc := 62) 2 hX (by decide +kernel) rfl rfl ?_
      refine J_cVi (pc := 63) (idx := 446) [.int v3] hX (by decide +kernel) (mq mt_8 135 (by decide +kernel)) mv_Mo_turnedOf hL.1 rfl rfl (Nat.le_of_ble_eq_true rfl) (Nat.le_of_ble_eq_true rfl) (c_Mo_turnedOf hL v3 μ1) (fun x4 μ3 => ?_)
      refine J_ldcw (pc := 66) (idx := 449) (v := 999999999) hX (by decide +kernel) (mq mt_8 139 (by decide +kernel)) ?_
      refine J_iload_n (k0 := 3) (pc := 69) 2 hX (by decide +kernel) rfl rfl ?_
      refine J_isub (pc := 70) hX (by decide +kernel) ?_
      refine J_icmp_le (pc := 71) (off := 5) (tgt := 76) hX (by decide +kernel) (by decide +kernel) (fun _ => ?_) (fun _ => ?_)
      · refine J_iload_n (k0 := 3) (pc := 76) 2 hX (by decide +kernel) rfl rfl ?_
        refine J_aload_n (k0 := 0) (pc := 77) 0 hX (by decide +kernel) rfl rfl ?_
        refine J_iload_n (k0 := 3) (pc := 78) 2 hX (by decide +kernel) rfl rfl ?_
        refine J_cVi (pc := 79) (idx := 446) [.int v3] hX (by decide +kernel) (mq mt_8 135 (by decide +kernel)) mv_Mo_turnedOf hL.1 rfl rfl (Nat.le_of_ble_eq_true rfl) (Nat.le_of_ble_eq_true rfl) (c_Mo_turnedOf hL v3 μ3) (fun x6 μ5 => ?_)
        refine J_iadd (pc := 82) hX (by decide +kernel) ?_
        refine J_istore_n (k0 := 3) (pc := 83) [(3, .int (v3 + x6)), (0, .ref (G.1 + a)), (2, .int v2), (4, .int v4)] hX (by decide +kernel) rfl (by decide) rfl ?_
        refine J_iinc (pc := 84) (n := 1) 3 [(4, .int (v4 + 1)), (3, .int (v3 + x6)), (0, .ref (G.1 + a)), (2, .int v2)] hX (by decide +kernel) rfl rfl (by decide) rfl ?_
        refine J_goto (pc := 87) (off := -53) (tgt := 34) hX (by decide +kernel) (by decide +kernel) ?_
        exact J_sub [2, 3, 1, 0] _ rfl (hk34 (v3 + x6) (v4 + 1) μ5)
      · refine J_iconst (pc := 74) (n := -1) (v := (-1)) hX (by decide +kernel) (by decide +kernel) ?_
        exact J_iret (pc := 75) hX (by decide +kernel) rfl trivial
    · refine J_iload_n (k0 := 2) (pc := 50) 1 hX (by decide +kernel) rfl rfl ?_
      refine J_if_ne (pc := 51) (off := 8) (tgt := 59) hX (by decide +kernel) (by decide +kernel) (fun _ => ?_) (fun _ => ?_)
      · refine J_iload_n (k0 := 3) (pc := 59) 2 hX (by decide +kernel) rfl rfl ?_
        exact J_iret (pc := 60) hX (by decide +kernel) rfl trivial
      · refine J_iload (pc := 54) 3 hX (by decide +kernel) rfl ?_
        refine J_goto (pc := 56) (off := 4) (tgt := 60) hX (by decide +kernel) (by decide +kernel) ?_
        exact J_iret (pc := 60) hX (by decide +kernel) rfl trivial
set_option maxRecDepth 100000 in
set_option maxHeartbeats 4000000 in
theorem jMo_turned_34 {X : Cx} {l : Launch} {G : Gx} {y : Ly} {a : Nat} (hL : LyMo y a ) (hX : Ok X l G prog_13_method_106_code 5 (some .int) "SaltFiguresModel") (v2 : Int32)   : ∀ (fu : Nat) (v3 : Int32) (v4 : Int32) (μ : Mu), J X G 5 2 y (emy y) rvI tpT 34 [(0, .ref (G.1 + a)), (2, .int v2), (3, .int v3), (4, .int v4)] [] (μ, y) (Mo_turned_34 a  v2 fu v3 v4 μ) := by
  intro fu
  induction fu with
  | zero => intros; exact J_none
  | succ fu ih => intro v3 v4 μ; exact jMo_turned_34b hL hX v2  ih v3 v4 μ
set_option maxRecDepth 100000 in
set_option maxHeartbeats 4000000 in
theorem jMo_turned {X : Cx} {l : Launch} {G : Gx} {y : Ly} {a : Nat} (hL : LyMo y a ) (hX : Ok X l G prog_13_method_106_code 5 (some .int) "SaltFiguresModel") (v1 : Int32) (v2 : Int32) (μ : Mu) : J X G 5 2 y (emy y) rvI tpT 0 [(0, .ref (G.1 + a)), (1, .int v1), (2, .int v2)] [] (μ, y) (Mo_turned a v1 v2 μ) := by
  unfold Mo_turned
  refine J_aload_n (k0 := 0) (pc := 0) 0 hX (by decide +kernel) rfl rfl ?_
  refine J_iconst (pc := 1) (n := 0) (v := 0) hX (by decide +kernel) (by decide +kernel) ?_
  refine J_pF (pc := 2) hX (by decide +kernel) fl_Mo_131 hL.1 rfl (fun μ1 => ?_)
  refine J_aload_n (k0 := 0) (pc := 5) 0 hX (by decide +kernel) rfl rfl ?_
  refine J_iload_n (k0 := 1) (pc := 6) 1 hX (by decide +kernel) rfl rfl ?_
  refine J_iconst (pc := 7) (n := 0) (v := 0) hX (by decide +kernel) (by decide +kernel) ?_
  refine J_ldcw (pc := 8) (idx := 445) (v := 99999) hX (by decide +kernel) (mq mt_8 134 (by decide +kernel)) ?_
  refine J_cVi (pc := 11) (idx := 154) [.int v1, .int 0, .int 99999] hX (by decide +kernel) (mq mt_6 226 (by decide +kernel)) mv_Mo_isIn hL.1 rfl rfl (Nat.le_of_ble_eq_true rfl) (Nat.le_of_ble_eq_true rfl) (c_Mo_isIn hL v1 0 99999 μ1) (fun x3 μ2 => ?_)
  refine J_if_eq (pc := 14) (off := 13) (tgt := 27) hX (by decide +kernel) (by decide +kernel) (fun _ => ?_) (fun _ => ?_)
  · refine J_iconst (pc := 27) (n := -1) (v := (-1)) hX (by decide +kernel) (by decide +kernel) ?_
    exact J_iret (pc := 28) hX (by decide +kernel) rfl trivial
  · refine J_aload_n (k0 := 0) (pc := 17) 0 hX (by decide +kernel) rfl rfl ?_
    refine J_iload_n (k0 := 2) (pc := 18) 2 hX (by decide +kernel) rfl rfl ?_
    refine J_iconst (pc := 19) (n := 0) (v := 0) hX (by decide +kernel) (by decide +kernel) ?_
    refine J_iconst (pc := 20) (n := 1) (v := 1) hX (by decide +kernel) (by decide +kernel) ?_
    refine J_cVi (pc := 21) (idx := 154) [.int v2, .int 0, .int 1] hX (by decide +kernel) (mq mt_6 226 (by decide +kernel)) mv_Mo_isIn hL.1 rfl rfl (Nat.le_of_ble_eq_true rfl) (Nat.le_of_ble_eq_true rfl) (c_Mo_isIn hL v2 0 1 μ2) (fun x5 μ4 => ?_)
    refine J_if_ne (pc := 24) (off := 5) (tgt := 29) hX (by decide +kernel) (by decide +kernel) (fun _ => ?_) (fun _ => ?_)
    · refine J_iload_n (k0 := 1) (pc := 29) 1 hX (by decide +kernel) rfl rfl ?_
      refine J_istore_n (k0 := 3) (pc := 30) [(3, .int v1), (0, .ref (G.1 + a)), (1, .int v1), (2, .int v2)] hX (by decide +kernel) rfl (by decide) rfl ?_
      refine J_iconst (pc := 31) (n := 0) (v := 0) hX (by decide +kernel) (by decide +kernel) ?_
      refine J_istore (pc := 32) [(4, .int 0), (3, .int v1), (0, .ref (G.1 + a)), (1, .int v1), (2, .int v2)] hX (by decide +kernel) (by decide) rfl ?_
      exact J_sub [2, 4, 1, 0] _ rfl (jMo_turned_34 hL hX v2 FU v1 0 μ4)
    · refine J_iconst (pc := 27) (n := -1) (v := (-1)) hX (by decide +kernel) (by decide +kernel) ?_
      exact J_iret (pc := 28) hX (by decide +kernel) rfl trivial
set_option maxRecDepth 100000 in
set_option maxHeartbeats 4000000 in
theorem c_Mo_turned {l : Launch} {G : Gx} {y : Ly} {a : Nat} (hL : LyMo y a ) (v1 : Int32) (v2 : Int32) (μ : Mu) : Cn l G ⟨"SaltFiguresModel", "turned", "(II)I"⟩ prog_13_method_106_code 5 (some .int) 2 [.ref (G.1 + a), .int v1, .int v2] (μ, y) (emy y) rvI tpT (Mo_turned a v1 v2 μ) := cn_of (by decide +kernel) (Nat.le_of_ble_eq_true rfl) (fun _ _ _ => ⟨List.prefix_refl _, trivial⟩) (fun X hX _ => jMo_turned hL hX v1 v2 μ)

def Mo_undo_26b (a : Nat)  (kb26 : Int32 → Mu → Option (Int32 × Mu))  (v1 : Int32)  (μ : Mu) : Option (Int32 × Mu) := (if 118 ≤ v1 then some (1, μ) else gF μ a 3 (fun x1 => ldA μ (a + 2) 708 ((118 * x1) + v1) (fun x2 => stA μ (a + 1) 118 v1 x2 (fun μ3 => kb26 (v1 + 1) μ3))))
def Mo_undo_26 (a : Nat)   (fu : Nat) : Int32 → Mu → Option (Int32 × Mu) := lp (fun kb => Mo_undo_26b a  kb ) (fun _ _ => none) fu
def Mo_undo (a : Nat)  (μ : Mu) : Option (Int32 × Mu) := pF μ a 0 0 (fun μ1 => gF μ1 a 3 (fun x2 => (if x2 = 0 then some (0, μ1) else gF μ1 a 3 (fun x3 => pF μ1 a 3 (x3 - 1) (fun μ4 => Mo_undo_26 a FU 0 μ4)))))
set_option maxRecDepth 100000 in
set_option maxHeartbeats 4000000 in
theorem jMo_undo_26b {X : Cx} {l : Launch} {G : Gx} {y : Ly} {a : Nat} (hL : LyMo y a ) (hX : Ok X l G prog_13_method_11_code 2 (some .boolean) "SaltFiguresModel")   {kb26 : Int32 → Mu → Option (Int32 × Mu)}  (hk26 : ∀ (v1 : Int32) (μ : Mu), J X G 2 1 y (emy y) rvI tpT 26 [(0, .ref (G.1 + a)), (1, .int v1)] [] (μ, y) (kb26 v1 μ)) (v1 : Int32)  (μ : Mu) : J X G 2 1 y (emy y) rvI tpT 26 [(0, .ref (G.1 + a)), (1, .int v1)] [] (μ, y) (Mo_undo_26b a  kb26  v1  μ) := by
  unfold Mo_undo_26b
  refine J_iload_n (k0 := 1) (pc := 26) 1 hX (by decide +kernel) rfl rfl ?_
  refine J_bipush (pc := 27) (n := 118) (v := 118) hX (by decide +kernel) (by decide +kernel) ?_
  refine J_icmp_ge (pc := 29) (off := 29) (tgt := 58) hX (by decide +kernel) (by decide +kernel) (fun _ => ?_) (fun _ => ?_)
  · refine J_iconst (pc := 58) (n := 1) (v := 1) hX (by decide +kernel) (by decide +kernel) ?_
    exact J_zret (pc := 59) hX (by decide +kernel) rfl (by decide +kernel) trivial
  · refine J_aload_n (k0 := 0) (pc := 32) 0 hX (by decide +kernel) rfl rfl ?_
    refine J_gr (pc := 33) hX (by decide +kernel) fl_Mo_7 hL.1 rfl hL.2.1.1 ?_
    refine J_iload_n (k0 := 1) (pc := 36) 1 hX (by decide +kernel) rfl rfl ?_
    refine J_aload_n (k0 := 0) (pc := 37) 0 hX (by decide +kernel) rfl rfl ?_
    refine J_gr (pc := 38) hX (by decide +kernel) fl_Mo_13 hL.1 rfl hL.2.2.1.1 ?_
    refine J_bipush (pc := 41) (n := 118) (v := 118) hX (by decide +kernel) (by decide +kernel) ?_
    refine J_aload_n (k0 := 0) (pc := 43) 0 hX (by decide +kernel) rfl rfl ?_
    refine J_gF (pc := 44) hX (by decide +kernel) fl_Mo_135 hL.1 rfl (fun x1 => ?_)
    refine J_imul (pc := 47) hX (by decide +kernel) ?_
    refine J_iload_n (k0 := 1) (pc := 48) 1 hX (by decide +kernel) rfl rfl ?_
    refine J_iadd (pc := 49) hX (by decide +kernel) ?_
    refine J_ldA (pc := 50) hX (by decide +kernel) hL.2.2.1.2 (fun x2 => ?_)
    refine J_stA (pc := 51) hX (by decide +kernel) hL.2.1.2 (fun μ3 => ?_)
    refine J_iinc (pc := 52) (n := 1) 1 [(1, .int (v1 + 1)), (0, .ref (G.1 + a))] hX (by decide +kernel) rfl rfl (by decide) rfl ?_
    refine J_goto (pc := 55) (off := -29) (tgt := 26) hX (by decide +kernel) (by decide +kernel) ?_
    exact J_sub [1, 0] _ rfl (hk26 (v1 + 1) μ3)
set_option maxRecDepth 100000 in
set_option maxHeartbeats 4000000 in
theorem jMo_undo_26 {X : Cx} {l : Launch} {G : Gx} {y : Ly} {a : Nat} (hL : LyMo y a ) (hX : Ok X l G prog_13_method_11_code 2 (some .boolean) "SaltFiguresModel")    : ∀ (fu : Nat) (v1 : Int32) (μ : Mu), J X G 2 1 y (emy y) rvI tpT 26 [(0, .ref (G.1 + a)), (1, .int v1)] [] (μ, y) (Mo_undo_26 a   fu v1 μ) := by
  intro fu
  induction fu with
  | zero => intros; exact J_none
  | succ fu ih => intro v1 μ; exact jMo_undo_26b hL hX   ih v1 μ
set_option maxRecDepth 100000 in
set_option maxHeartbeats 4000000 in
theorem jMo_undo {X : Cx} {l : Launch} {G : Gx} {y : Ly} {a : Nat} (hL : LyMo y a ) (hX : Ok X l G prog_13_method_11_code 2 (some .boolean) "SaltFiguresModel")  (μ : Mu) : J X G 2 1 y (emy y) rvI tpT 0 [(0, .ref (G.1 + a))] [] (μ, y) (Mo_undo a  μ) := by
  unfold Mo_undo
  refine J_aload_n (k0 := 0) (pc := 0) 0 hX (by decide +kernel) rfl rfl ?_
  refine J_iconst (pc := 1) (n := 0) (v := 0) hX (by decide +kernel) (by decide +kernel) ?_
  refine J_pF (pc := 2) hX (by decide +kernel) fl_Mo_131 hL.1 rfl (fun μ1 => ?_)
  refine J_aload_n (k0 := 0) (pc := 5) 0 hX (by decide +kernel) rfl rfl ?_
  refine J_gF (pc := 6) hX (by decide +kernel) fl_Mo_135 hL.1 rfl (fun x2 => ?_)
  refine J_if_ne (pc := 9) (off := 5) (tgt := 14) hX (by decide +kernel) (by decide +kernel) (fun _ => ?_) (fun _ => ?_)
  · refine J_aload_n (k0 := 0) (pc := 14) 0 hX (by decide +kernel) rfl rfl ?_
    refine J_aload_n (k0 := 0) (pc := 15) 0 hX (by decide +kernel) rfl rfl ?_
    refine J_gF (pc := 16) hX (by decide +kernel) fl_Mo_135 hL.1 rfl (fun x3 => ?_)
    refine J_iconst (pc := 19) (n := 1) (v := 1) hX (by decide +kernel) (by decide +kernel) ?_
    refine J_isub (pc := 20) hX (by decide +kernel) ?_
    refine J_pF (pc := 21) hX (by decide +kernel) fl_Mo_135 hL.1 rfl (fun μ4 => ?_)
    refine J_iconst (pc := 24) (n := 0) (v := 0) hX (by decide +kernel) (by decide +kernel) ?_
    refine J_istore_n (k0 := 1) (pc := 25) [(1, .int 0), (0, .ref (G.1 + a))] hX (by decide +kernel) rfl (by decide) rfl ?_
    exact J_sub [1, 0] _ rfl (jMo_undo_26 hL hX FU 0 μ4)
  · refine J_iconst (pc := 12) (n := 0) (v := 0) hX (by decide +kernel) (by decide +kernel) ?_
    exact J_zret (pc := 13) hX (by decide +kernel) rfl (by decide +kernel) trivial
set_option maxRecDepth 100000 in
set_option maxHeartbeats 4000000 in
theorem c_Mo_undo {l : Launch} {G : Gx} {y : Ly} {a : Nat} (hL : LyMo y a )  (μ : Mu) : Cn l G ⟨"SaltFiguresModel", "undo", "()Z"⟩ prog_13_method_11_code 2 (some .boolean) 1 [.ref (G.1 + a)] (μ, y) (emy y) rvI tpT (Mo_undo a  μ) := cn_of (by decide +kernel) (Nat.le_of_ble_eq_true rfl) (fun _ _ _ => ⟨List.prefix_refl _, trivial⟩) (fun X hX _ => jMo_undo hL hX  μ)

def Mo_voyage_177 (a : Nat)   (v1 : Int32)  (μ : Mu) : Option (Int32 × Mu) := ldA μ (a + 33) 201 v1 (fun x1 => some (x1, μ))
def Mo_voyage_144 (a : Nat) (kb31 : Int32 → Mu → Option (Int32 × Mu)) (kb66 : Int32 → Mu → Option (Int32 × Mu))  (v1 : Int32) (v2 : Int32) (v3 : Int32) (v4 : Int32)  (μ : Mu) : Option (Int32 × Mu) := kb66 (v4 + 1) μ
def Mo_voyage_143 (a : Nat) (kb31 : Int32 → Mu → Option (Int32 × Mu)) (kb66 : Int32 → Mu → Option (Int32 × Mu))  (v1 : Int32) (v2 : Int32) (v3 : Int32) (v4 : Int32) (s0 : Int32) (s1 : Int32) (μ : Mu) : Option (Int32 × Mu) := stA μ (a + 33) 201 s1 s0 (fun μ1 => Mo_voyage_144 a kb31 kb66 v1 v2 v3 v4 μ1)
def Mo_voyage_66b (a : Nat) (kb31 : Int32 → Mu → Option (Int32 × Mu)) (kb66 : Int32 → Mu → Option (Int32 × Mu)) (v1 : Int32) (v2 : Int32) (v3 : Int32) (v4 : Int32)  (μ : Mu) : Option (Int32 × Mu) := gF μ a 55 (fun x1 => (if x1 ≤ v4 then kb31 (v3 + 1) μ else ldA μ (a + 32) 6 v4 (fun x2 => (if x2 ≤ v3 then ldA μ (a + 32) 6 v4 (fun x3 => ldA μ (a + 33) 201 (v3 - x3) (fun x4 => (if v2 = 0 then ldA μ (a + 33) 201 v3 (fun x8 => cl (Mo_added a x8 x4 μ) (fun x10 μ9 => Mo_voyage_143 a kb31 kb66 v1 v2 v3 v4 x10 v3 μ9)) else ldA μ (a + 33) 201 v3 (fun x5 => cl (Mo_lesser a x5 (x4 + 1) μ) (fun x7 μ6 => Mo_voyage_143 a kb31 kb66 v1 v2 v3 v4 x7 v3 μ6))))) else Mo_voyage_144 a kb31 kb66 v1 v2 v3 v4 μ))))
def Mo_voyage_66 (a : Nat) (kb31 : Int32 → Mu → Option (Int32 × Mu)) (v1 : Int32) (v2 : Int32) (v3 : Int32) (fu : Nat) : Int32 → Mu → Option (Int32 × Mu) := lp (fun kb => Mo_voyage_66b a kb31 kb v1 v2 v3) (fun _ _ => none) fu
def Mo_voyage_62 (a : Nat) (kb31 : Int32 → Mu → Option (Int32 × Mu))  (v1 : Int32) (v2 : Int32) (v3 : Int32) (s0 : Int32) (s1 : Int32) (μ : Mu) : Option (Int32 × Mu) := stA μ (a + 33) 201 s1 s0 (fun μ1 => Mo_voyage_66 a kb31 v1 v2 v3 FU 0 μ1)
def Mo_voyage_31b (a : Nat)  (kb31 : Int32 → Mu → Option (Int32 × Mu)) (v1 : Int32) (v2 : Int32) (v3 : Int32)  (μ : Mu) : Option (Int32 × Mu) := (if v1 < v3 then (if v2 = 1 then ldA μ (a + 33) 201 v1 (fun x1 => (if x1 < 100000000 then Mo_voyage_177 a v1 μ else some ((-1), μ))) else Mo_voyage_177 a v1 μ) else (if v3 = 0 then Mo_voyage_62 a kb31 v1 v2 v3 (1 - v2) v3 μ else (if v2 = 0 then Mo_voyage_62 a kb31 v1 v2 v3 0 v3 μ else Mo_voyage_62 a kb31 v1 v2 v3 100000000 v3 μ)))
def Mo_voyage_31 (a : Nat)  (v1 : Int32) (v2 : Int32) (fu : Nat) : Int32 → Mu → Option (Int32 × Mu) := lp (fun kb => Mo_voyage_31b a  kb v1 v2) (fun _ _ => none) fu
def Mo_voyage (a : Nat) (v1 : Int32) (v2 : Int32) (μ : Mu) : Option (Int32 × Mu) := pF μ a 0 0 (fun μ1 => cl (Mo_isIn a v1 1 200 μ1) (fun x3 μ2 => (if x3 = 0 then some ((-1), μ2) else cl (Mo_isIn a v2 0 1 μ2) (fun x5 μ4 => (if x5 = 0 then some ((-1), μ4) else Mo_voyage_31 a v1 v2 FU 0 μ4)))))
set_option maxRecDepth 100000 in
set_option maxHeartbeats 4000000 in
theorem jMo_voyage_177 {X : Cx} {l : Launch} {G : Gx} {y : Ly} {a : Nat} (hL : LyMo y a ) (hX : Ok X l G prog_13_method_122_code 6 (some .int) "SaltFiguresModel")  (v1 : Int32)    (μ : Mu) : J X G 6 2 y (emy y) rvI tpT 177 [(0, .ref (G.1 + a)), (1, .int v1)] [] (μ, y) (Mo_voyage_177 a   v1  μ) := by
  unfold Mo_voyage_177
  refine J_aload_n (k0 := 0) (pc := 177) 0 hX (by decide +kernel) rfl rfl ?_
  refine J_gr (pc := 178) hX (by decide +kernel) fl_Mo_110 hL.1 rfl hL.2.2.2.2.2.2.2.2.2.2.2.2.2.2.2.2.2.2.2.2.2.2.2.2.2.2.2.2.2.2.2.2.2.1.1 ?_
  refine J_iload_n (k0 := 1) (pc := 181) 1 hX (by decide +kernel) rfl rfl ?_
  refine J_ldA (pc := 182) hX (by decide +kernel) hL.2.2.2.2.2.2.2.2.2.2.2.2.2.2.2.2.2.2.2.2.2.2.2.2.2.2.2.2.2.2.2.2.2.1.2 (fun x1 => ?_)
  exact J_iret (pc := 183) hX (by decide +kernel) rfl trivial
set_option maxRecDepth 100000 in
set_option maxHeartbeats 4000000 in
theorem jMo_voyage_144 {X : Cx} {l : Launch} {G : Gx} {y : Ly} {a : Nat} (hL : LyMo y a ) (hX : Ok X l G prog_13_method_122_code 6 (some .int) "SaltFiguresModel")  (v1 : Int32) (v2 : Int32) (v3 : Int32) (v4 : Int32)  {kb31 : Int32 → Mu → Option (Int32 × Mu)} {kb66 : Int32 → Mu → Option (Int32 × Mu)} (hk31 : ∀ (v3 : Int32) (μ : Mu), J X G 6 2 y (emy y) rvI tpT 31 [(0, .ref (G.1 + a)), (1, .int v1), (2, .int v2), (3, .int v3)] [] (μ, y) (kb31 v3 μ)) (hk66 : ∀ (v4 : Int32) (μ : Mu), J X G 6 2 y (emy y) rvI tpT 66 [(0, .ref (G.1 + a)), (1, .int v1), (2, .int v2), (3, .int v3), (4, .int v4)] [] (μ, y) (kb66 v4 μ)) (μ : Mu) : J X G 6 2 y (emy y) rvI tpT 144 [(0, .ref (G.1 + a)), (1, .int v1), (2, .int v2), (3, .int v3), (4, .int v4)] [] (μ, y) (Mo_voyage_144 a kb31 kb66  v1 v2 v3 v4  μ) := by
  unfold Mo_voyage_144
  refine J_iinc (pc := 144) (n := 1) 4 [(4, .int (v4 + 1)), (0, .ref (G.1 + a)), (1, .int v1), (2, .int v2), (3, .int v3)] hX (by decide +kernel) rfl rfl (by decide) rfl ?_
  refine J_goto (pc := 147) (off := -81) (tgt := 66) hX (by decide +kernel) (by decide +kernel) ?_
  exact J_sub [1, 2, 3, 4, 0] _ rfl (hk66 (v4 + 1) μ)
set_option maxRecDepth 100000 in
set_option maxHeartbeats 4000000 in
theorem jMo_voyage_143 {X : Cx} {l : Launch} {G : Gx} {y : Ly} {a : Nat} (hL : LyMo y a ) (hX : Ok X l G prog_13_method_122_code 6 (some .int) "SaltFiguresModel")  (v1 : Int32) (v2 : Int32) (v3 : Int32) (v4 : Int32) (s0 : Int32) (s1 : Int32) {kb31 : Int32 → Mu → Option (Int32 × Mu)} {kb66 : Int32 → Mu → Option (Int32 × Mu)} (hk31 : ∀ (v3 : Int32) (μ : Mu), J X G 6 2 y (emy y) rvI tpT 31 [(0, .ref (G.1 + a)), (1, .int v1), (2, .int v2), (3, .int v3)] [] (μ, y) (kb31 v3 μ)) (hk66 : ∀ (v4 : Int32) (μ : Mu), J X G 6 2 y (emy y) rvI tpT 66 [(0, .ref (G.1 + a)), (1, .int v1), (2, .int v2), (3, .int v3), (4, .int v4)] [] (μ, y) (kb66 v4 μ)) (μ : Mu) : J X G 6 2 y (emy y) rvI tpT 143 [(0, .ref (G.1 + a)), (1, .int v1), (2, .int v2), (3, .int v3), (4, .int v4)] [.int s0, .int s1, .ref (G.1 + (a + 33))] (μ, y) (Mo_voyage_143 a kb31 kb66  v1 v2 v3 v4 s0 s1 μ) := by
  unfold Mo_voyage_143
  refine J_stA (pc := 143) hX (by decide +kernel) hL.2.2.2.2.2.2.2.2.2.2.2.2.2.2.2.2.2.2.2.2.2.2.2.2.2.2.2.2.2.2.2.2.2.1.2 (fun μ1 => ?_)
  exact J_sub [0, 1, 2, 3, 4] _ rfl (jMo_voyage_144 hL hX v1 v2 v3 v4 hk31 hk66 μ1)
set_option maxRecDepth 100000 in
set_option maxHeartbeats 4000000 in
theorem jMo_voyage_66b {X : Cx} {l : Launch} {G : Gx} {y : Ly} {a : Nat} (hL : LyMo y a ) (hX : Ok X l G prog_13_method_122_code 6 (some .int) "SaltFiguresModel") (v1 : Int32) (v2 : Int32) (v3 : Int32) {kb31 : Int32 → Mu → Option (Int32 × Mu)} {kb66 : Int32 → Mu → Option (Int32 × Mu)} (hk31 : ∀ (v3 : Int32) (μ : Mu), J X G 6 2 y (emy y) rvI tpT 31 [(0, .ref (G.1 + a)), (1, .int v1), (2, .int v2), (3, .int v3)] [] (μ, y) (kb31 v3 μ)) (hk66 : ∀ (v4 : Int32) (μ : Mu), J X G 6 2 y (emy y) rvI tpT 66 [(0, .ref (G.1 + a)), (1, .int v1), (2, .int v2), (3, .int v3), (4, .int v4)] [] (μ, y) (kb66 v4 μ)) (v4 : Int32)  (μ : Mu) : J X G 6 2 y (emy y) rvI tpT 66 [(0, .ref (G.1 + a)), (1, .int v1), (2, .int v2), (3, .int v3), (4, .int v4)] [] (μ, y) (Mo_voyage_66b a kb31 kb66 v1 v2 v3 v4  μ) := by
  unfold Mo_voyage_66b
  refine J_iload (pc := 66) 4 hX (by decide +kernel) rfl ?_
  refine J_aload_n (k0 := 0) (pc := 68) 0 hX (by decide +kernel) rfl rfl ?_
  refine J_gF (pc := 69) hX (by decide +kernel) fl_Mo_474 hL.1 rfl (fun x1 => ?_)
  refine J_icmp_ge (pc := 72) (off := 78) (tgt := 150) hX (by decide +kernel) (by decide +kernel) (fun _ => ?_) (fun _ => ?_)
  · refine J_iinc (pc := 150) (n := 1) 3 [(3, .int (v3 + 1)), (0, .ref (G.1 + a)), (1, .int v1), (2, .int v2), (4, .int v4)] hX (by decide +kernel) rfl rfl (by decide) rfl ?_
    refine J_goto (pc := 153) (off := -122) (tgt := 31) hX (by decide +kernel) (by decide +kernel) ?_
    exact J_sub [1, 2, 3, 0] _ rfl (hk31 (v3 + 1) μ)
  · refine J_aload_n (k0 := 0) (pc := 75) 0 hX (by decide +kernel) rfl rfl ?_
    refine J_gr (pc := 76) hX (by decide +kernel) fl_Mo_107 hL.1 rfl hL.2.2.2.2.2.2.2.2.2.2.2.2.2.2.2.2.2.2.2.2.2.2.2.2.2.2.2.2.2.2.2.2.1.1 ?_
    refine J_iload (pc := 79) 4 hX (by decide +kernel) rfl ?_
    refine J_ldA (pc := 81) hX (by decide +kernel) hL.2.2.2.2.2.2.2.2.2.2.2.2.2.2.2.2.2.2.2.2.2.2.2.2.2.2.2.2.2.2.2.2.1.2 (fun x2 => ?_)
    refine J_iload_n (k0 := 3) (pc := 82) 3 hX (by decide +kernel) rfl rfl ?_
    refine J_icmp_le (pc := 83) (off := 6) (tgt := 89) hX (by decide +kernel) (by decide +kernel) (fun _ => ?_) (fun _ => ?_)
    · refine J_aload_n (k0 := 0) (pc := 89) 0 hX (by decide +kernel) rfl rfl ?_
      refine J_gr (pc := 90) hX (by decide +kernel) fl_Mo_110 hL.1 rfl hL.2.2.2.2.2.2.2.2.2.2.2.2.2.2.2.2.2.2.2.2.2.2.2.2.2.2.2.2.2.2.2.2.2.1.1 ?_
      refine J_iload_n (k0 := 3) (pc := 93) 3 hX (by decide +kernel) rfl rfl ?_
      refine J_aload_n (k0 := 0) (pc := 94) 0 hX (by decide +kernel) rfl rfl ?_
      refine J_gr (pc := 95) hX (by decide +kernel) fl_Mo_107 hL.1 rfl hL.2.2.2.2.2.2.2.2.2.2.2.2.2.2.2.2.2.2.2.2.2.2.2.2.2.2.2.2.2.2.2.2.1.1 ?_
      refine J_iload (pc := 98) 4 hX (by decide +kernel) rfl ?_
      refine J_ldA (pc := 100) hX (by decide +kernel) hL.2.2.2.2.2.2.2.2.2.2.2.2.2.2.2.2.2.2.2.2.2.2.2.2.2.2.2.2.2.2.2.2.1.2 (fun x3 => ?_)
      refine J_isub (pc := 101) hX (by decide +kernel) ?_
      refine J_ldA (pc := 102) hX (by decide +kernel) hL.2.2.2.2.2.2.2.2.2.2.2.2.2.2.2.2.2.2.2.2.2.2.2.2.2.2.2.2.2.2.2.2.2.1.2 (fun x4 => ?_)
      refine J_istore (pc := 103) [(5, .int x4), (0, .ref (G.1 + a)), (1, .int v1), (2, .int v2), (3, .int v3), (4, .int v4)] hX (by decide +kernel) (by decide) rfl ?_
      refine J_aload_n (k0 := 0) (pc := 105) 1 hX (by decide +kernel) rfl rfl ?_
      refine J_gr (pc := 106) hX (by decide +kernel) fl_Mo_110 hL.1 rfl hL.2.2.2.2.2.2.2.2.2.2.2.2.2.2.2.2.2.2.2.2.2.2.2.2.2.2.2.2.2.2.2.2.2.1.1 ?_
      refine J_iload_n (k0 := 3) (pc := 109) 4 hX (by decide +kernel) rfl rfl ?_
      refine J_iload_n (k0 := 2) (pc := 110) 3 hX (by decide +kernel) rfl rfl ?_
      refine J_if_ne (pc := 111) (off := 18) (tgt := 129) hX (by decide +kernel) (by decide +kernel) (fun _ => ?_) (fun _ => ?_)
      · refine J_aload_n (k0 := 0) (pc := 129) 1 hX (by decide +kernel) rfl rfl ?_
        refine J_aload_n (k0 := 0) (pc := 130) 1 hX (by decide +kernel) rfl rfl ?_
        refine J_gr (pc := 131) hX (by decide +kernel) fl_Mo_110 hL.1 rfl hL.2.2.2.2.2.2.2.2.2.2.2.2.2.2.2.2.2.2.2.2.2.2.2.2.2.2.2.2.2.2.2.2.2.1.1 ?_
        refine J_iload_n (k0 := 3) (pc := 134) 4 hX (by decide +kernel) rfl rfl ?_
        refine J_ldA (pc := 135) hX (by decide +kernel) hL.2.2.2.2.2.2.2.2.2.2.2.2.2.2.2.2.2.2.2.2.2.2.2.2.2.2.2.2.2.2.2.2.2.1.2 (fun x5 => ?_)
        refine J_iload (pc := 136) 0 hX (by decide +kernel) rfl ?_
        refine J_iconst (pc := 138) (n := 1) (v := 1) hX (by decide +kernel) (by decide +kernel) ?_
        refine J_iadd (pc := 139) hX (by decide +kernel) ?_
        refine J_cVi (pc := 140) (idx := 342) [.int x5, .int (x4 + 1)] hX (by decide +kernel) (mq mt_7 218 (by decide +kernel)) mv_Mo_lesser hL.1 rfl rfl (Nat.le_of_ble_eq_true rfl) (Nat.le_of_ble_eq_true rfl) (c_Mo_lesser hL x5 (x4 + 1) μ) (fun x7 μ6 => ?_)
        exact J_sub [1, 2, 3, 4, 5] _ rfl (jMo_voyage_143 hL hX v1 v2 v3 v4 x7 v3 hk31 hk66 μ6)
      · refine J_aload_n (k0 := 0) (pc := 114) 1 hX (by decide +kernel) rfl rfl ?_
        refine J_aload_n (k0 := 0) (pc := 115) 1 hX (by decide +kernel) rfl rfl ?_
        refine J_gr (pc := 116) hX (by decide +kernel) fl_Mo_110 hL.1 rfl hL.2.2.2.2.2.2.2.2.2.2.2.2.2.2.2.2.2.2.2.2.2.2.2.2.2.2.2.2.2.2.2.2.2.1.1 ?_
        refine J_iload_n (k0 := 3) (pc := 119) 4 hX (by decide +kernel) rfl rfl ?_
        refine J_ldA (pc := 120) hX (by decide +kernel) hL.2.2.2.2.2.2.2.2.2.2.2.2.2.2.2.2.2.2.2.2.2.2.2.2.2.2.2.2.2.2.2.2.2.1.2 (fun x8 => ?_)
        refine J_iload (pc := 121) 0 hX (by decide +kernel) rfl ?_
        refine J_cVi (pc := 123) (idx := 456) [.int x8, .int x4] hX (by decide +kernel) (mq mt_8 160 (by decide +kernel)) mv_Mo_added hL.1 rfl rfl (Nat.le_of_ble_eq_true rfl) (Nat.le_of_ble_eq_true rfl) (c_Mo_added hL x8 x4 μ) (fun x10 μ9 => ?_)
        refine J_goto (pc := 126) (off := 17) (tgt := 143) hX (by decide +kernel) (by decide +kernel) ?_
        exact J_sub [1, 2, 3, 4, 5] _ rfl (jMo_voyage_143 hL hX v1 v2 v3 v4 x10 v3 hk31 hk66 μ9)
    · refine J_goto (pc := 86) (off := 58) (tgt := 144) hX (by decide +kernel) (by decide +kernel) ?_
      exact J_sub [0, 1, 2, 3, 4] _ rfl (jMo_voyage_144 hL hX v1 v2 v3 v4 hk31 hk66 μ)
set_option maxRecDepth 100000 in
set_option maxHeartbeats 4000000 in
theorem jMo_voyage_66 {X : Cx} {l : Launch} {G : Gx} {y : Ly} {a : Nat} (hL : LyMo y a ) (hX : Ok X l G prog_13_method_122_code 6 (some .int) "SaltFiguresModel") (v1 : Int32) (v2 : Int32) (v3 : Int32) {kb31 : Int32 → Mu → Option (Int32 × Mu)} (hk31 : ∀ (v3 : Int32) (μ : Mu), J X G 6 2 y (emy y) rvI tpT 31 [(0, .ref (G.1 + a)), (1, .int v1), (2, .int v2), (3, .int v3)] [] (μ, y) (kb31 v3 μ)) : ∀ (fu : Nat) (v4 : Int32) (μ : Mu), J X G 6 2 y (emy y) rvI tpT 66 [(0, .ref (G.1 + a)), (1, .int v1), (2, .int v2), (3, .int v3), (4, .int v4)] [] (μ, y) (Mo_voyage_66 a kb31 v1 v2 v3 fu v4 μ) := by
  intro fu
  induction fu with
  | zero => intros; exact J_none
  | succ fu ih => intro v4 μ; exact jMo_voyage_66b hL hX v1 v2 v3 hk31 ih v4 μ
set_option maxRecDepth 100000 in
set_option maxHeartbeats 4000000 in
theorem jMo_voyage_62 {X : Cx} {l : Launch} {G : Gx} {y : Ly} {a : Nat} (hL : LyMo y a ) (hX : Ok X l G prog_13_method_122_code 6 (some .int) "SaltFiguresModel")  (v1 : Int32) (v2 : Int32) (v3 : Int32) (s0 : Int32) (s1 : Int32) {kb31 : Int32 → Mu → Option (Int32 × Mu)} (hk31 : ∀ (v3 : Int32) (μ : Mu), J X G 6 2 y (emy y) rvI tpT 31 [(0, .ref (G.1 + a)), (1, .int v1), (2, .int v2), (3, .int v3)] [] (μ, y) (kb31 v3 μ)) (μ : Mu) : J X G 6 2 y (emy y) rvI tpT 62 [(0, .ref (G.1 + a)), (1, .int v1), (2, .int v2), (3, .int v3)] [.int s0, .int s1, .ref (G.1 + (a + 33))] (μ, y) (Mo_voyage_62 a kb31  v1 v2 v3 s0 s1 μ) := by
  unfold Mo_voyage_62
  refine J_stA (pc := 62) hX (by decide +kernel) hL.2.2.2.2.2.2.2.2.2.2.2.2.2.2.2.2.2.2.2.2.2.2.2.2.2.2.2.2.2.2.2.2.2.1.2 (fun μ1 => ?_)
  refine J_iconst (pc := 63) (n := 0) (v := 0) hX (by decide +kernel) (by decide +kernel) ?_
  refine J_istore (pc := 64) [(4, .int 0), (0, .ref (G.1 + a)), (1, .int v1), (2, .int v2), (3, .int v3)] hX (by decide +kernel) (by decide) rfl ?_
  exact J_sub [1, 2, 3, 4, 0] _ rfl (jMo_voyage_66 hL hX v1 v2 v3 hk31 FU 0 μ1)
set_option maxRecDepth 100000 in
set_option maxHeartbeats 4000000 in
theorem jMo_voyage_31b {X : Cx} {l : Launch} {G : Gx} {y : Ly} {a : Nat} (hL : LyMo y a ) (hX : Ok X l G prog_13_method_122_code 6 (some .int) "SaltFiguresModel") (v1 : Int32) (v2 : Int32)  {kb31 : Int32 → Mu → Option (Int32 × Mu)}  (hk31 : ∀ (v3 : Int32) (μ : Mu), J X G 6 2 y (emy y) rvI tpT 31 [(0, .ref (G.1 + a)), (1, .int v1), (2, .int v2), (3, .int v3)] [] (μ, y) (kb31 v3 μ)) (v3 : Int32)  (μ : Mu) : J X G 6 2 y (emy y) rvI tpT 31 [(0, .ref (G.1 + a)), (1, .int v1), (2, .int v2), (3, .int v3)] [] (μ, y) (Mo_voyage_31b a  kb31 v1 v2 v3  μ) := by
  unfold Mo_voyage_31b
  refine J_iload_n (k0 := 3) (pc := 31) 3 hX (by decide +kernel) rfl rfl ?_
  refine J_iload_n (k0 := 1) (pc := 32) 1 hX (by decide +kernel) rfl rfl ?_
  refine J_icmp_gt (pc := 33) (off := 123) (tgt := 156) hX (by decide +kernel) (by decide +kernel) (fun _ => ?_) (fun _ => ?_)
  · refine J_iload_n (k0 := 2) (pc := 156) 2 hX (by decide +kernel) rfl rfl ?_
    refine J_iconst (pc := 157) (n := 1) (v := 1) hX (by decide +kernel) (by decide +kernel) ?_
    refine J_icmp_ne (pc := 158) (off := 19) (tgt := 177) hX (by decide +kernel) (by decide +kernel) (fun _ => ?_) (fun _ => ?_)
    · exact J_sub [0, 1] _ rfl (jMo_voyage_177 hL hX v1 μ)
    · refine J_aload_n (k0 := 0) (pc := 161) 0 hX (by decide +kernel) rfl rfl ?_
      refine J_gr (pc := 162) hX (by decide +kernel) fl_Mo_110 hL.1 rfl hL.2.2.2.2.2.2.2.2.2.2.2.2.2.2.2.2.2.2.2.2.2.2.2.2.2.2.2.2.2.2.2.2.2.1.1 ?_
      refine J_iload_n (k0 := 1) (pc := 165) 1 hX (by decide +kernel) rfl rfl ?_
      refine J_ldA (pc := 166) hX (by decide +kernel) hL.2.2.2.2.2.2.2.2.2.2.2.2.2.2.2.2.2.2.2.2.2.2.2.2.2.2.2.2.2.2.2.2.2.1.2 (fun x1 => ?_)
      refine J_ldcw (pc := 167) (idx := 409) (v := 100000000) hX (by decide +kernel) (mq mt_8 72 (by decide +kernel)) ?_
      refine J_icmp_lt (pc := 170) (off := 7) (tgt := 177) hX (by decide +kernel) (by decide +kernel) (fun _ => ?_) (fun _ => ?_)
      · exact J_sub [0, 1] _ rfl (jMo_voyage_177 hL hX v1 μ)
      · refine J_iconst (pc := 173) (n := -1) (v := (-1)) hX (by decide +kernel) (by decide +kernel) ?_
        refine J_goto (pc := 174) (off := 9) (tgt := 183) hX (by decide +kernel) (by decide +kernel) ?_
        exact J_iret (pc := 183) hX (by decide +kernel) rfl trivial
  · refine J_aload_n (k0 := 0) (pc := 36) 0 hX (by decide +kernel) rfl rfl ?_
    refine J_gr (pc := 37) hX (by decide +kernel) fl_Mo_110 hL.1 rfl hL.2.2.2.2.2.2.2.2.2.2.2.2.2.2.2.2.2.2.2.2.2.2.2.2.2.2.2.2.2.2.2.2.2.1.1 ?_
    refine J_iload_n (k0 := 3) (pc := 40) 3 hX (by decide +kernel) rfl rfl ?_
    refine J_iload_n (k0 := 3) (pc := 41) 3 hX (by decide +kernel) rfl rfl ?_
    refine J_if_ne (pc := 42) (off := 9) (tgt := 51) hX (by decide +kernel) (by decide +kernel) (fun _ => ?_) (fun _ => ?_)
    · refine J_iload_n (k0 := 2) (pc := 51) 2 hX (by decide +kernel) rfl rfl ?_
      refine J_if_ne (pc := 52) (off := 7) (tgt := 59) hX (by decide +kernel) (by decide +kernel) (fun _ => ?_) (fun _ => ?_)
      · refine J_ldcw (pc := 59) (idx := 409) (v := 100000000) hX (by decide +kernel) (mq mt_8 72 (by decide +kernel)) ?_
        exact J_sub [0, 1, 2, 3] _ rfl (jMo_voyage_62 hL hX v1 v2 v3 100000000 v3 hk31 μ)
      · refine J_iconst (pc := 55) (n := 0) (v := 0) hX (by decide +kernel) (by decide +kernel) ?_
        refine J_goto (pc := 56) (off := 6) (tgt := 62) hX (by decide +kernel) (by decide +kernel) ?_
        exact J_sub [0, 1, 2, 3] _ rfl (jMo_voyage_62 hL hX v1 v2 v3 0 v3 hk31 μ)
    · refine J_iconst (pc := 45) (n := 1) (v := 1) hX (by decide +kernel) (by decide +kernel) ?_
      refine J_iload_n (k0 := 2) (pc := 46) 2 hX (by decide +kernel) rfl rfl ?_
      refine J_isub (pc := 47) hX (by decide +kernel) ?_
      refine J_goto (pc := 48) (off := 14) (tgt := 62) hX (by decide +kernel) (by decide +kernel) ?_
      exact J_sub [0, 1, 2, 3] _ rfl (jMo_voyage_62 hL hX v1 v2 v3 (1 - v2) v3 hk31 μ)
set_option maxRecDepth 100000 in
set_option maxHeartbeats 4000000 in
theorem jMo_voyage_31 {X : Cx} {l : Launch} {G : Gx} {y : Ly} {a : Nat} (hL : LyMo y a ) (hX : Ok X l G prog_13_method_122_code 6 (some .int) "SaltFiguresModel") (v1 : Int32) (v2 : Int32)   : ∀ (fu : Nat) (v3 : Int32) (μ : Mu), J X G 6 2 y (emy y) rvI tpT 31 [(0, .ref (G.1 + a)), (1, .int v1), (2, .int v2), (3, .int v3)] [] (μ, y) (Mo_voyage_31 a  v1 v2 fu v3 μ) := by
  intro fu
  induction fu with
  | zero => intros; exact J_none
  | succ fu ih => intro v3 μ; exact jMo_voyage_31b hL hX v1 v2  ih v3 μ
set_option maxRecDepth 100000 in
set_option maxHeartbeats 4000000 in
theorem jMo_voyage {X : Cx} {l : Launch} {G : Gx} {y : Ly} {a : Nat} (hL : LyMo y a ) (hX : Ok X l G prog_13_method_122_code 6 (some .int) "SaltFiguresModel") (v1 : Int32) (v2 : Int32) (μ : Mu) : J X G 6 2 y (emy y) rvI tpT 0 [(0, .ref (G.1 + a)), (1, .int v1), (2, .int v2)] [] (μ, y) (Mo_voyage a v1 v2 μ) := by
  unfold Mo_voyage
  refine J_aload_n (k0 := 0) (pc := 0) 0 hX (by decide +kernel) rfl rfl ?_
  refine J_iconst (pc := 1) (n := 0) (v := 0) hX (by decide +kernel) (by decide +kernel) ?_
  refine J_pF (pc := 2) hX (by decide +kernel) fl_Mo_131 hL.1 rfl (fun μ1 => ?_)
  refine J_aload_n (k0 := 0) (pc := 5) 0 hX (by decide +kernel) rfl rfl ?_
  refine J_iload_n (k0 := 1) (pc := 6) 1 hX (by decide +kernel) rfl rfl ?_
  refine J_iconst (pc := 7) (n := 1) (v := 1) hX (by decide +kernel) (by decide +kernel) ?_
  refine J_sipush (pc := 8) (n := 200) (v := 200) hX (by decide +kernel) (by decide +kernel) ?_
  refine J_cVi (pc := 11) (idx := 154) [.int v1, .int 1, .int 200] hX (by decide +kernel) (mq mt_6 226 (by decide +kernel)) mv_Mo_isIn hL.1 rfl rfl (Nat.le_of_ble_eq_true rfl) (Nat.le_of_ble_eq_true rfl) (c_Mo_isIn hL v1 1 200 μ1) (fun x3 μ2 => ?_)
  refine J_if_eq (pc := 14) (off := 13) (tgt := 27) hX (by decide +kernel) (by decide +kernel) (fun _ => ?_) (fun _ => ?_)
  · refine J_iconst (pc := 27) (n := -1) (v := (-1)) hX (by decide +kernel) (by decide +kernel) ?_
    exact J_iret (pc := 28) hX (by decide +kernel) rfl trivial
  · refine J_aload_n (k0 := 0) (pc := 17) 0 hX (by decide +kernel) rfl rfl ?_
    refine J_iload_n (k0 := 2) (pc := 18) 2 hX (by decide +kernel) rfl rfl ?_
    refine J_iconst (pc := 19) (n := 0) (v := 0) hX (by decide +kernel) (by decide +kernel) ?_
    refine J_iconst (pc := 20) (n := 1) (v := 1) hX (by decide +kernel) (by decide +kernel) ?_
    refine J_cVi (pc := 21) (idx := 154) [.int v2, .int 0, .int 1] hX (by decide +kernel) (mq mt_6 226 (by decide +kernel)) mv_Mo_isIn hL.1 rfl rfl (Nat.le_of_ble_eq_true rfl) (Nat.le_of_ble_eq_true rfl) (c_Mo_isIn hL v2 0 1 μ2) (fun x5 μ4 => ?_)
    refine J_if_ne (pc := 24) (off := 5) (tgt := 29) hX (by decide +kernel) (by decide +kernel) (fun _ => ?_) (fun _ => ?_)
    · refine J_iconst (pc := 29) (n := 0) (v := 0) hX (by decide +kernel) (by decide +kernel) ?_
      refine J_istore_n (k0 := 3) (pc := 30) [(3, .int 0), (0, .ref (G.1 + a)), (1, .int v1), (2, .int v2)] hX (by decide +kernel) rfl (by decide) rfl ?_
      exact J_sub [1, 2, 3, 0] _ rfl (jMo_voyage_31 hL hX v1 v2 FU 0 μ4)
    · refine J_iconst (pc := 27) (n := -1) (v := (-1)) hX (by decide +kernel) (by decide +kernel) ?_
      exact J_iret (pc := 28) hX (by decide +kernel) rfl trivial
set_option maxRecDepth 100000 in
set_option maxHeartbeats 4000000 in
theorem c_Mo_voyage {l : Launch} {G : Gx} {y : Ly} {a : Nat} (hL : LyMo y a ) (v1 : Int32) (v2 : Int32) (μ : Mu) : Cn l G ⟨"SaltFiguresModel", "voyage", "(II)I"⟩ prog_13_method_122_code 6 (some .int) 2 [.ref (G.1 + a), .int v1, .int v2] (μ, y) (emy y) rvI tpT (Mo_voyage a v1 v2 μ) := cn_of (by decide +kernel) (Nat.le_of_ble_eq_true rfl) (fun _ _ _ => ⟨List.prefix_refl _, trivial⟩) (fun X hX _ => jMo_voyage hL hX v1 v2 μ)

def Mo_waysOfScales_93 (a : Nat) (kb27 : Int32 → Int32 → Mu → Option (Int32 × Mu))  (v1 : Int32) (v2 : Int32) (v3 : Int32) (v4 : Int32)  (μ : Mu) : Option (Int32 × Mu) := kb27 v3 (v4 + 1) μ
def Mo_waysOfScales_43b (a : Nat) (kb27 : Int32 → Int32 → Mu → Option (Int32 × Mu)) (kb43 : Int32 → Int32 → Int32 → Mu → Option (Int32 × Mu)) (v1 : Int32) (v2 : Int32) (v3 : Int32) (v4 : Int32) (v5 : Int32) (v6 : Int32) (v7 : Int32)  (μ : Mu) : Option (Int32 × Mu) := gF μ a 45 (fun x1 => (if x1 ≤ v7 then (if v6 = v1 then Mo_waysOfScales_93 a kb27 v1 v2 (v3 + 1) v4 μ else Mo_waysOfScales_93 a kb27 v1 v2 v3 v4 μ) else ldA μ (a + 24) 6 v7 (fun x2 => kb43 (v5 / 3) (v6 + (x2 * ((jrem v5 3) - 1))) (v7 + 1) μ)))
def Mo_waysOfScales_43 (a : Nat) (kb27 : Int32 → Int32 → Mu → Option (Int32 × Mu)) (v1 : Int32) (v2 : Int32) (v3 : Int32) (v4 : Int32) (fu : Nat) : Int32 → Int32 → Int32 → Mu → Option (Int32 × Mu) := lp (fun kb => Mo_waysOfScales_43b a kb27 kb v1 v2 v3 v4) (fun _ _ _ _ => none) fu
def Mo_waysOfScales_27b (a : Nat)  (kb27 : Int32 → Int32 → Mu → Option (Int32 × Mu)) (v1 : Int32) (v2 : Int32) (v3 : Int32) (v4 : Int32)  (μ : Mu) : Option (Int32 × Mu) := (if v2 ≤ v4 then some (v3, μ) else Mo_waysOfScales_43 a kb27 v1 v2 v3 v4 FU v4 0 0 μ)
def Mo_waysOfScales_27 (a : Nat)  (v1 : Int32) (v2 : Int32) (fu : Nat) : Int32 → Int32 → Mu → Option (Int32 × Mu) := lp (fun kb => Mo_waysOfScales_27b a  kb v1 v2) (fun _ _ _ => none) fu
def Mo_waysOfScales_4b (a : Nat)  (kb4 : Int32 → Int32 → Mu → Option (Int32 × Mu)) (v1 : Int32) (v2 : Int32) (v3 : Int32)  (μ : Mu) : Option (Int32 × Mu) := gF μ a 45 (fun x1 => (if x1 ≤ v3 then Mo_waysOfScales_27 a v1 v2 FU 0 0 μ else kb4 (v2 * 3) (v3 + 1) μ))
def Mo_waysOfScales_4 (a : Nat)  (v1 : Int32) (fu : Nat) : Int32 → Int32 → Mu → Option (Int32 × Mu) := lp (fun kb => Mo_waysOfScales_4b a  kb v1) (fun _ _ _ => none) fu
def Mo_waysOfScales (a : Nat) (v1 : Int32) (μ : Mu) : Option (Int32 × Mu) := Mo_waysOfScales_4 a v1 FU 1 0 μ
set_option maxRecDepth 100000 in
set_option maxHeartbeats 4000000 in
theorem jMo_waysOfScales_93 {X : Cx} {l : Launch} {G : Gx} {y : Ly} {a : Nat} (hL : LyMo y a ) (hX : Ok X l G prog_13_method_108_code 8 (some .int) "SaltFiguresModel")  (v1 : Int32) (v2 : Int32) (v3 : Int32) (v4 : Int32)  {kb27 : Int32 → Int32 → Mu → Option (Int32 × Mu)} (hk27 : ∀ (v3 : Int32) (v4 : Int32) (μ : Mu), J X G 8 1 y (emy y) rvI tpT 27 [(0, .ref (G.1 + a)), (1, .int v1), (2, .int v2), (3, .int v3), (4, .int v4)] [] (μ, y) (kb27 v3 v4 μ)) (μ : Mu) : J X G 8 1 y (emy y) rvI tpT 93 [(0, .ref (G.1 + a)), (1, .int v1), (2, .int v2), (3, .int v3), (4, .int v4)] [] (μ, y) (Mo_waysOfScales_93 a kb27  v1 v2 v3 v4  μ) := by
  unfold Mo_waysOfScales_93
  refine J_iinc (pc := 93) (n := 1) 4 [(4, .int (v4 + 1)), (0, .ref (G.1 + a)), (1, .int v1), (2, .int v2), (3, .int v3)] hX (by decide +kernel) rfl rfl (by decide) rfl ?_
  refine J_goto (pc := 96) (off := -69) (tgt := 27) hX (by decide +kernel) (by decide +kernel) ?_
  exact J_sub [1, 2, 3, 4, 0] _ rfl (hk27 v3 (v4 + 1) μ)
set_option maxRecDepth 100000 in
set_option maxHeartbeats 4000000 in
theorem jMo_waysOfScales_43b {X : Cx} {l : Launch} {G : Gx} {y : Ly} {a : Nat} (hL : LyMo y a ) (hX : Ok X l G prog_13_method_108_code 8 (some .int) "SaltFiguresModel") (v1 : Int32) (v2 : Int32) (v3 : Int32) (v4 : Int32) {kb27 : Int32 → Int32 → Mu → Option (Int32 × Mu)} {kb43 : Int32 → Int32 → Int32 → Mu → Option (Int32 × Mu)} (hk27 : ∀ (v3 : Int32) (v4 : Int32) (μ : Mu), J X G 8 1 y (emy y) rvI tpT 27 [(0, .ref (G.1 + a)), (1, .int v1), (2, .int v2), (3, .int v3), (4, .int v4)] [] (μ, y) (kb27 v3 v4 μ)) (hk43 : ∀ (v5 : Int32) (v6 : Int32) (v7 : Int32) (μ : Mu), J X G 8 1 y (emy y) rvI tpT 43 [(0, .ref (G.1 + a)), (1, .int v1), (2, .int v2), (3, .int v3), (4, .int v4), (5, .int v5), (6, .int v6), (7, .int v7)] [] (μ, y) (kb43 v5 v6 v7 μ)) (v5 : Int32) (v6 : Int32) (v7 : Int32)  (μ : Mu) : J X G 8 1 y (emy y) rvI tpT 43 [(0, .ref (G.1 + a)), (1, .int v1), (2, .int v2), (3, .int v3), (4, .int v4), (5, .int v5), (6, .int v6), (7, .int v7)] [] (μ, y) (Mo_waysOfScales_43b a kb27 kb43 v1 v2 v3 v4 v5 v6 v7  μ) := by
  unfold Mo_waysOfScales_43b
  refine J_iload (pc := 43) 7 hX (by decide +kernel) rfl ?_
  refine J_aload_n (k0 := 0) (pc := 45) 0 hX (by decide +kernel) rfl rfl ?_
  refine J_gF (pc := 46) hX (by decide +kernel) fl_Mo_450 hL.1 rfl (fun x1 => ?_)
  refine J_icmp_ge (pc := 49) (off := 34) (tgt := 83) hX (by decide +kernel) (by decide +kernel) (fun _ => ?_) (fun _ => ?_)
  · refine J_iload (pc := 83) 6 hX (by decide +kernel) rfl ?_
    refine J_iload_n (k0 := 1) (pc := 85) 1 hX (by decide +kernel) rfl rfl ?_
    refine J_icmp_ne (pc := 86) (off := 7) (tgt := 93) hX (by decide +kernel) (by decide +kernel) (fun _ => ?_) (fun _ => ?_)
    · exact J_sub [0, 1, 2, 3, 4] _ rfl (jMo_waysOfScales_93 hL hX v1 v2 v3 v4 hk27 μ)
    · refine J_iload_n (k0 := 3) (pc := 89) 3 hX (by decide +kernel) rfl rfl ?_
      refine J_iconst (pc := 90) (n := 1) (v := 1) hX (by decide +kernel) (by decide +kernel) ?_
      refine J_iadd (pc := 91) hX (by decide +kernel) ?_
      refine J_istore_n (k0 := 3) (pc := 92) [(3, .int (v3 + 1)), (0, .ref (G.1 + a)), (1, .int v1), (2, .int v2), (4, .int v4), (5, .int v5), (6, .int v6), (7, .int v7)] hX (by decide +kernel) rfl (by decide) rfl ?_
      exact J_sub [1, 2, 3, 0, 4] _ rfl (jMo_waysOfScales_93 hL hX v1 v2 (v3 + 1) v4 hk27 μ)
  · refine J_iload (pc := 52) 6 hX (by decide +kernel) rfl ?_
    refine J_aload_n (k0 := 0) (pc := 54) 0 hX (by decide +kernel) rfl rfl ?_
    refine J_gr (pc := 55) hX (by decide +kernel) fl_Mo_83 hL.1 rfl hL.2.2.2.2.2.2.2.2.2.2.2.2.2.2.2.2.2.2.2.2.2.2.2.2.1.1 ?_
    refine J_iload (pc := 58) 7 hX (by decide +kernel) rfl ?_
    refine J_ldA (pc := 60) hX (by decide +kernel) hL.2.2.2.2.2.2.2.2.2.2.2.2.2.2.2.2.2.2.2.2.2.2.2.2.1.2 (fun x2 => ?_)
    refine J_iload (pc := 61) 5 hX (by decide +kernel) rfl ?_
    refine J_iconst (pc := 63) (n := 3) (v := 3) hX (by decide +kernel) (by decide +kernel) ?_
    refine J_iremK (pc := 64) hX (by decide +kernel) (by decide +kernel) ?_
    refine J_iconst (pc := 65) (n := 1) (v := 1) hX (by decide +kernel) (by decide +kernel) ?_
    refine J_isub (pc := 66) hX (by decide +kernel) ?_
    refine J_imul (pc := 67) hX (by decide +kernel) ?_
    refine J_iadd (pc := 68) hX (by decide +kernel) ?_
    refine J_istore (pc := 69) [(6, .int (v6 + (x2 * ((jrem v5 3) - 1)))), (0, .ref (G.1 + a)), (1, .int v1), (2, .int v2), (3, .int v3), (4, .int v4), (5, .int v5), (7, .int v7)] hX (by decide +kernel) (by decide) rfl ?_
    refine J_iload (pc := 71) 6 hX (by decide +kernel) rfl ?_
    refine J_iconst (pc := 73) (n := 3) (v := 3) hX (by decide +kernel) (by decide +kernel) ?_
    refine J_idivK (pc := 74) hX (by decide +kernel) (by decide +kernel) ?_
    refine J_istore (pc := 75) [(5, .int (v5 / 3)), (6, .int (v6 + (x2 * ((jrem v5 3) - 1)))), (0, .ref (G.1 + a)), (1, .int v1), (2, .int v2), (3, .int v3), (4, .int v4), (7, .int v7)] hX (by decide +kernel) (by decide) rfl ?_
    refine J_iinc (pc := 77) (n := 1) 7 [(7, .int (v7 + 1)), (5, .int (v5 / 3)), (6, .int (v6 + (x2 * ((jrem v5 3) - 1)))), (0, .ref (G.1 + a)), (1, .int v1), (2, .int v2), (3, .int v3), (4, .int v4)] hX (by decide +kernel) rfl rfl (by decide) rfl ?_
    refine J_goto (pc := 80) (off := -37) (tgt := 43) hX (by decide +kernel) (by decide +kernel) ?_
    exact J_sub [3, 4, 5, 6, 7, 1, 2, 0] _ rfl (hk43 (v5 / 3) (v6 + (x2 * ((jrem v5 3) - 1))) (v7 + 1) μ)
set_option maxRecDepth 100000 in
set_option maxHeartbeats 4000000 in
theorem jMo_waysOfScales_43 {X : Cx} {l : Launch} {G : Gx} {y : Ly} {a : Nat} (hL : LyMo y a ) (hX : Ok X l G prog_13_method_108_code 8 (some .int) "SaltFiguresModel") (v1 : Int32) (v2 : Int32) (v3 : Int32) (v4 : Int32) {kb27 : Int32 → Int32 → Mu → Option (Int32 × Mu)} (hk27 : ∀ (v3 : Int32) (v4 : Int32) (μ : Mu), J X G 8 1 y (emy y) rvI tpT 27 [(0, .ref (G.1 + a)), (1, .int v1), (2, .int v2), (3, .int v3), (4, .int v4)] [] (μ, y) (kb27 v3 v4 μ)) : ∀ (fu : Nat) (v5 : Int32) (v6 : Int32) (v7 : Int32) (μ : Mu), J X G 8 1 y (emy y) rvI tpT 43 [(0, .ref (G.1 + a)), (1, .int v1), (2, .int v2), (3, .int v3), (4, .int v4), (5, .int v5), (6, .int v6), (7, .int v7)] [] (μ, y) (Mo_waysOfScales_43 a kb27 v1 v2 v3 v4 fu v5 v6 v7 μ) := by
  intro fu
  induction fu with
  | zero => intros; exact J_none
  | succ fu ih => intro v5 v6 v7 μ; exact jMo_waysOfScales_43b hL hX v1 v2 v3 v4 hk27 ih v5 v6 v7 μ
set_option maxRecDepth 100000 in
set_option maxHeartbeats 4000000 in
theorem jMo_waysOfScales_27b {X : Cx} {l : Launch} {G : Gx} {y : Ly} {a : Nat} (hL : LyMo y a ) (hX : Ok X l G prog_13_method_108_code 8 (some .int) "SaltFiguresModel") (v1 : Int32) (v2 : Int32)  {kb27 : Int32 → Int32 → Mu → Option (Int32 × Mu)}  (hk27 : ∀ (v3 : Int32) (v4 : Int32) (μ : Mu), J X G 8 1 y (emy y) rvI tpT 27 [(0, .ref (G.1 + a)), (1, .int v1), (2, .int v2), (3, .int v3), (4, .int v4)] [] (μ, y) (kb27 v3 v4 μ)) (v3 : Int32) (v4 : Int32)  (μ : Mu) : J X G 8 1 y (emy y) rvI tpT 27 [(0, .ref (G.1 + a)), (1, .int v1), (2, .int v2), (3, .int v3), (4, .int v4)] [] (μ, y) (Mo_waysOfScales_27b a  kb27 v1 v2 v3 v4  μ) := by
  unfold Mo_waysOfScales_27b
  refine J_iload (pc := 27) 4 hX (by decide +kernel) rfl ?_
  refine J_iload_n (k0 := 2) (pc := 29) 2 hX (by decide +kernel) rfl rfl ?_
  refine J_icmp_ge (pc := 30) (off := 69) (tgt := 99) hX (by decide +kernel) (by decide +kernel) (fun _ => ?_) (fun _ => ?_)
  · refine J_iload_n (k0 := 3) (pc := 99) 3 hX (by decide +kernel) rfl rfl ?_
    exact J_iret (pc := 100) hX (by decide +kernel) rfl trivial
  · refine J_iload (pc := 33) 4 hX (by decide +kernel) rfl ?_
    refine J_istore (pc := 35) [(5, .int v4), (0, .ref (G.1 + a)), (1, .int v1), (2, .int v2), (3, .int v3), (4, .int v4)] hX (by decide +kernel) (by decide) rfl ?_
    refine J_iconst (pc := 37) (n := 0) (v := 0) hX (by decide +kernel) (by decide +kernel) ?_
    refine J_istore (pc := 38) [(6, .int 0), (5, .int v4), (0, .ref (G.1 + a)), (1, .int v1), (2, .int v2), (3, .int v3), (4, .int v4)] hX (by decide +kernel) (by decide) rfl ?_
    refine J_iconst (pc := 40) (n := 0) (v := 0) hX (by decide +kernel) (by decide +kernel) ?_
    refine J_istore (pc := 41) [(7, .int 0), (6, .int 0), (5, .int v4), (0, .ref (G.1 + a)), (1, .int v1), (2, .int v2), (3, .int v3), (4, .int v4)] hX (by decide +kernel) (by decide) rfl ?_
    exact J_sub [3, 4, 5, 6, 7, 2, 1, 0] _ rfl (jMo_waysOfScales_43 hL hX v1 v2 v3 v4 hk27 FU v4 0 0 μ)
set_option maxRecDepth 100000 in
set_option maxHeartbeats 4000000 in
theorem jMo_waysOfScales_27 {X : Cx} {l : Launch} {G : Gx} {y : Ly} {a : Nat} (hL : LyMo y a ) (hX : Ok X l G prog_13_method_108_code 8 (some .int) "SaltFiguresModel") (v1 : Int32) (v2 : Int32)   : ∀ (fu : Nat) (v3 : Int32) (v4 : Int32) (μ : Mu), J X G 8 1 y (emy y) rvI tpT 27 [(0, .ref (G.1 + a)), (1, .int v1), (2, .int v2), (3, .int v3), (4, .int v4)] [] (μ, y) (Mo_waysOfScales_27 a  v1 v2 fu v3 v4 μ) := by
  intro fu
  induction fu with
  | zero => intros; exact J_none
  | succ fu ih => intro v3 v4 μ; exact jMo_waysOfScales_27b hL hX v1 v2  ih v3 v4 μ
set_option maxRecDepth 100000 in
set_option maxHeartbeats 4000000 in
theorem jMo_waysOfScales_4b {X : Cx} {l : Launch} {G : Gx} {y : Ly} {a : Nat} (hL : LyMo y a ) (hX : Ok X l G prog_13_method_108_code 8 (some .int) "SaltFiguresModel") (v1 : Int32)  {kb4 : Int32 → Int32 → Mu → Option (Int32 × Mu)}  (hk4 : ∀ (v2 : Int32) (v3 : Int32) (μ : Mu), J X G 8 1 y (emy y) rvI tpT 4 [(0, .ref (G.1 + a)), (1, .int v1), (2, .int v2), (3, .int v3)] [] (μ, y) (kb4 v2 v3 μ)) (v2 : Int32) (v3 : Int32)  (μ : Mu) : J X G 8 1 y (emy y) rvI tpT 4 [(0, .ref (G.1 + a)), (1, .int v1), (2, .int v2), (3, .int v3)] [] (μ, y) (Mo_waysOfScales_4b a  kb4 v1 v2 v3  μ) := by
  unfold Mo_waysOfScales_4b
  refine J_iload_n (k0 := 3) (pc := 4) 3 hX (by decide +kernel) rfl rfl ?_
  refine J_aload_n (k0 := 0) (pc := 5) 0 hX (by decide +kernel) rfl rfl ?_
  refine J_gF (pc := 6) hX (by decide +kernel) fl_Mo_450 hL.1 rfl (fun x1 => ?_)
  refine J_icmp_ge (pc := 9) (off := 13) (tgt := 22) hX (by decide +kernel) (by decide +kernel) (fun _ => ?_) (fun _ => ?_)
  · refine J_iconst (pc := 22) (n := 0) (v := 0) hX (by decide +kernel) (by decide +kernel) ?_
    refine J_istore_n (k0 := 3) (pc := 23) [(3, .int 0), (0, .ref (G.1 + a)), (1, .int v1), (2, .int v2)] hX (by decide +kernel) rfl (by decide) rfl ?_
    refine J_iconst (pc := 24) (n := 0) (v := 0) hX (by decide +kernel) (by decide +kernel) ?_
    refine J_istore (pc := 25) [(4, .int 0), (3, .int 0), (0, .ref (G.1 + a)), (1, .int v1), (2, .int v2)] hX (by decide +kernel) (by decide) rfl ?_
    exact J_sub [2, 3, 4, 1, 0] _ rfl (jMo_waysOfScales_27 hL hX v1 v2 FU 0 0 μ)
  · refine J_iload_n (k0 := 2) (pc := 12) 2 hX (by decide +kernel) rfl rfl ?_
    refine J_iconst (pc := 13) (n := 3) (v := 3) hX (by decide +kernel) (by decide +kernel) ?_
    refine J_imul (pc := 14) hX (by decide +kernel) ?_
    refine J_istore_n (k0 := 2) (pc := 15) [(2, .int (v2 * 3)), (0, .ref (G.1 + a)), (1, .int v1), (3, .int v3)] hX (by decide +kernel) rfl (by decide) rfl ?_
    refine J_iinc (pc := 16) (n := 1) 3 [(3, .int (v3 + 1)), (2, .int (v2 * 3)), (0, .ref (G.1 + a)), (1, .int v1)] hX (by decide +kernel) rfl rfl (by decide) rfl ?_
    refine J_goto (pc := 19) (off := -15) (tgt := 4) hX (by decide +kernel) (by decide +kernel) ?_
    exact J_sub [2, 3, 1, 0] _ rfl (hk4 (v2 * 3) (v3 + 1) μ)
set_option maxRecDepth 100000 in
set_option maxHeartbeats 4000000 in
theorem jMo_waysOfScales_4 {X : Cx} {l : Launch} {G : Gx} {y : Ly} {a : Nat} (hL : LyMo y a ) (hX : Ok X l G prog_13_method_108_code 8 (some .int) "SaltFiguresModel") (v1 : Int32)   : ∀ (fu : Nat) (v2 : Int32) (v3 : Int32) (μ : Mu), J X G 8 1 y (emy y) rvI tpT 4 [(0, .ref (G.1 + a)), (1, .int v1), (2, .int v2), (3, .int v3)] [] (μ, y) (Mo_waysOfScales_4 a  v1 fu v2 v3 μ) := by
  intro fu
  induction fu with
  | zero => intros; exact J_none
  | succ fu ih => intro v2 v3 μ; exact jMo_waysOfScales_4b hL hX v1  ih v2 v3 μ
set_option maxRecDepth 100000 in
set_option maxHeartbeats 4000000 in
theorem jMo_waysOfScales {X : Cx} {l : Launch} {G : Gx} {y : Ly} {a : Nat} (hL : LyMo y a ) (hX : Ok X l G prog_13_method_108_code 8 (some .int) "SaltFiguresModel") (v1 : Int32) (μ : Mu) : J X G 8 1 y (emy y) rvI tpT 0 [(0, .ref (G.1 + a)), (1, .int v1)] [] (μ, y) (Mo_waysOfScales a v1 μ) := by
  unfold Mo_waysOfScales
  refine J_iconst (pc := 0) (n := 1) (v := 1) hX (by decide +kernel) (by decide +kernel) ?_
  refine J_istore_n (k0 := 2) (pc := 1) [(2, .int 1), (0, .ref (G.1 + a)), (1, .int v1)] hX (by decide +kernel) rfl (by decide) rfl ?_
  refine J_iconst (pc := 2) (n := 0) (v := 0) hX (by decide +kernel) (by decide +kernel) ?_
  refine J_istore_n (k0 := 3) (pc := 3) [(3, .int 0), (2, .int 1), (0, .ref (G.1 + a)), (1, .int v1)] hX (by decide +kernel) rfl (by decide) rfl ?_
  exact J_sub [2, 3, 1, 0] _ rfl (jMo_waysOfScales_4 hL hX v1 FU 1 0 μ)
set_option maxRecDepth 100000 in
set_option maxHeartbeats 4000000 in
theorem c_Mo_waysOfScales {l : Launch} {G : Gx} {y : Ly} {a : Nat} (hL : LyMo y a ) (v1 : Int32) (μ : Mu) : Cn l G ⟨"SaltFiguresModel", "waysOfScales", "(I)I"⟩ prog_13_method_108_code 8 (some .int) 1 [.ref (G.1 + a), .int v1] (μ, y) (emy y) rvI tpT (Mo_waysOfScales a v1 μ) := cn_of (by decide +kernel) (Nat.le_of_ble_eq_true rfl) (fun _ _ _ => ⟨List.prefix_refl _, trivial⟩) (fun X hX _ => jMo_waysOfScales hL hX v1 μ)

def Mo_week_26 (a : Nat)     (μ : Mu) : Option (Int32 × Mu) := some ((-1000000), μ)
def Mo_week_102 (a : Nat) (kb72 : Int32 → Int32 → Mu → Option (Int32 × Mu))  (v1 : Int32) (v5 : Int32) (v6 : Int32)  (μ : Mu) : Option (Int32 × Mu) := kb72 v5 (v6 + 1) μ
def Mo_week_72b (a : Nat)  (kb72 : Int32 → Int32 → Mu → Option (Int32 × Mu)) (v1 : Int32) (v5 : Int32) (v6 : Int32)  (μ : Mu) : Option (Int32 × Mu) := (if 12 < v6 then some (v5, μ) else cl (Mo_dayNumber a v1 v6 13 μ) (fun x2 μ1 => cl (Mo_dayOfWeek a x2 μ1) (fun x4 μ3 => (if x4 = 5 then Mo_week_102 a kb72 v1 (v5 + 1) v6 μ3 else Mo_week_102 a kb72 v1 v5 v6 μ3))))
def Mo_week_72 (a : Nat)  (v1 : Int32) (fu : Nat) : Int32 → Int32 → Mu → Option (Int32 × Mu) := lp (fun kb => Mo_week_72b a  kb v1) (fun _ _ _ => none) fu
def Mo_week (a : Nat) (v1 : Int32) (v2 : Int32) (v3 : Int32) (v4 : Int32) (μ : Mu) : Option (Int32 × Mu) := pF μ a 0 0 (fun μ1 => cl (Mo_isDate a v1 v2 v3 μ1) (fun x3 μ2 => (if x3 = 0 then Mo_week_26 a μ2 else cl (Mo_isIn a v4 0 2 μ2) (fun x5 μ4 => (if x5 = 0 then Mo_week_26 a μ4 else (if v4 = 0 then cl (Mo_dayNumber a v1 v2 v3 μ4) (fun x10 μ9 => cl (Mo_dayOfWeek a x10 μ9) (fun x12 μ11 => some (x12, μ11))) else (if v4 = 2 then cl (Mo_dayNumber a v1 v2 v3 μ4) (fun x7 μ6 => gF μ6 a 41 (fun x8 => some (x7 - x8, μ6))) else Mo_week_72 a v1 FU 0 1 μ4)))))))
set_option maxRecDepth 100000 in
set_option maxHeartbeats 4000000 in
theorem jMo_week_26 {X : Cx} {l : Launch} {G : Gx} {y : Ly} {a : Nat} (hL : LyMo y a ) (hX : Ok X l G prog_13_method_98_code 7 (some .int) "SaltFiguresModel")      (μ : Mu) : J X G 7 4 y (emy y) rvI tpT 26 [] [] (μ, y) (Mo_week_26 a     μ) := by
  unfold Mo_week_26
  refine J_ldcw (pc := 26) (idx := 428) (v := (-1000000)) hX (by decide +kernel) (mq mt_8 101 (by decide +kernel)) ?_
  exact J_iret (pc := 29) hX (by decide +kernel) rfl trivial
set_option maxRecDepth 100000 in
set_option maxHeartbeats 4000000 in
theorem jMo_week_102 {X : Cx} {l : Launch} {G : Gx} {y : Ly} {a : Nat} (hL : LyMo y a ) (hX : Ok X l G prog_13_method_98_code 7 (some .int) "SaltFiguresModel")  (v1 : Int32) (v5 : Int32) (v6 : Int32)  {kb72 : Int32 → Int32 → Mu → Option (Int32 × Mu)} (hk72 : ∀ (v5 : Int32) (v6 : Int32) (μ : Mu), J X G 7 4 y (emy y) rvI tpT 72 [(0, .ref (G.1 + a)), (1, .int v1), (5, .int v5), (6, .int v6)] [] (μ, y) (kb72 v5 v6 μ)) (μ : Mu) : J X G 7 4 y (emy y) rvI tpT 102 [(0, .ref (G.1 + a)), (1, .int v1), (5, .int v5), (6, .int v6)] [] (μ, y) (Mo_week_102 a kb72  v1 v5 v6  μ) := by
  unfold Mo_week_102
  refine J_iinc (pc := 102) (n := 1) 3 [(6, .int (v6 + 1)), (0, .ref (G.1 + a)), (1, .int v1), (5, .int v5)] hX (by decide +kernel) rfl rfl (by decide) rfl ?_
  refine J_goto (pc := 105) (off := -33) (tgt := 72) hX (by decide +kernel) (by decide +kernel) ?_
  exact J_sub [1, 2, 3, 0] _ rfl (hk72 v5 (v6 + 1) μ)
set_option maxRecDepth 100000 in
set_option maxHeartbeats 4000000 in
theorem jMo_week_72b {X : Cx} {l : Launch} {G : Gx} {y : Ly} {a : Nat} (hL : LyMo y a ) (hX : Ok X l G prog_13_method_98_code 7 (some .int) "SaltFiguresModel") (v1 : Int32)  {kb72 : Int32 → Int32 → Mu → Option (Int32 × Mu)}  (hk72 : ∀ (v5 : Int32) (v6 : Int32) (μ : Mu), J X G 7 4 y (emy y) rvI tpT 72 [(0, .ref (G.1 + a)), (1, .int v1), (5, .int v5), (6, .int v6)] [] (μ, y) (kb72 v5 v6 μ)) (v5 : Int32) (v6 : Int32)  (μ : Mu) : J X G 7 4 y (emy y) rvI tpT 72 [(0, .ref (G.1 + a)), (1, .int v1), (5, .int v5), (6, .int v6)] [] (μ, y) (Mo_week_72b a  kb72 v1 v5 v6  μ) := by
  unfold Mo_week_72b
  refine J_iload (pc := 72) 3 hX (by decide +kernel) rfl ?_
  refine J_bipush (pc := 74) (n := 12) (v := 12) hX (by decide +kernel) (by decide +kernel) ?_
  refine J_icmp_gt (pc := 76) (off := 32) (tgt := 108) hX (by decide +kernel) (by decide +kernel) (fun _ => ?_) (fun _ => ?_)
  · refine J_iload (pc := 108) 2 hX (by decide +kernel) rfl ?_
    exact J_iret (pc := 110) hX (by decide +kernel) rfl trivial
  · refine J_aload_n (k0 := 0) (pc := 79) 0 hX (by decide +kernel) rfl rfl ?_
    refine J_aload_n (k0 := 0) (pc := 80) 0 hX (by decide +kernel) rfl rfl ?_
    refine J_iload_n (k0 := 1) (pc := 81) 1 hX (by decide +kernel) rfl rfl ?_
    refine J_iload (pc := 82) 3 hX (by decide +kernel) rfl ?_
    refine J_bipush (pc := 84) (n := 13) (v := 13) hX (by decide +kernel) (by decide +kernel) ?_
    refine J_cVi (pc := 86) (idx := 422) [.int v1, .int v6, .int 13] hX (by decide +kernel) (mq mt_8 93 (by decide +kernel)) mv_Mo_dayNumber hL.1 rfl rfl (Nat.le_of_ble_eq_true rfl) (Nat.le_of_ble_eq_true rfl) (c_Mo_dayNumber hL v1 v6 13 μ) (fun x2 μ1 => ?_)
    refine J_cVi (pc := 89) (idx := 429) [.int x2] hX (by decide +kernel) (mq mt_8 102 (by decide +kernel)) mv_Mo_dayOfWeek hL.1 rfl rfl (Nat.le_of_ble_eq_true rfl) (Nat.le_of_ble_eq_true rfl) (c_Mo_dayOfWeek hL x2 μ1) (fun x4 μ3 => ?_)
    refine J_iconst (pc := 92) (n := 5) (v := 5) hX (by decide +kernel) (by decide +kernel) ?_
    refine J_icmp_ne (pc := 93) (off := 9) (tgt := 102) hX (by decide +kernel) (by decide +kernel) (fun _ => ?_) (fun _ => ?_)
    · exact J_sub [0, 1, 2, 3] _ rfl (jMo_week_102 hL hX v1 v5 v6 hk72 μ3)
    · refine J_iload (pc := 96) 2 hX (by decide +kernel) rfl ?_
      refine J_iconst (pc := 98) (n := 1) (v := 1) hX (by decide +kernel) (by decide +kernel) ?_
      refine J_iadd (pc := 99) hX (by decide +kernel) ?_
      refine J_istore (pc := 100) [(5, .int (v5 + 1)), (0, .ref (G.1 + a)), (1, .int v1), (6, .int v6)] hX (by decide +kernel) (by decide) rfl ?_
      exact J_sub [1, 2, 0, 3] _ rfl (jMo_week_102 hL hX v1 (v5 + 1) v6 hk72 μ3)
set_option maxRecDepth 100000 in
set_option maxHeartbeats 4000000 in
theorem jMo_week_72 {X : Cx} {l : Launch} {G : Gx} {y : Ly} {a : Nat} (hL : LyMo y a ) (hX : Ok X l G prog_13_method_98_code 7 (some .int) "SaltFiguresModel") (v1 : Int32)   : ∀ (fu : Nat) (v5 : Int32) (v6 : Int32) (μ : Mu), J X G 7 4 y (emy y) rvI tpT 72 [(0, .ref (G.1 + a)), (1, .int v1), (5, .int v5), (6, .int v6)] [] (μ, y) (Mo_week_72 a  v1 fu v5 v6 μ) := by
  intro fu
  induction fu with
  | zero => intros; exact J_none
  | succ fu ih => intro v5 v6 μ; exact jMo_week_72b hL hX v1  ih v5 v6 μ
set_option maxRecDepth 100000 in
set_option maxHeartbeats 4000000 in
theorem jMo_week {X : Cx} {l : Launch} {G : Gx} {y : Ly} {a : Nat} (hL : LyMo y a ) (hX : Ok X l G prog_13_method_98_code 7 (some .int) "SaltFiguresModel") (v1 : Int32) (v2 : Int32) (v3 : Int32) (v4 : Int32) (μ : Mu) : J X G 7 4 y (emy y) rvI tpT 0 [(0, .ref (G.1 + a)), (1, .int v1), (2, .int v2), (3, .int v3), (4, .int v4)] [] (μ, y) (Mo_week a v1 v2 v3 v4 μ) := by
  unfold Mo_week
  refine J_aload_n (k0 := 0) (pc := 0) 0 hX (by decide +kernel) rfl rfl ?_
  refine J_iconst (pc := 1) (n := 0) (v := 0) hX (by decide +kernel) (by decide +kernel) ?_
  refine J_pF (pc := 2) hX (by decide +kernel) fl_Mo_131 hL.1 rfl (fun μ1 => ?_)
  refine J_aload_n (k0 := 0) (pc := 5) 0 hX (by decide +kernel) rfl rfl ?_
  refine J_iload_n (k0 := 1) (pc := 6) 1 hX (by decide +kernel) rfl rfl ?_
  refine J_iload_n (k0 := 2) (pc := 7) 2 hX (by decide +kernel) rfl rfl ?_
  refine J_iload_n (k0 := 3) (pc := 8) 3 hX (by decide +kernel) rfl rfl ?_
  refine J_cVi (pc := 9) (idx := 419) [.int v1, .int v2, .int v3] hX (by decide +kernel) (mq mt_8 81 (by decide +kernel)) mv_Mo_isDate hL.1 rfl rfl (Nat.le_of_ble_eq_true rfl) (Nat.le_of_ble_eq_true rfl) (c_Mo_isDate hL v1 v2 v3 μ1) (fun x3 μ2 => ?_)
  refine J_if_eq (pc := 12) (off := 14) (tgt := 26) hX (by decide +kernel) (by decide +kernel) (fun _ => ?_) (fun _ => ?_)
  · exact J_sub [] _ rfl (jMo_week_26 hL hX μ2)
  · refine J_aload_n (k0 := 0) (pc := 15) 0 hX (by decide +kernel) rfl rfl ?_
    refine J_iload (pc := 16) 4 hX (by decide +kernel) rfl ?_
    refine J_iconst (pc := 18) (n := 0) (v := 0) hX (by decide +kernel) (by decide +kernel) ?_
    refine J_iconst (pc := 19) (n := 2) (v := 2) hX (by decide +kernel) (by decide +kernel) ?_
    refine J_cVi (pc := 20) (idx := 154) [.int v4, .int 0, .int 2] hX (by decide +kernel) (mq mt_6 226 (by decide +kernel)) mv_Mo_isIn hL.1 rfl rfl (Nat.le_of_ble_eq_true rfl) (Nat.le_of_ble_eq_true rfl) (c_Mo_isIn hL v4 0 2 μ2) (fun x5 μ4 => ?_)
    refine J_if_ne (pc := 23) (off := 7) (tgt := 30) hX (by decide +kernel) (by decide +kernel) (fun _ => ?_) (fun _ => ?_)
    · refine J_iload (pc := 30) 4 hX (by decide +kernel) rfl ?_
      refine J_if_ne (pc := 32) (off := 15) (tgt := 47) hX (by decide +kernel) (by decide +kernel) (fun _ => ?_) (fun _ => ?_)
      · refine J_iload (pc := 47) 4 hX (by decide +kernel) rfl ?_
        refine J_iconst (pc := 49) (n := 2) (v := 2) hX (by decide +kernel) (by decide +kernel) ?_
        refine J_icmp_ne (pc := 50) (off := 16) (tgt := 66) hX (by decide +kernel) (by decide +kernel) (fun _ => ?_) (fun _ => ?_)
        · refine J_iconst (pc := 66) (n := 0) (v := 0) hX (by decide +kernel) (by decide +kernel) ?_
          refine J_istore (pc := 67) [(5, .int 0), (0, .ref (G.1 + a)), (1, .int v1), (2, .int v2), (3, .int v3), (4, .int v4)] hX (by decide +kernel) (by decide) rfl ?_
          refine J_iconst (pc := 69) (n := 1) (v := 1) hX (by decide +kernel) (by decide +kernel) ?_
          refine J_istore (pc := 70) [(6, .int 1), (5, .int 0), (0, .ref (G.1 + a)), (1, .int v1), (2, .int v2), (3, .int v3), (4, .int v4)] hX (by decide +kernel) (by decide) rfl ?_
          exact J_sub [2, 3, 1, 0] _ rfl (jMo_week_72 hL hX v1 FU 0 1 μ4)
        · refine J_aload_n (k0 := 0) (pc := 53) 0 hX (by decide +kernel) rfl rfl ?_
          refine J_iload_n (k0 := 1) (pc := 54) 1 hX (by decide +kernel) rfl rfl ?_
          refine J_iload_n (k0 := 2) (pc := 55) 2 hX (by decide +kernel) rfl rfl ?_
          refine J_iload_n (k0 := 3) (pc := 56) 3 hX (by decide +kernel) rfl rfl ?_
          refine J_cVi (pc := 57) (idx := 422) [.int v1, .int v2, .int v3] hX (by decide +kernel) (mq mt_8 93 (by decide +kernel)) mv_Mo_dayNumber hL.1 rfl rfl (Nat.le_of_ble_eq_true rfl) (Nat.le_of_ble_eq_true rfl) (c_Mo_dayNumber hL v1 v2 v3 μ4) (fun x7 μ6 => ?_)
          refine J_aload_n (k0 := 0) (pc := 60) 0 hX (by decide +kernel) rfl rfl ?_
          refine J_gF (pc := 61) hX (by decide +kernel) fl_Mo_425 hL.1 rfl (fun x8 => ?_)
          refine J_isub (pc := 64) hX (by decide +kernel) ?_
          exact J_iret (pc := 65) hX (by decide +kernel) rfl trivial
      · refine J_aload_n (k0 := 0) (pc := 35) 0 hX (by decide +kernel) rfl rfl ?_
        refine J_aload_n (k0 := 0) (pc := 36) 0 hX (by decide +kernel) rfl rfl ?_
        refine J_iload_n (k0 := 1) (pc := 37) 1 hX (by decide +kernel) rfl rfl ?_
        refine J_iload_n (k0 := 2) (pc := 38) 2 hX (by decide +kernel) rfl rfl ?_
        refine J_iload_n (k0 := 3) (pc := 39) 3 hX (by decide +kernel) rfl rfl ?_
        refine J_cVi (pc := 40) (idx := 422) [.int v1, .int v2, .int v3] hX (by decide +kernel) (mq mt_8 93 (by decide +kernel)) mv_Mo_dayNumber hL.1 rfl rfl (Nat.le_of_ble_eq_true rfl) (Nat.le_of_ble_eq_true rfl) (c_Mo_dayNumber hL v1 v2 v3 μ4) (fun x10 μ9 => ?_)
        refine J_cVi (pc := 43) (idx := 429) [.int x10] hX (by decide +kernel) (mq mt_8 102 (by decide +kernel)) mv_Mo_dayOfWeek hL.1 rfl rfl (Nat.le_of_ble_eq_true rfl) (Nat.le_of_ble_eq_true rfl) (c_Mo_dayOfWeek hL x10 μ9) (fun x12 μ11 => ?_)
        exact J_iret (pc := 46) hX (by decide +kernel) rfl trivial
    · exact J_sub [] _ rfl (jMo_week_26 hL hX μ4)
set_option maxRecDepth 100000 in
set_option maxHeartbeats 4000000 in
theorem c_Mo_week {l : Launch} {G : Gx} {y : Ly} {a : Nat} (hL : LyMo y a ) (v1 : Int32) (v2 : Int32) (v3 : Int32) (v4 : Int32) (μ : Mu) : Cn l G ⟨"SaltFiguresModel", "week", "(IIII)I"⟩ prog_13_method_98_code 7 (some .int) 4 [.ref (G.1 + a), .int v1, .int v2, .int v3, .int v4] (μ, y) (emy y) rvI tpT (Mo_week a v1 v2 v3 v4 μ) := cn_of (by decide +kernel) (Nat.le_of_ble_eq_true rfl) (fun _ _ _ => ⟨List.prefix_refl _, trivial⟩) (fun X hX _ => jMo_week hL hX v1 v2 v3 v4 μ)

def Mo_weighs_55 (a : Nat) (kb36 : Int32 → Int32 → Mu → Option (Int32 × Mu))  (v2 : Int32) (v3 : Int32)  (μ : Mu) : Option (Int32 × Mu) := kb36 v2 (v3 + 1) μ
def Mo_weighs_36b (a : Nat)  (kb36 : Int32 → Int32 → Mu → Option (Int32 × Mu))  (v2 : Int32) (v3 : Int32)  (μ : Mu) : Option (Int32 × Mu) := (if 360 < v3 then some (v2, μ) else cl (Mo_waysOfScales a v3 μ) (fun x2 μ1 => (if x2 ≤ 0 then Mo_weighs_55 a kb36 v2 v3 μ1 else Mo_weighs_55 a kb36 (v2 + 1) v3 μ1)))
def Mo_weighs_36 (a : Nat)   (fu : Nat) : Int32 → Int32 → Mu → Option (Int32 × Mu) := lp (fun kb => Mo_weighs_36b a  kb ) (fun _ _ _ => none) fu
def Mo_weighs (a : Nat) (v1 : Int32) (μ : Mu) : Option (Int32 × Mu) := pF μ a 0 0 (fun μ1 => (if v1 = ((-1)) then Mo_weighs_36 a FU 0 1 μ1 else cl (Mo_isIn a v1 0 360 μ1) (fun x3 μ2 => (if x3 = 0 then some ((-1), μ2) else cl (Mo_waysOfScales a v1 μ2) (fun x5 μ4 => some (x5, μ4))))))
set_option maxRecDepth 100000 in
set_option maxHeartbeats 4000000 in
theorem jMo_weighs_55 {X : Cx} {l : Launch} {G : Gx} {y : Ly} {a : Nat} (hL : LyMo y a ) (hX : Ok X l G prog_13_method_109_code 4 (some .int) "SaltFiguresModel")  (v2 : Int32) (v3 : Int32)  {kb36 : Int32 → Int32 → Mu → Option (Int32 × Mu)} (hk36 : ∀ (v2 : Int32) (v3 : Int32) (μ : Mu), J X G 4 2 y (emy y) rvI tpT 36 [(0, .ref (G.1 + a)), (2, .int v2), (3, .int v3)] [] (μ, y) (kb36 v2 v3 μ)) (μ : Mu) : J X G 4 2 y (emy y) rvI tpT 55 [(0, .ref (G.1 + a)), (2, .int v2), (3, .int v3)] [] (μ, y) (Mo_weighs_55 a kb36  v2 v3  μ) := by
  unfold Mo_weighs_55
  refine J_iinc (pc := 55) (n := 1) 2 [(3, .int (v3 + 1)), (0, .ref (G.1 + a)), (2, .int v2)] hX (by decide +kernel) rfl rfl (by decide) rfl ?_
  refine J_goto (pc := 58) (off := -22) (tgt := 36) hX (by decide +kernel) (by decide +kernel) ?_
  exact J_sub [1, 2, 0] _ rfl (hk36 v2 (v3 + 1) μ)
set_option maxRecDepth 100000 in
set_option maxHeartbeats 4000000 in
theorem jMo_weighs_36b {X : Cx} {l : Launch} {G : Gx} {y : Ly} {a : Nat} (hL : LyMo y a ) (hX : Ok X l G prog_13_method_109_code 4 (some .int) "SaltFiguresModel")   {kb36 : Int32 → Int32 → Mu → Option (Int32 × Mu)}  (hk36 : ∀ (v2 : Int32) (v3 : Int32) (μ : Mu), J X G 4 2 y (emy y) rvI tpT 36 [(0, .ref (G.1 + a)), (2, .int v2), (3, .int v3)] [] (μ, y) (kb36 v2 v3 μ)) (v2 : Int32) (v3 : Int32)  (μ : Mu) : J X G 4 2 y (emy y) rvI tpT 36 [(0, .ref (G.1 + a)), (2, .int v2), (3, .int v3)] [] (μ, y) (Mo_weighs_36b a  kb36  v2 v3  μ) := by
  unfold Mo_weighs_36b
  refine J_iload_n (k0 := 3) (pc := 36) 2 hX (by decide +kernel) rfl rfl ?_
  refine J_sipush (pc := 37) (n := 360) (v := 360) hX (by decide +kernel) (by decide +kernel) ?_
  refine J_icmp_gt (pc := 40) (off := 21) (tgt := 61) hX (by decide +kernel) (by decide +kernel) (fun _ => ?_) (fun _ => ?_)
  · refine J_iload_n (k0 := 2) (pc := 61) 1 hX (by decide +kernel) rfl rfl ?_
    exact J_iret (pc := 62) hX (by decide +kernel) rfl trivial
  · refine J_aload_n (k0 := 0) (pc := 43) 0 hX (by decide +kernel) rfl rfl ?_
    refine J_iload_n (k0 := 3) (pc := 44) 2 hX (by decide +kernel) rfl rfl ?_
    refine J_cVi (pc := 45) (idx := 453) [.int v3] hX (by decide +kernel) (mq mt_8 148 (by decide +kernel)) mv_Mo_waysOfScales hL.1 rfl rfl (Nat.le_of_ble_eq_true rfl) (Nat.le_of_ble_eq_true rfl) (c_Mo_waysOfScales hL v3 μ) (fun x2 μ1 => ?_)
    refine J_if_le (pc := 48) (off := 7) (tgt := 55) hX (by decide +kernel) (by decide +kernel) (fun _ => ?_) (fun _ => ?_)
    · exact J_sub [0, 1, 2] _ rfl (jMo_weighs_55 hL hX v2 v3 hk36 μ1)
    · refine J_iload_n (k0 := 2) (pc := 51) 1 hX (by decide +kernel) rfl rfl ?_
      refine J_iconst (pc := 52) (n := 1) (v := 1) hX (by decide +kernel) (by decide +kernel) ?_
      refine J_iadd (pc := 53) hX (by decide +kernel) ?_
      refine J_istore_n (k0 := 2) (pc := 54) [(2, .int (v2 + 1)), (0, .ref (G.1 + a)), (3, .int v3)] hX (by decide +kernel) rfl (by decide) rfl ?_
      exact J_sub [1, 0, 2] _ rfl (jMo_weighs_55 hL hX (v2 + 1) v3 hk36 μ1)
set_option maxRecDepth 100000 in
set_option maxHeartbeats 4000000 in
theorem jMo_weighs_36 {X : Cx} {l : Launch} {G : Gx} {y : Ly} {a : Nat} (hL : LyMo y a ) (hX : Ok X l G prog_13_method_109_code 4 (some .int) "SaltFiguresModel")    : ∀ (fu : Nat) (v2 : Int32) (v3 : Int32) (μ : Mu), J X G 4 2 y (emy y) rvI tpT 36 [(0, .ref (G.1 + a)), (2, .int v2), (3, .int v3)] [] (μ, y) (Mo_weighs_36 a   fu v2 v3 μ) := by
  intro fu
  induction fu with
  | zero => intros; exact J_none
  | succ fu ih => intro v2 v3 μ; exact jMo_weighs_36b hL hX   ih v2 v3 μ
set_option maxRecDepth 100000 in
set_option maxHeartbeats 4000000 in
theorem jMo_weighs {X : Cx} {l : Launch} {G : Gx} {y : Ly} {a : Nat} (hL : LyMo y a ) (hX : Ok X l G prog_13_method_109_code 4 (some .int) "SaltFiguresModel") (v1 : Int32) (μ : Mu) : J X G 4 2 y (emy y) rvI tpT 0 [(0, .ref (G.1 + a)), (1, .int v1)] [] (μ, y) (Mo_weighs a v1 μ) := by
  unfold Mo_weighs
  refine J_aload_n (k0 := 0) (pc := 0) 0 hX (by decide +kernel) rfl rfl ?_
  refine J_iconst (pc := 1) (n := 0) (v := 0) hX (by decide +kernel) (by decide +kernel) ?_
  refine J_pF (pc := 2) hX (by decide +kernel) fl_Mo_131 hL.1 rfl (fun μ1 => ?_)
  refine J_iload_n (k0 := 1) (pc := 5) 1 hX (by decide +kernel) rfl rfl ?_
  refine J_iconst (pc := 6) (n := -1) (v := (-1)) hX (by decide +kernel) (by decide +kernel) ?_
  refine J_icmp_eq (pc := 7) (off := 25) (tgt := 32) hX (by decide +kernel) (by decide +kernel) (fun _ => ?_) (fun _ => ?_)
  · refine J_iconst (pc := 32) (n := 0) (v := 0) hX (by decide +kernel) (by decide +kernel) ?_
    refine J_istore_n (k0 := 2) (pc := 33) [(2, .int 0), (0, .ref (G.1 + a)), (1, .int v1)] hX (by decide +kernel) rfl (by decide) rfl ?_
    refine J_iconst (pc := 34) (n := 1) (v := 1) hX (by decide +kernel) (by decide +kernel) ?_
    refine J_istore_n (k0 := 3) (pc := 35) [(3, .int 1), (2, .int 0), (0, .ref (G.1 + a)), (1, .int v1)] hX (by decide +kernel) rfl (by decide) rfl ?_
    exact J_sub [2, 1, 0] _ rfl (jMo_weighs_36 hL hX FU 0 1 μ1)
  · refine J_aload_n (k0 := 0) (pc := 10) 0 hX (by decide +kernel) rfl rfl ?_
    refine J_iload_n (k0 := 1) (pc := 11) 1 hX (by decide +kernel) rfl rfl ?_
    refine J_iconst (pc := 12) (n := 0) (v := 0) hX (by decide +kernel) (by decide +kernel) ?_
    refine J_sipush (pc := 13) (n := 360) (v := 360) hX (by decide +kernel) (by decide +kernel) ?_
    refine J_cVi (pc := 16) (idx := 154) [.int v1, .int 0, .int 360] hX (by decide +kernel) (mq mt_6 226 (by decide +kernel)) mv_Mo_isIn hL.1 rfl rfl (Nat.le_of_ble_eq_true rfl) (Nat.le_of_ble_eq_true rfl) (c_Mo_isIn hL v1 0 360 μ1) (fun x3 μ2 => ?_)
    refine J_if_eq (pc := 19) (off := 11) (tgt := 30) hX (by decide +kernel) (by decide +kernel) (fun _ => ?_) (fun _ => ?_)
    · refine J_iconst (pc := 30) (n := -1) (v := (-1)) hX (by decide +kernel) (by decide +kernel) ?_
      exact J_iret (pc := 31) hX (by decide +kernel) rfl trivial
    · refine J_aload_n (k0 := 0) (pc := 22) 0 hX (by decide +kernel) rfl rfl ?_
      refine J_iload_n (k0 := 1) (pc := 23) 1 hX (by decide +kernel) rfl rfl ?_
      refine J_cVi (pc := 24) (idx := 453) [.int v1] hX (by decide +kernel) (mq mt_8 148 (by decide +kernel)) mv_Mo_waysOfScales hL.1 rfl rfl (Nat.le_of_ble_eq_true rfl) (Nat.le_of_ble_eq_true rfl) (c_Mo_waysOfScales hL v1 μ2) (fun x5 μ4 => ?_)
      refine J_goto (pc := 27) (off := 4) (tgt := 31) hX (by decide +kernel) (by decide +kernel) ?_
      exact J_iret (pc := 31) hX (by decide +kernel) rfl trivial
set_option maxRecDepth 100000 in
set_option maxHeartbeats 4000000 in
theorem c_Mo_weighs {l : Launch} {G : Gx} {y : Ly} {a : Nat} (hL : LyMo y a ) (v1 : Int32) (μ : Mu) : Cn l G ⟨"SaltFiguresModel", "weighs", "(I)I"⟩ prog_13_method_109_code 4 (some .int) 2 [.ref (G.1 + a), .int v1] (μ, y) (emy y) rvI tpT (Mo_weighs a v1 μ) := cn_of (by decide +kernel) (Nat.le_of_ble_eq_true rfl) (fun _ _ _ => ⟨List.prefix_refl _, trivial⟩) (fun X hX _ => jMo_weighs hL hX v1 μ)

def Mo_weight (a : Nat) (v1 : Int32) (μ : Mu) : Option (Int32 × Mu) := pF μ a 0 0 (fun μ1 => (if v1 = ((-1)) then pF μ1 a 45 0 (fun μ10 => some (0, μ10)) else cl (Mo_isIn a v1 1 60 μ1) (fun x3 μ2 => (if x3 = 0 then some ((-1), μ2) else gF μ2 a 45 (fun x4 => (if x4 = 6 then some ((-1), μ2) else gF μ2 a 45 (fun x5 => stA μ2 (a + 24) 6 x5 v1 (fun μ6 => gF μ6 a 45 (fun x7 => pF μ6 a 45 (x7 + 1) (fun μ8 => gF μ8 a 45 (fun x9 => some (x9, μ8))))))))))))
set_option maxRecDepth 100000 in
set_option maxHeartbeats 4000000 in
theorem jMo_weight {X : Cx} {l : Launch} {G : Gx} {y : Ly} {a : Nat} (hL : LyMo y a ) (hX : Ok X l G prog_13_method_107_code 2 (some .int) "SaltFiguresModel") (v1 : Int32) (μ : Mu) : J X G 2 2 y (emy y) rvI tpT 0 [(0, .ref (G.1 + a)), (1, .int v1)] [] (μ, y) (Mo_weight a v1 μ) := by
  unfold Mo_weight
  refine J_aload_n (k0 := 0) (pc := 0) 0 hX (by decide +kernel) rfl rfl ?_
  refine J_iconst (pc := 1) (n := 0) (v := 0) hX (by decide +kernel) (by decide +kernel) ?_
  refine J_pF (pc := 2) hX (by decide +kernel) fl_Mo_131 hL.1 rfl (fun μ1 => ?_)
  refine J_iload_n (k0 := 1) (pc := 5) 1 hX (by decide +kernel) rfl rfl ?_
  refine J_iconst (pc := 6) (n := -1) (v := (-1)) hX (by decide +kernel) (by decide +kernel) ?_
  refine J_icmp_ne (pc := 7) (off := 10) (tgt := 17) hX (by decide +kernel) (by decide +kernel) (fun _ => ?_) (fun _ => ?_)
  · refine J_aload_n (k0 := 0) (pc := 17) 0 hX (by decide +kernel) rfl rfl ?_
    refine J_iload_n (k0 := 1) (pc := 18) 1 hX (by decide +kernel) rfl rfl ?_
    refine J_iconst (pc := 19) (n := 1) (v := 1) hX (by decide +kernel) (by decide +kernel) ?_
    refine J_bipush (pc := 20) (n := 60) (v := 60) hX (by decide +kernel) (by decide +kernel) ?_
    refine J_cVi (pc := 22) (idx := 154) [.int v1, .int 1, .int 60] hX (by decide +kernel) (mq mt_6 226 (by decide +kernel)) mv_Mo_isIn hL.1 rfl rfl (Nat.le_of_ble_eq_true rfl) (Nat.le_of_ble_eq_true rfl) (c_Mo_isIn hL v1 1 60 μ1) (fun x3 μ2 => ?_)
    refine J_if_eq (pc := 25) (off := 12) (tgt := 37) hX (by decide +kernel) (by decide +kernel) (fun _ => ?_) (fun _ => ?_)
    · refine J_iconst (pc := 37) (n := -1) (v := (-1)) hX (by decide +kernel) (by decide +kernel) ?_
      exact J_iret (pc := 38) hX (by decide +kernel) rfl trivial
    · refine J_aload_n (k0 := 0) (pc := 28) 0 hX (by decide +kernel) rfl rfl ?_
      refine J_gF (pc := 29) hX (by decide +kernel) fl_Mo_450 hL.1 rfl (fun x4 => ?_)
      refine J_bipush (pc := 32) (n := 6) (v := 6) hX (by decide +kernel) (by decide +kernel) ?_
      refine J_icmp_ne (pc := 34) (off := 5) (tgt := 39) hX (by decide +kernel) (by decide +kernel) (fun _ => ?_) (fun _ => ?_)
      · refine J_aload_n (k0 := 0) (pc := 39) 0 hX (by decide +kernel) rfl rfl ?_
        refine J_gr (pc := 40) hX (by decide +kernel) fl_Mo_83 hL.1 rfl hL.2.2.2.2.2.2.2.2.2.2.2.2.2.2.2.2.2.2.2.2.2.2.2.2.1.1 ?_
        refine J_aload_n (k0 := 0) (pc := 43) 0 hX (by decide +kernel) rfl rfl ?_
        refine J_gF (pc := 44) hX (by decide +kernel) fl_Mo_450 hL.1 rfl (fun x5 => ?_)
        refine J_iload_n (k0 := 1) (pc := 47) 1 hX (by decide +kernel) rfl rfl ?_
        refine J_stA (pc := 48) hX (by decide +kernel) hL.2.2.2.2.2.2.2.2.2.2.2.2.2.2.2.2.2.2.2.2.2.2.2.2.1.2 (fun μ6 => ?_)
        refine J_aload_n (k0 := 0) (pc := 49) 0 hX (by decide +kernel) rfl rfl ?_
        refine J_aload_n (k0 := 0) (pc := 50) 0 hX (by decide +kernel) rfl rfl ?_
        refine J_gF (pc := 51) hX (by decide +kernel) fl_Mo_450 hL.1 rfl (fun x7 => ?_)
        refine J_iconst (pc := 54) (n := 1) (v := 1) hX (by decide +kernel) (by decide +kernel) ?_
        refine J_iadd (pc := 55) hX (by decide +kernel) ?_
        refine J_pF (pc := 56) hX (by decide +kernel) fl_Mo_450 hL.1 rfl (fun μ8 => ?_)
        refine J_aload_n (k0 := 0) (pc := 59) 0 hX (by decide +kernel) rfl rfl ?_
        refine J_gF (pc := 60) hX (by decide +kernel) fl_Mo_450 hL.1 rfl (fun x9 => ?_)
        exact J_iret (pc := 63) hX (by decide +kernel) rfl trivial
      · refine J_iconst (pc := 37) (n := -1) (v := (-1)) hX (by decide +kernel) (by decide +kernel) ?_
        exact J_iret (pc := 38) hX (by decide +kernel) rfl trivial
  · refine J_aload_n (k0 := 0) (pc := 10) 0 hX (by decide +kernel) rfl rfl ?_
    refine J_iconst (pc := 11) (n := 0) (v := 0) hX (by decide +kernel) (by decide +kernel) ?_
    refine J_pF (pc := 12) hX (by decide +kernel) fl_Mo_450 hL.1 rfl (fun μ10 => ?_)
    refine J_iconst (pc := 15) (n := 0) (v := 0) hX (by decide +kernel) (by decide +kernel) ?_
    exact J_iret (pc := 16) hX (by decide +kernel) rfl trivial
set_option maxRecDepth 100000 in
set_option maxHeartbeats 4000000 in
theorem c_Mo_weight {l : Launch} {G : Gx} {y : Ly} {a : Nat} (hL : LyMo y a ) (v1 : Int32) (μ : Mu) : Cn l G ⟨"SaltFiguresModel", "weight", "(I)I"⟩ prog_13_method_107_code 2 (some .int) 2 [.ref (G.1 + a), .int v1] (μ, y) (emy y) rvI tpT (Mo_weight a v1 μ) := cn_of (by decide +kernel) (Nat.le_of_ble_eq_true rfl) (fun _ _ _ => ⟨List.prefix_refl _, trivial⟩) (fun X hX _ => jMo_weight hL hX v1 μ)
