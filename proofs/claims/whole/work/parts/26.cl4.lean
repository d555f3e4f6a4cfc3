/-! THE CLASS: models and their rows (by program) -/
def Rd_number_40 (a : Nat)     (μ : Mu) : Option (Int32 × Mu) := cl (Rd_fail a 2 μ) (fun _ μ1 => some ((-1), μ1))
def Rd_number (a : Nat) (v1 : Int32) (v2 : Int32) (v3 : Int32) (μ : Mu) : Option (Int32 × Mu) := gF μ a 3 (fun x1 => (if x1 = 30 then gF μ a 4 (fun x2 => (if x2 < v1 then Rd_number_40 a μ else gF μ a 4 (fun x3 => (if v2 < x3 then Rd_number_40 a μ else gF μ a 4 (fun x4 => (if x4 = v3 then Rd_number_40 a μ else gF μ a 4 (fun x5 => cl (Rd_next a μ) (fun _ μ6 => some (x5, μ6))))))))) else cl (Rd_fail a 1 μ) (fun _ μ7 => some ((-1), μ7))))
set_option maxRecDepth 100000 in
set_option maxHeartbeats 4000000 in
theorem jRd_number_40 {X : Cx} {l : Launch} {G : Gx} {y : Ly} {a : Nat} (hL : LyRd y a ) (hX : Ok X l G prog_6_method_12_code 5 (some .int) "SaltFigures$Reader")      (μ : Mu) : J X G 5 11 y (emy y) rvI tpT 40 [(0, .ref (G.1 + a))] [] (μ, y) (Rd_number_40 a     μ) := by
  unfold Rd_number_40
  refine J_aload_n (k0 := 0) (pc := 40) 0 hX (by decide +kernel) rfl rfl ?_
  refine J_iconst (pc := 41) (n := 2) (v := 2) hX (by decide +kernel) (by decide +kernel) ?_
  refine J_cVv (pc := 42) (idx := 86) [.int 2] hX (by decide +kernel) (mq mt_4 8 (by decide +kernel)) mv_Rd_fail hL.1 rfl rfl (Nat.le_of_ble_eq_true rfl) (Nat.le_of_ble_eq_true rfl) (c_Rd_fail hL 2 μ) (fun μ1 => ?_)
  refine J_iconst (pc := 45) (n := -1) (v := (-1)) hX (by decide +kernel) (by decide +kernel) ?_
  exact J_iret (pc := 46) hX (by decide +kernel) rfl trivial
set_option maxRecDepth 100000 in
set_option maxHeartbeats 4000000 in
theorem jRd_number {X : Cx} {l : Launch} {G : Gx} {y : Ly} {a : Nat} (hL : LyRd y a ) (hX : Ok X l G prog_6_method_12_code 5 (some .int) "SaltFigures$Reader") (v1 : Int32) (v2 : Int32) (v3 : Int32) (μ : Mu) : J X G 5 11 y (emy y) rvI tpT 0 [(0, .ref (G.1 + a)), (1, .int v1), (2, .int v2), (3, .int v3)] [] (μ, y) (Rd_number a v1 v2 v3 μ) := by
  unfold Rd_number
  refine J_aload_n (k0 := 0) (pc := 0) 0 hX (by decide +kernel) rfl rfl ?_
  refine J_gF (pc := 1) hX (by decide +kernel) fl_Rd_53 hL.1 rfl (fun x1 => ?_)
  refine J_bipush (pc := 4) (n := 30) (v := 30) hX (by decide +kernel) (by decide +kernel) ?_
  refine J_icmp_eq (pc := 6) (off := 10) (tgt := 16) hX (by decide +kernel) (by decide +kernel) (fun _ => ?_) (fun _ => ?_)
  · refine J_aload_n (k0 := 0) (pc := 16) 0 hX (by decide +kernel) rfl rfl ?_
    refine J_gF (pc := 17) hX (by decide +kernel) fl_Rd_60 hL.1 rfl (fun x2 => ?_)
    refine J_iload_n (k0 := 1) (pc := 20) 1 hX (by decide +kernel) rfl rfl ?_
    refine J_icmp_lt (pc := 21) (off := 19) (tgt := 40) hX (by decide +kernel) (by decide +kernel) (fun _ => ?_) (fun _ => ?_)
    · exact J_sub [0] _ rfl (jRd_number_40 hL hX μ)
    · refine J_aload_n (k0 := 0) (pc := 24) 0 hX (by decide +kernel) rfl rfl ?_
      refine J_gF (pc := 25) hX (by decide +kernel) fl_Rd_60 hL.1 rfl (fun x3 => ?_)
      refine J_iload_n (k0 := 2) (pc := 28) 2 hX (by decide +kernel) rfl rfl ?_
      refine J_icmp_gt (pc := 29) (off := 11) (tgt := 40) hX (by decide +kernel) (by decide +kernel) (fun _ => ?_) (fun _ => ?_)
      · exact J_sub [0] _ rfl (jRd_number_40 hL hX μ)
      · refine J_aload_n (k0 := 0) (pc := 32) 0 hX (by decide +kernel) rfl rfl ?_
        refine J_gF (pc := 33) hX (by decide +kernel) fl_Rd_60 hL.1 rfl (fun x4 => ?_)
        refine J_iload_n (k0 := 3) (pc := 36) 3 hX (by decide +kernel) rfl rfl ?_
        refine J_icmp_ne (pc := 37) (off := 10) (tgt := 47) hX (by decide +kernel) (by decide +kernel) (fun _ => ?_) (fun _ => ?_)
        · refine J_aload_n (k0 := 0) (pc := 47) 0 hX (by decide +kernel) rfl rfl ?_
          refine J_gF (pc := 48) hX (by decide +kernel) fl_Rd_60 hL.1 rfl (fun x5 => ?_)
          refine J_istore (pc := 51) [(4, .int x5), (0, .ref (G.1 + a)), (1, .int v1), (2, .int v2), (3, .int v3)] hX (by decide +kernel) (by decide) rfl ?_
          refine J_aload_n (k0 := 0) (pc := 53) 1 hX (by decide +kernel) rfl rfl ?_
          refine J_cVv (pc := 54) (idx := 47) [] hX (by decide +kernel) (mq mt_3 117 (by decide +kernel)) mv_Rd_next hL.1 rfl rfl (Nat.le_of_ble_eq_true rfl) (Nat.le_of_ble_eq_true rfl) (c_Rd_next hL μ) (fun μ6 => ?_)
          refine J_iload (pc := 57) 0 hX (by decide +kernel) rfl ?_
          exact J_iret (pc := 59) hX (by decide +kernel) rfl trivial
        · exact J_sub [0] _ rfl (jRd_number_40 hL hX μ)
  · refine J_aload_n (k0 := 0) (pc := 9) 0 hX (by decide +kernel) rfl rfl ?_
    refine J_iconst (pc := 10) (n := 1) (v := 1) hX (by decide +kernel) (by decide +kernel) ?_
    refine J_cVv (pc := 11) (idx := 86) [.int 1] hX (by decide +kernel) (mq mt_4 8 (by decide +kernel)) mv_Rd_fail hL.1 rfl rfl (Nat.le_of_ble_eq_true rfl) (Nat.le_of_ble_eq_true rfl) (c_Rd_fail hL 1 μ) (fun μ7 => ?_)
    refine J_iconst (pc := 14) (n := -1) (v := (-1)) hX (by decide +kernel) (by decide +kernel) ?_
    exact J_iret (pc := 15) hX (by decide +kernel) rfl trivial
set_option maxRecDepth 100000 in
set_option maxHeartbeats 4000000 in
theorem c_Rd_number {l : Launch} {G : Gx} {y : Ly} {a : Nat} (hL : LyRd y a ) (v1 : Int32) (v2 : Int32) (v3 : Int32) (μ : Mu) : Cn l G ⟨"SaltFigures$Reader", "number", "(III)I"⟩ prog_6_method_12_code 5 (some .int) 11 [.ref (G.1 + a), .int v1, .int v2, .int v3] (μ, y) (emy y) rvI tpT (Rd_number a v1 v2 v3 μ) := cn_of (by decide +kernel) (Nat.le_of_ble_eq_true rfl) (fun _ _ _ => ⟨List.prefix_refl _, trivial⟩) (fun X hX _ => jRd_number hL hX v1 v2 v3 μ)

def Rd_sum_118 (a : Nat)   (v1 : Int32)  (μ : Mu) : Option (Unit × Mu) := (if v1 = ((-1)) then some ((), μ) else cl (Lw_emit (a + 2) v1 0 μ) (fun _ μ1 => some ((), μ1)))
def Rd_sum_112 (a : Nat) (kb8 : Int32 → Int32 → Mu → Option (Unit × Mu))  (v1 : Int32) (v2 : Int32)  (μ : Mu) : Option (Unit × Mu) := kb8 v1 (v2 + 1) μ
def Rd_sum_106 (a : Nat) (kb8 : Int32 → Int32 → Mu → Option (Unit × Mu))  (v2 : Int32) (v3 : Int32)  (μ : Mu) : Option (Unit × Mu) := cl (Rd_operand a μ) (fun _ μ1 => Rd_sum_112 a kb8 v3 v2 μ1)
def Rd_sum_88 (a : Nat) (kb8 : Int32 → Int32 → Mu → Option (Unit × Mu))  (v1 : Int32) (v2 : Int32) (v3 : Int32)  (μ : Mu) : Option (Unit × Mu) := cl (Rd_next a μ) (fun _ μ1 => (if v1 = ((-1)) then Rd_sum_106 a kb8 v2 v3 μ1 else cl (Lw_emit (a + 2) v1 0 μ1) (fun _ μ2 => Rd_sum_106 a kb8 v2 v3 μ2)))
def Rd_sum_8b (a : Nat)  (kb8 : Int32 → Int32 → Mu → Option (Unit × Mu))  (v1 : Int32) (v2 : Int32)  (μ : Mu) : Option (Unit × Mu) := (if 400 ≤ v2 then Rd_sum_118 a v1 μ else gF μ a 3 (fun x1 => (if x1 = 42 then cl (Rd_next a μ) (fun _ μ6 => cl (Rd_operand a μ6) (fun _ μ7 => cl (Lw_emit (a + 2) x1 0 μ7) (fun _ μ8 => Rd_sum_112 a kb8 v1 v2 μ8))) else (if x1 = 47 then cl (Rd_next a μ) (fun _ μ2 => cl (Rd_number a 1 9999 ((-1)) μ2) (fun x4 μ3 => cl (Lw_emit (a + 2) x1 x4 μ3) (fun _ μ5 => Rd_sum_112 a kb8 v1 v2 μ5))) else (if x1 = 43 then Rd_sum_88 a kb8 v1 v2 x1 μ else (if x1 = 45 then Rd_sum_88 a kb8 v1 v2 x1 μ else Rd_sum_118 a v1 μ))))))
def Rd_sum_8 (a : Nat)   (fu : Nat) : Int32 → Int32 → Mu → Option (Unit × Mu) := lp (fun kb => Rd_sum_8b a  kb ) (fun _ _ _ => none) fu
def Rd_sum (a : Nat)  (μ : Mu) : Option (Unit × Mu) := cl (Rd_operand a μ) (fun _ μ1 => Rd_sum_8 a FU ((-1)) 0 μ1)
set_option maxRecDepth 100000 in
set_option maxHeartbeats 4000000 in
theorem jRd_sum_118 {X : Cx} {l : Launch} {G : Gx} {y : Ly} {a : Nat} (hL : LyRd y a ) (hX : Ok X l G prog_6_method_22_code 4 none "SaltFigures$Reader")  (v1 : Int32)    (μ : Mu) : J X G 4 12 y (emy y) rvV tpT 118 [(0, .ref (G.1 + a)), (1, .int v1)] [] (μ, y) (Rd_sum_118 a   v1  μ) := by
  unfold Rd_sum_118
  refine J_iload_n (k0 := 1) (pc := 118) 1 hX (by decide +kernel) rfl rfl ?_
  refine J_iconst (pc := 119) (n := -1) (v := (-1)) hX (by decide +kernel) (by decide +kernel) ?_
  refine J_icmp_eq (pc := 120) (off := 12) (tgt := 132) hX (by decide +kernel) (by decide +kernel) (fun _ => ?_) (fun _ => ?_)
  · exact J_vret (pc := 132) hX (by decide +kernel) rfl trivial
  · refine J_aload_n (k0 := 0) (pc := 123) 0 hX (by decide +kernel) rfl rfl ?_
    refine J_gr (pc := 124) hX (by decide +kernel) fl_Rd_22 hL.1 rfl hL.2.2.1.1 ?_
    refine J_iload_n (k0 := 1) (pc := 127) 1 hX (by decide +kernel) rfl rfl ?_
    refine J_iconst (pc := 128) (n := 0) (v := 0) hX (by decide +kernel) (by decide +kernel) ?_
    refine J_cVv (pc := 129) (idx := 128) [.int v1, .int 0] hX (by decide +kernel) (mq mt_4 24 (by decide +kernel)) mv_Lw_emit hL.2.2.1.2.1 rfl rfl (Nat.le_of_ble_eq_true rfl) (Nat.le_of_ble_eq_true rfl) (c_Lw_emit hL.2.2.1.2 v1 0 μ) (fun μ1 => ?_)
    exact J_vret (pc := 132) hX (by decide +kernel) rfl trivial
set_option maxRecDepth 100000 in
set_option maxHeartbeats 4000000 in
theorem jRd_sum_112 {X : Cx} {l : Launch} {G : Gx} {y : Ly} {a : Nat} (hL : LyRd y a ) (hX : Ok X l G prog_6_method_22_code 4 none "SaltFigures$Reader")  (v1 : Int32) (v2 : Int32)  {kb8 : Int32 → Int32 → Mu → Option (Unit × Mu)} (hk8 : ∀ (v1 : Int32) (v2 : Int32) (μ : Mu), J X G 4 12 y (emy y) rvV tpT 8 [(0, .ref (G.1 + a)), (1, .int v1), (2, .int v2)] [] (μ, y) (kb8 v1 v2 μ)) (μ : Mu) : J X G 4 12 y (emy y) rvV tpT 112 [(0, .ref (G.1 + a)), (1, .int v1), (2, .int v2)] [] (μ, y) (Rd_sum_112 a kb8  v1 v2  μ) := by
  unfold Rd_sum_112
  refine J_iinc (pc := 112) (n := 1) 2 [(2, .int (v2 + 1)), (0, .ref (G.1 + a)), (1, .int v1)] hX (by decide +kernel) rfl rfl (by decide) rfl ?_
  refine J_goto (pc := 115) (off := -107) (tgt := 8) hX (by decide +kernel) (by decide +kernel) ?_
  exact J_sub [1, 2, 0] _ rfl (hk8 v1 (v2 + 1) μ)
set_option maxRecDepth 100000 in
set_option maxHeartbeats 4000000 in
theorem jRd_sum_106 {X : Cx} {l : Launch} {G : Gx} {y : Ly} {a : Nat} (hL : LyRd y a ) (hX : Ok X l G prog_6_method_22_code 4 none "SaltFigures$Reader")  (v2 : Int32) (v3 : Int32)  {kb8 : Int32 → Int32 → Mu → Option (Unit × Mu)} (hk8 : ∀ (v1 : Int32) (v2 : Int32) (μ : Mu), J X G 4 12 y (emy y) rvV tpT 8 [(0, .ref (G.1 + a)), (1, .int v1), (2, .int v2)] [] (μ, y) (kb8 v1 v2 μ)) (μ : Mu) : J X G 4 12 y (emy y) rvV tpT 106 [(0, .ref (G.1 + a)), (2, .int v2), (3, .int v3)] [] (μ, y) (Rd_sum_106 a kb8  v2 v3  μ) := by
  unfold Rd_sum_106
  refine J_iload_n (k0 := 3) (pc := 106) 2 hX (by decide +kernel) rfl rfl ?_
  refine J_istore_n (k0 := 1) (pc := 107) [(1, .int v3), (0, .ref (G.1 + a)), (2, .int v2), (3, .int v3)] hX (by decide +kernel) rfl (by decide) rfl ?_
  refine J_aload_n (k0 := 0) (pc := 108) 1 hX (by decide +kernel) rfl rfl ?_
  refine J_cVv (pc := 109) (idx := 132) [] hX (by decide +kernel) (mq mt_4 20 (by decide +kernel)) mv_Rd_operand hL.1 rfl rfl (Nat.le_of_ble_eq_true rfl) (Nat.le_of_ble_eq_true rfl) (c_Rd_operand hL μ) (fun μ1 => ?_)
  exact J_sub [1, 0, 2] _ rfl (jRd_sum_112 hL hX v3 v2 hk8 μ1)
set_option maxRecDepth 100000 in
set_option maxHeartbeats 4000000 in
theorem jRd_sum_88 {X : Cx} {l : Launch} {G : Gx} {y : Ly} {a : Nat} (hL : LyRd y a ) (hX : Ok X l G prog_6_method_22_code 4 none "SaltFigures$Reader")  (v1 : Int32) (v2 : Int32) (v3 : Int32)  {kb8 : Int32 → Int32 → Mu → Option (Unit × Mu)} (hk8 : ∀ (v1 : Int32) (v2 : Int32) (μ : Mu), J X G 4 12 y (emy y) rvV tpT 8 [(0, .ref (G.1 + a)), (1, .int v1), (2, .int v2)] [] (μ, y) (kb8 v1 v2 μ)) (μ : Mu) : J X G 4 12 y (emy y) rvV tpT 88 [(0, .ref (G.1 + a)), (1, .int v1), (2, .int v2), (3, .int v3)] [] (μ, y) (Rd_sum_88 a kb8  v1 v2 v3  μ) := by
  unfold Rd_sum_88
  refine J_aload_n (k0 := 0) (pc := 88) 0 hX (by decide +kernel) rfl rfl ?_
  refine J_cVv (pc := 89) (idx := 47) [] hX (by decide +kernel) (mq mt_3 117 (by decide +kernel)) mv_Rd_next hL.1 rfl rfl (Nat.le_of_ble_eq_true rfl) (Nat.le_of_ble_eq_true rfl) (c_Rd_next hL μ) (fun μ1 => ?_)
  refine J_iload_n (k0 := 1) (pc := 92) 1 hX (by decide +kernel) rfl rfl ?_
  refine J_iconst (pc := 93) (n := -1) (v := (-1)) hX (by decide +kernel) (by decide +kernel) ?_
  refine J_icmp_eq (pc := 94) (off := 12) (tgt := 106) hX (by decide +kernel) (by decide +kernel) (fun _ => ?_) (fun _ => ?_)
  · exact J_sub [0, 2, 3] _ rfl (jRd_sum_106 hL hX v2 v3 hk8 μ1)
  · refine J_aload_n (k0 := 0) (pc := 97) 0 hX (by decide +kernel) rfl rfl ?_
    refine J_gr (pc := 98) hX (by decide +kernel) fl_Rd_22 hL.1 rfl hL.2.2.1.1 ?_
    refine J_iload_n (k0 := 1) (pc := 101) 1 hX (by decide +kernel) rfl rfl ?_
    refine J_iconst (pc := 102) (n := 0) (v := 0) hX (by decide +kernel) (by decide +kernel) ?_
    refine J_cVv (pc := 103) (idx := 128) [.int v1, .int 0] hX (by decide +kernel) (mq mt_4 24 (by decide +kernel)) mv_Lw_emit hL.2.2.1.2.1 rfl rfl (Nat.le_of_ble_eq_true rfl) (Nat.le_of_ble_eq_true rfl) (c_Lw_emit hL.2.2.1.2 v1 0 μ1) (fun μ2 => ?_)
    exact J_sub [0, 2, 3] _ rfl (jRd_sum_106 hL hX v2 v3 hk8 μ2)
set_option maxRecDepth 100000 in
set_option maxHeartbeats 4000000 in
theorem jRd_sum_8b {X : Cx} {l : Launch} {G : Gx} {y : Ly} {a : Nat} (hL : LyRd y a ) (hX : Ok X l G prog_6_method_22_code 4 none "SaltFigures$Reader")   {kb8 : Int32 → Int32 → Mu → Option (Unit × Mu)}  (hk8 : ∀ (v1 : Int32) (v2 : Int32) (μ : Mu), J X G 4 12 y (emy y) rvV tpT 8 [(0, .ref (G.1 + a)), (1, .int v1), (2, .int v2)] [] (μ, y) (kb8 v1 v2 μ)) (v1 : Int32) (v2 : Int32)  (μ : Mu) : J X G 4 12 y (emy y) rvV tpT 8 [(0, .ref (G.1 + a)), (1, .int v1), (2, .int v2)] [] (μ, y) (Rd_sum_8b a  kb8  v1 v2  μ) := by
  unfold Rd_sum_8b
  refine J_iload_n (k0 := 2) (pc := 8) 2 hX (by decide +kernel) rfl rfl ?_
  refine J_sipush (pc := 9) (n := 400) (v := 400) hX (by decide +kernel) (by decide +kernel) ?_
  refine J_icmp_ge (pc := 12) (off := 106) (tgt := 118) hX (by decide +kernel) (by decide +kernel) (fun _ => ?_) (fun _ => ?_)
  · exact J_sub [0, 1] _ rfl (jRd_sum_118 hL hX v1 μ)
  · refine J_aload_n (k0 := 0) (pc := 15) 0 hX (by decide +kernel) rfl rfl ?_
    refine J_gF (pc := 16) hX (by decide +kernel) fl_Rd_53 hL.1 rfl (fun x1 => ?_)
    refine J_istore_n (k0 := 3) (pc := 19) [(3, .int x1), (0, .ref (G.1 + a)), (1, .int v1), (2, .int v2)] hX (by decide +kernel) rfl (by decide) rfl ?_
    refine J_iload_n (k0 := 3) (pc := 20) 0 hX (by decide +kernel) rfl rfl ?_
    refine J_bipush (pc := 21) (n := 42) (v := 42) hX (by decide +kernel) (by decide +kernel) ?_
    refine J_icmp_ne (pc := 23) (off := 23) (tgt := 46) hX (by decide +kernel) (by decide +kernel) (fun _ => ?_) (fun _ => ?_)
    · refine J_iload_n (k0 := 3) (pc := 46) 0 hX (by decide +kernel) rfl rfl ?_
      refine J_bipush (pc := 47) (n := 47) (v := 47) hX (by decide +kernel) (by decide +kernel) ?_
      refine J_icmp_ne (pc := 49) (off := 27) (tgt := 76) hX (by decide +kernel) (by decide +kernel) (fun _ => ?_) (fun _ => ?_)
      · refine J_iload_n (k0 := 3) (pc := 76) 0 hX (by decide +kernel) rfl rfl ?_
        refine J_bipush (pc := 77) (n := 43) (v := 43) hX (by decide +kernel) (by decide +kernel) ?_
        refine J_icmp_eq (pc := 79) (off := 9) (tgt := 88) hX (by decide +kernel) (by decide +kernel) (fun _ => ?_) (fun _ => ?_)
        · exact J_sub [1, 2, 3, 0] _ rfl (jRd_sum_88 hL hX v1 v2 x1 hk8 μ)
        · refine J_iload_n (k0 := 3) (pc := 82) 0 hX (by decide +kernel) rfl rfl ?_
          refine J_bipush (pc := 83) (n := 45) (v := 45) hX (by decide +kernel) (by decide +kernel) ?_
          refine J_icmp_ne (pc := 85) (off := 33) (tgt := 118) hX (by decide +kernel) (by decide +kernel) (fun _ => ?_) (fun _ => ?_)
          · exact J_sub [1, 2] _ rfl (jRd_sum_118 hL hX v1 μ)
          · exact J_sub [1, 2, 3, 0] _ rfl (jRd_sum_88 hL hX v1 v2 x1 hk8 μ)
      · refine J_aload_n (k0 := 0) (pc := 52) 1 hX (by decide +kernel) rfl rfl ?_
        refine J_cVv (pc := 53) (idx := 47) [] hX (by decide +kernel) (mq mt_3 117 (by decide +kernel)) mv_Rd_next hL.1 rfl rfl (Nat.le_of_ble_eq_true rfl) (Nat.le_of_ble_eq_true rfl) (c_Rd_next hL μ) (fun μ2 => ?_)
        refine J_aload_n (k0 := 0) (pc := 56) 1 hX (by decide +kernel) rfl rfl ?_
        refine J_gr (pc := 57) hX (by decide +kernel) fl_Rd_22 hL.1 rfl hL.2.2.1.1 ?_
        refine J_iload_n (k0 := 3) (pc := 60) 0 hX (by decide +kernel) rfl rfl ?_
        refine J_aload_n (k0 := 0) (pc := 61) 1 hX (by decide +kernel) rfl rfl ?_
        refine J_iconst (pc := 62) (n := 1) (v := 1) hX (by decide +kernel) (by decide +kernel) ?_
        refine J_sipush (pc := 63) (n := 9999) (v := 9999) hX (by decide +kernel) (by decide +kernel) ?_
        refine J_iconst (pc := 66) (n := -1) (v := (-1)) hX (by decide +kernel) (by decide +kernel) ?_
        refine J_cVi (pc := 67) (idx := 90) [.int 1, .int 9999, .int ((-1))] hX (by decide +kernel) (mq mt_4 28 (by decide +kernel)) mv_Rd_number hL.1 rfl rfl (Nat.le_of_ble_eq_true rfl) (Nat.le_of_ble_eq_true rfl) (c_Rd_number hL 1 9999 ((-1)) μ2) (fun x4 μ3 => ?_)
        refine J_cVv (pc := 70) (idx := 128) [.int x1, .int x4] hX (by decide +kernel) (mq mt_4 24 (by decide +kernel)) mv_Lw_emit hL.2.2.1.2.1 rfl rfl (Nat.le_of_ble_eq_true rfl) (Nat.le_of_ble_eq_true rfl) (c_Lw_emit hL.2.2.1.2 x1 x4 μ3) (fun μ5 => ?_)
        refine J_goto (pc := 73) (off := 39) (tgt := 112) hX (by decide +kernel) (by decide +kernel) ?_
        exact J_sub [1, 2, 3] _ rfl (jRd_sum_112 hL hX v1 v2 hk8 μ5)
    · refine J_aload_n (k0 := 0) (pc := 26) 1 hX (by decide +kernel) rfl rfl ?_
      refine J_cVv (pc := 27) (idx := 47) [] hX (by decide +kernel) (mq mt_3 117 (by decide +kernel)) mv_Rd_next hL.1 rfl rfl (Nat.le_of_ble_eq_true rfl) (Nat.le_of_ble_eq_true rfl) (c_Rd_next hL μ) (fun μ6 => ?_)
      refine J_aload_n (k0 := 0) (pc := 30) 1 hX (by decide +kernel) rfl rfl ?_
      refine J_cVv (pc := 31) (idx := 132) [] hX (by decide +kernel) (mq mt_4 20 (by decide +kernel)) mv_Rd_operand hL.1 rfl rfl (Nat.le_of_ble_eq_true rfl) (Nat.le_of_ble_eq_true rfl) (c_Rd_operand hL μ6) (fun μ7 => ?_)
      refine J_aload_n (k0 := 0) (pc := 34) 1 hX (by decide +kernel) rfl rfl ?_
      refine J_gr (pc := 35) hX (by decide +kernel) fl_Rd_22 hL.1 rfl hL.2.2.1.1 ?_
      refine J_iload_n (k0 := 3) (pc := 38) 0 hX (by decide +kernel) rfl rfl ?_
      refine J_iconst (pc := 39) (n := 0) (v := 0) hX (by decide +kernel) (by decide +kernel) ?_
      refine J_cVv (pc := 40) (idx := 128) [.int x1, .int 0] hX (by decide +kernel) (mq mt_4 24 (by decide +kernel)) mv_Lw_emit hL.2.2.1.2.1 rfl rfl (Nat.le_of_ble_eq_true rfl) (Nat.le_of_ble_eq_true rfl) (c_Lw_emit hL.2.2.1.2 x1 0 μ7) (fun μ8 => ?_)
      refine J_goto (pc := 43) (off := 69) (tgt := 112) hX (by decide +kernel) (by decide +kernel) ?_
      exact J_sub [1, 2, 3] _ rfl (jRd_sum_112 hL hX v1 v2 hk8 μ8)
set_option maxRecDepth 100000 in
set_option maxHeartbeats 4000000 in
theorem jRd_sum_8 {X : Cx} {l : Launch} {G : Gx} {y : Ly} {a : Nat} (hL : LyRd y a ) (hX : Ok X l G prog_6_method_22_code 4 none "SaltFigures$Reader")    : ∀ (fu : Nat) (v1 : Int32) (v2 : Int32) (μ : Mu), J X G 4 12 y (emy y) rvV tpT 8 [(0, .ref (G.1 + a)), (1, .int v1), (2, .int v2)] [] (μ, y) (Rd_sum_8 a   fu v1 v2 μ) := by
  intro fu
  induction fu with
  | zero => intros; exact J_none
  | succ fu ih => intro v1 v2 μ; exact jRd_sum_8b hL hX   ih v1 v2 μ
set_option maxRecDepth 100000 in
set_option maxHeartbeats 4000000 in
theorem jRd_sum {X : Cx} {l : Launch} {G : Gx} {y : Ly} {a : Nat} (hL : LyRd y a ) (hX : Ok X l G prog_6_method_22_code 4 none "SaltFigures$Reader")  (μ : Mu) : J X G 4 12 y (emy y) rvV tpT 0 [(0, .ref (G.1 + a))] [] (μ, y) (Rd_sum a  μ) := by
  unfold Rd_sum
  refine J_iconst (pc := 0) (n := -1) (v := (-1)) hX (by decide +kernel) (by decide +kernel) ?_
  refine J_istore_n (k0 := 1) (pc := 1) [(1, .int ((-1))), (0, .ref (G.1 + a))] hX (by decide +kernel) rfl (by decide) rfl ?_
  refine J_aload_n (k0 := 0) (pc := 2) 1 hX (by decide +kernel) rfl rfl ?_
  refine J_cVv (pc := 3) (idx := 132) [] hX (by decide +kernel) (mq mt_4 20 (by decide +kernel)) mv_Rd_operand hL.1 rfl rfl (Nat.le_of_ble_eq_true rfl) (Nat.le_of_ble_eq_true rfl) (c_Rd_operand hL μ) (fun μ1 => ?_)
  refine J_iconst (pc := 6) (n := 0) (v := 0) hX (by decide +kernel) (by decide +kernel) ?_
  refine J_istore_n (k0 := 2) (pc := 7) [(2, .int 0), (1, .int ((-1))), (0, .ref (G.1 + a))] hX (by decide +kernel) rfl (by decide) rfl ?_
  exact J_sub [2, 1, 0] _ rfl (jRd_sum_8 hL hX FU ((-1)) 0 μ1)
set_option maxRecDepth 100000 in
set_option maxHeartbeats 4000000 in
theorem c_Rd_sum {l : Launch} {G : Gx} {y : Ly} {a : Nat} (hL : LyRd y a )  (μ : Mu) : Cn l G ⟨"SaltFigures$Reader", "sum", "()V"⟩ prog_6_method_22_code 4 none 12 [.ref (G.1 + a)] (μ, y) (emy y) rvV tpT (Rd_sum a  μ) := cn_of (by decide +kernel) (Nat.le_of_ble_eq_true rfl) (fun _ _ _ => ⟨List.prefix_refl _, trivial⟩) (fun X hX _ => jRd_sum hL hX  μ)

def Lw_sumEnds (a : Nat)  (μ : Mu) : Option (Unit × Mu) := gF μ a 0 (fun x1 => (if 16 ≤ x1 then some ((), μ) else gF μ a 0 (fun x2 => gF μ a 1 (fun x3 => stA μ (a + 3) 16 x2 x3 (fun μ4 => some ((), μ4))))))
set_option maxRecDepth 100000 in
set_option maxHeartbeats 4000000 in
theorem jLw_sumEnds {X : Cx} {l : Launch} {G : Gx} {y : Ly} {a : Nat} (hL : LyLw y a ) (hX : Ok X l G prog_4_method_5_code 1 none "SaltFigures$Law")  (μ : Mu) : J X G 1 1 y (emy y) rvV tpT 0 [(0, .ref (G.1 + a))] [] (μ, y) (Lw_sumEnds a  μ) := by
  unfold Lw_sumEnds
  refine J_aload_n (k0 := 0) (pc := 0) 0 hX (by decide +kernel) rfl rfl ?_
  refine J_gF (pc := 1) hX (by decide +kernel) fl_Lw_30 hL.1 rfl (fun x1 => ?_)
  refine J_bipush (pc := 4) (n := 16) (v := 16) hX (by decide +kernel) (by decide +kernel) ?_
  refine J_icmp_ge (pc := 6) (off := 16) (tgt := 22) hX (by decide +kernel) (by decide +kernel) (fun _ => ?_) (fun _ => ?_)
  · exact J_vret (pc := 22) hX (by decide +kernel) rfl trivial
  · refine J_aload_n (k0 := 0) (pc := 9) 0 hX (by decide +kernel) rfl rfl ?_
    refine J_gr (pc := 10) hX (by decide +kernel) fl_Lw_18 hL.1 rfl hL.2.2.2.1.1 ?_
    refine J_aload_n (k0 := 0) (pc := 13) 0 hX (by decide +kernel) rfl rfl ?_
    refine J_gF (pc := 14) hX (by decide +kernel) fl_Lw_30 hL.1 rfl (fun x2 => ?_)
    refine J_aload_n (k0 := 0) (pc := 17) 0 hX (by decide +kernel) rfl rfl ?_
    refine J_gF (pc := 18) hX (by decide +kernel) fl_Lw_34 hL.1 rfl (fun x3 => ?_)
    refine J_stA (pc := 21) hX (by decide +kernel) hL.2.2.2.1.2 (fun μ4 => ?_)
    exact J_vret (pc := 22) hX (by decide +kernel) rfl trivial
set_option maxRecDepth 100000 in
set_option maxHeartbeats 4000000 in
theorem c_Lw_sumEnds {l : Launch} {G : Gx} {y : Ly} {a : Nat} (hL : LyLw y a )  (μ : Mu) : Cn l G ⟨"SaltFigures$Law", "sumEnds", "()V"⟩ prog_4_method_5_code 1 none 1 [.ref (G.1 + a)] (μ, y) (emy y) rvV tpT (Lw_sumEnds a  μ) := cn_of (by decide +kernel) (Nat.le_of_ble_eq_true rfl) (fun _ _ _ => ⟨List.prefix_refl _, trivial⟩) (fun X hX _ => jLw_sumEnds hL hX  μ)

def Rd_take (a : Nat) (v1 : Int32) (μ : Mu) : Option (Unit × Mu) := gF μ a 3 (fun x1 => (if x1 = v1 then cl (Rd_next a μ) (fun _ μ3 => some ((), μ3)) else cl (Rd_fail a 1 μ) (fun _ μ2 => some ((), μ2))))
set_option maxRecDepth 100000 in
set_option maxHeartbeats 4000000 in
theorem jRd_take {X : Cx} {l : Launch} {G : Gx} {y : Ly} {a : Nat} (hL : LyRd y a ) (hX : Ok X l G prog_6_method_11_code 2 none "SaltFigures$Reader") (v1 : Int32) (μ : Mu) : J X G 2 11 y (emy y) rvV tpT 0 [(0, .ref (G.1 + a)), (1, .int v1)] [] (μ, y) (Rd_take a v1 μ) := by
  unfold Rd_take
  refine J_aload_n (k0 := 0) (pc := 0) 0 hX (by decide +kernel) rfl rfl ?_
  refine J_gF (pc := 1) hX (by decide +kernel) fl_Rd_53 hL.1 rfl (fun x1 => ?_)
  refine J_iload_n (k0 := 1) (pc := 4) 1 hX (by decide +kernel) rfl rfl ?_
  refine J_icmp_ne (pc := 5) (off := 10) (tgt := 15) hX (by decide +kernel) (by decide +kernel) (fun _ => ?_) (fun _ => ?_)
  · refine J_aload_n (k0 := 0) (pc := 15) 0 hX (by decide +kernel) rfl rfl ?_
    refine J_iconst (pc := 16) (n := 1) (v := 1) hX (by decide +kernel) (by decide +kernel) ?_
    refine J_cVv (pc := 17) (idx := 86) [.int 1] hX (by decide +kernel) (mq mt_4 8 (by decide +kernel)) mv_Rd_fail hL.1 rfl rfl (Nat.le_of_ble_eq_true rfl) (Nat.le_of_ble_eq_true rfl) (c_Rd_fail hL 1 μ) (fun μ2 => ?_)
    exact J_vret (pc := 20) hX (by decide +kernel) rfl trivial
  · refine J_aload_n (k0 := 0) (pc := 8) 0 hX (by decide +kernel) rfl rfl ?_
    refine J_cVv (pc := 9) (idx := 47) [] hX (by decide +kernel) (mq mt_3 117 (by decide +kernel)) mv_Rd_next hL.1 rfl rfl (Nat.le_of_ble_eq_true rfl) (Nat.le_of_ble_eq_true rfl) (c_Rd_next hL μ) (fun μ3 => ?_)
    refine J_goto (pc := 12) (off := 8) (tgt := 20) hX (by decide +kernel) (by decide +kernel) ?_
    exact J_vret (pc := 20) hX (by decide +kernel) rfl trivial
set_option maxRecDepth 100000 in
set_option maxHeartbeats 4000000 in
theorem c_Rd_take {l : Launch} {G : Gx} {y : Ly} {a : Nat} (hL : LyRd y a ) (v1 : Int32) (μ : Mu) : Cn l G ⟨"SaltFigures$Reader", "take", "(I)V"⟩ prog_6_method_11_code 2 none 11 [.ref (G.1 + a), .int v1] (μ, y) (emy y) rvV tpT (Rd_take a v1 μ) := cn_of (by decide +kernel) (Nat.le_of_ble_eq_true rfl) (fun _ _ _ => ⟨List.prefix_refl _, trivial⟩) (fun X hX _ => jRd_take hL hX v1 μ)

def Rd_comparisonB_72 (a : Nat) (kr_comparison kr_condition : Int32 → Mu → Option (Unit × Mu))   (v1 : Int32) (v2 : Int32)  (μ : Mu) : Option (Unit × Mu) := (if v1 < 8 then (if v2 = 7 then cl (Rd_next a μ) (fun _ μ4 => cl (kr_comparison (v1 + 1) μ4) (fun _ μ5 => cl (Lw_emit (a + 2) 7 0 μ5) (fun _ μ6 => some ((), μ6)))) else cl (Rd_next a μ) (fun _ μ1 => cl (kr_condition (v1 + 1) μ1) (fun _ μ2 => cl (Rd_take a 41 μ2) (fun _ μ3 => some ((), μ3))))) else cl (Rd_fail a 3 μ) (fun _ μ7 => some ((), μ7)))
def Rd_comparisonB_44 (a : Nat) (kr_comparison kr_condition : Int32 → Mu → Option (Unit × Mu))   (v2 : Int32)  (μ : Mu) : Option (Unit × Mu) := cl (Rd_next a μ) (fun _ μ1 => cl (Rd_sum a μ1) (fun _ μ2 => cl (Lw_emit (a + 2) v2 0 μ2) (fun _ μ3 => some ((), μ3))))
def Rd_comparisonB (a : Nat) (kr_comparison kr_condition : Int32 → Mu → Option (Unit × Mu)) (v1 : Int32) (μ : Mu) : Option (Unit × Mu) := gF μ a 3 (fun x1 => (if x1 = 7 then Rd_comparisonB_72 a kr_comparison kr_condition v1 x1 μ else (if x1 = 40 then Rd_comparisonB_72 a kr_comparison kr_condition v1 x1 μ else cl (Rd_sum a μ) (fun _ μ2 => gF μ2 a 3 (fun x3 => (if x3 = 60 then Rd_comparisonB_44 a kr_comparison kr_condition x3 μ2 else (if x3 = 61 then Rd_comparisonB_44 a kr_comparison kr_condition x3 μ2 else (if x3 = 62 then Rd_comparisonB_44 a kr_comparison kr_condition x3 μ2 else cl (Rd_fail a 1 μ2) (fun _ μ4 => some ((), μ4))))))))))
set_option maxRecDepth 100000 in
set_option maxHeartbeats 4000000 in
theorem jRd_comparisonB_72 {X : Cx} {l : Launch} {G : Gx} {y : Ly} {a : Nat} {kr_comparison kr_condition : Int32 → Mu → Option (Unit × Mu)} {dd de : Nat} (hL : LyRd y a ) (hdd : 40 ≤ dd) (hde : de + 1 ≤ dd) (hkr_comparison : ∀ (v : Int32) (μ : Mu), Cn l G ⟨"SaltFigures$Reader", "comparison", "(I)V"⟩ prog_6_method_21_code 3 none de [.ref (G.1 + a), .int v] (μ, y) (emy y) rvV tpT (kr_comparison v μ)) (hkr_condition : ∀ (v : Int32) (μ : Mu), Cn l G ⟨"SaltFigures$Reader", "condition", "(I)V"⟩ prog_6_method_20_code 5 none de [.ref (G.1 + a), .int v] (μ, y) (emy y) rvV tpT (kr_condition v μ)) (hX : Ok X l G prog_6_method_21_code 3 none "SaltFigures$Reader")  (v1 : Int32) (v2 : Int32)    (μ : Mu) : J X G 3 dd y (emy y) rvV tpT 72 [(0, .ref (G.1 + a)), (1, .int v1), (2, .int v2)] [] (μ, y) (Rd_comparisonB_72 a kr_comparison kr_condition   v1 v2  μ) := by
  unfold Rd_comparisonB_72
  refine J_iload_n (k0 := 1) (pc := 72) 1 hX (by decide +kernel) rfl rfl ?_
  refine J_bipush (pc := 73) (n := 8) (v := 8) hX (by decide +kernel) (by decide +kernel) ?_
  refine J_icmp_lt (pc := 75) (off := 11) (tgt := 86) hX (by decide +kernel) (by decide +kernel) (fun _ => ?_) (fun _ => ?_)
  · refine J_iload_n (k0 := 2) (pc := 86) 2 hX (by decide +kernel) rfl rfl ?_
    refine J_bipush (pc := 87) (n := 7) (v := 7) hX (by decide +kernel) (by decide +kernel) ?_
    refine J_icmp_ne (pc := 89) (off := 27) (tgt := 116) hX (by decide +kernel) (by decide +kernel) (fun _ => ?_) (fun _ => ?_)
    · refine J_aload_n (k0 := 0) (pc := 116) 0 hX (by decide +kernel) rfl rfl ?_
      refine J_cVv (pc := 117) (idx := 47) [] hX (by decide +kernel) (mq mt_3 117 (by decide +kernel)) mv_Rd_next hL.1 rfl rfl (Nat.le_of_ble_eq_true rfl) (by omega) (c_Rd_next hL μ) (fun μ1 => ?_)
      refine J_aload_n (k0 := 0) (pc := 120) 0 hX (by decide +kernel) rfl rfl ?_
      refine J_iload_n (k0 := 1) (pc := 121) 1 hX (by decide +kernel) rfl rfl ?_
      refine J_iconst (pc := 122) (n := 1) (v := 1) hX (by decide +kernel) (by decide +kernel) ?_
      refine J_iadd (pc := 123) hX (by decide +kernel) ?_
      refine J_cVv (pc := 124) (idx := 119) [.int (v1 + 1)] hX (by decide +kernel) (mq mt_4 36 (by decide +kernel)) mv_Rd_condition hL.1 rfl rfl (Nat.le_of_ble_eq_true rfl) hde (hkr_condition (v1 + 1) μ1) (fun μ2 => ?_)
      refine J_aload_n (k0 := 0) (pc := 127) 0 hX (by decide +kernel) rfl rfl ?_
      refine J_bipush (pc := 128) (n := 41) (v := 41) hX (by decide +kernel) (by decide +kernel) ?_
      refine J_cVv (pc := 130) (idx := 94) [.int 41] hX (by decide +kernel) (mq mt_4 44 (by decide +kernel)) mv_Rd_take hL.1 rfl rfl (Nat.le_of_ble_eq_true rfl) (by omega) (c_Rd_take hL 41 μ2) (fun μ3 => ?_)
      exact J_vret (pc := 133) hX (by decide +kernel) rfl trivial
    · refine J_aload_n (k0 := 0) (pc := 92) 0 hX (by decide +kernel) rfl rfl ?_
      refine J_cVv (pc := 93) (idx := 47) [] hX (by decide +kernel) (mq mt_3 117 (by decide +kernel)) mv_Rd_next hL.1 rfl rfl (Nat.le_of_ble_eq_true rfl) (by omega) (c_Rd_next hL μ) (fun μ4 => ?_)
      refine J_aload_n (k0 := 0) (pc := 96) 0 hX (by decide +kernel) rfl rfl ?_
      refine J_iload_n (k0 := 1) (pc := 97) 1 hX (by decide +kernel) rfl rfl ?_
      refine J_iconst (pc := 98) (n := 1) (v := 1) hX (by decide +kernel) (by decide +kernel) ?_
      refine J_iadd (pc := 99) hX (by decide +kernel) ?_
      refine J_cVv (pc := 100) (idx := 125) [.int (v1 + 1)] hX (by decide +kernel) (mq mt_4 40 (by decide +kernel)) mv_Rd_comparison hL.1 rfl rfl (Nat.le_of_ble_eq_true rfl) hde (hkr_comparison (v1 + 1) μ4) (fun μ5 => ?_)
      refine J_aload_n (k0 := 0) (pc := 103) 0 hX (by decide +kernel) rfl rfl ?_
      refine J_gr (pc := 104) hX (by decide +kernel) fl_Rd_22 hL.1 rfl hL.2.2.1.1 ?_
      refine J_bipush (pc := 107) (n := 7) (v := 7) hX (by decide +kernel) (by decide +kernel) ?_
      refine J_iconst (pc := 109) (n := 0) (v := 0) hX (by decide +kernel) (by decide +kernel) ?_
      refine J_cVv (pc := 110) (idx := 128) [.int 7, .int 0] hX (by decide +kernel) (mq mt_4 24 (by decide +kernel)) mv_Lw_emit hL.2.2.1.2.1 rfl rfl (Nat.le_of_ble_eq_true rfl) (by omega) (c_Lw_emit hL.2.2.1.2 7 0 μ5) (fun μ6 => ?_)
      refine J_goto (pc := 113) (off := 20) (tgt := 133) hX (by decide +kernel) (by decide +kernel) ?_
      exact J_vret (pc := 133) hX (by decide +kernel) rfl trivial
  · refine J_aload_n (k0 := 0) (pc := 78) 0 hX (by decide +kernel) rfl rfl ?_
    refine J_iconst (pc := 79) (n := 3) (v := 3) hX (by decide +kernel) (by decide +kernel) ?_
    refine J_cVv (pc := 80) (idx := 86) [.int 3] hX (by decide +kernel) (mq mt_4 8 (by decide +kernel)) mv_Rd_fail hL.1 rfl rfl (Nat.le_of_ble_eq_true rfl) (by omega) (c_Rd_fail hL 3 μ) (fun μ7 => ?_)
    refine J_goto (pc := 83) (off := 50) (tgt := 133) hX (by decide +kernel) (by decide +kernel) ?_
    exact J_vret (pc := 133) hX (by decide +kernel) rfl trivial
set_option maxRecDepth 100000 in
set_option maxHeartbeats 4000000 in
theorem jRd_comparisonB_44 {X : Cx} {l : Launch} {G : Gx} {y : Ly} {a : Nat} {kr_comparison kr_condition : Int32 → Mu → Option (Unit × Mu)} {dd de : Nat} (hL : LyRd y a ) (hdd : 40 ≤ dd) (hde : de + 1 ≤ dd) (hkr_comparison : ∀ (v : Int32) (μ : Mu), Cn l G ⟨"SaltFigures$Reader", "comparison", "(I)V"⟩ prog_6_method_21_code 3 none de [.ref (G.1 + a), .int v] (μ, y) (emy y) rvV tpT (kr_comparison v μ)) (hkr_condition : ∀ (v : Int32) (μ : Mu), Cn l G ⟨"SaltFigures$Reader", "condition", "(I)V"⟩ prog_6_method_20_code 5 none de [.ref (G.1 + a), .int v] (μ, y) (emy y) rvV tpT (kr_condition v μ)) (hX : Ok X l G prog_6_method_21_code 3 none "SaltFigures$Reader")  (v2 : Int32)    (μ : Mu) : J X G 3 dd y (emy y) rvV tpT 44 [(0, .ref (G.1 + a)), (2, .int v2)] [] (μ, y) (Rd_comparisonB_44 a kr_comparison kr_condition   v2  μ) := by
  unfold Rd_comparisonB_44
  refine J_aload_n (k0 := 0) (pc := 44) 0 hX (by decide +kernel) rfl rfl ?_
  refine J_cVv (pc := 45) (idx := 47) [] hX (by decide +kernel) (mq mt_3 117 (by decide +kernel)) mv_Rd_next hL.1 rfl rfl (Nat.le_of_ble_eq_true rfl) (by omega) (c_Rd_next hL μ) (fun μ1 => ?_)
  refine J_aload_n (k0 := 0) (pc := 48) 0 hX (by decide +kernel) rfl rfl ?_
  refine J_cVv (pc := 49) (idx := 113) [] hX (by decide +kernel) (mq mt_4 16 (by decide +kernel)) mv_Rd_sum hL.1 rfl rfl (Nat.le_of_ble_eq_true rfl) (by omega) (c_Rd_sum hL μ1) (fun μ2 => ?_)
  refine J_aload_n (k0 := 0) (pc := 52) 0 hX (by decide +kernel) rfl rfl ?_
  refine J_gr (pc := 53) hX (by decide +kernel) fl_Rd_22 hL.1 rfl hL.2.2.1.1 ?_
  refine J_iload_n (k0 := 2) (pc := 56) 1 hX (by decide +kernel) rfl rfl ?_
  refine J_iconst (pc := 57) (n := 0) (v := 0) hX (by decide +kernel) (by decide +kernel) ?_
  refine J_cVv (pc := 58) (idx := 128) [.int v2, .int 0] hX (by decide +kernel) (mq mt_4 24 (by decide +kernel)) mv_Lw_emit hL.2.2.1.2.1 rfl rfl (Nat.le_of_ble_eq_true rfl) (by omega) (c_Lw_emit hL.2.2.1.2 v2 0 μ2) (fun μ3 => ?_)
  refine J_goto (pc := 61) (off := 72) (tgt := 133) hX (by decide +kernel) (by decide +kernel) ?_
  exact J_vret (pc := 133) hX (by decide +kernel) rfl trivial
set_option maxRecDepth 100000 in
set_option maxHeartbeats 4000000 in
theorem jRd_comparisonB {X : Cx} {l : Launch} {G : Gx} {y : Ly} {a : Nat} {kr_comparison kr_condition : Int32 → Mu → Option (Unit × Mu)} {dd de : Nat} (hL : LyRd y a ) (hdd : 40 ≤ dd) (hde : de + 1 ≤ dd) (hkr_comparison : ∀ (v : Int32) (μ : Mu), Cn l G ⟨"SaltFigures$Reader", "comparison", "(I)V"⟩ prog_6_method_21_code 3 none de [.ref (G.1 + a), .int v] (μ, y) (emy y) rvV tpT (kr_comparison v μ)) (hkr_condition : ∀ (v : Int32) (μ : Mu), Cn l G ⟨"SaltFigures$Reader", "condition", "(I)V"⟩ prog_6_method_20_code 5 none de [.ref (G.1 + a), .int v] (μ, y) (emy y) rvV tpT (kr_condition v μ)) (hX : Ok X l G prog_6_method_21_code 3 none "SaltFigures$Reader") (v1 : Int32) (μ : Mu) : J X G 3 dd y (emy y) rvV tpT 0 [(0, .ref (G.1 + a)), (1, .int v1)] [] (μ, y) (Rd_comparisonB a kr_comparison kr_condition v1 μ) := by
  unfold Rd_comparisonB
  refine J_aload_n (k0 := 0) (pc := 0) 0 hX (by decide +kernel) rfl rfl ?_
  refine J_gF (pc := 1) hX (by decide +kernel) fl_Rd_53 hL.1 rfl (fun x1 => ?_)
  refine J_istore_n (k0 := 2) (pc := 4) [(2, .int x1), (0, .ref (G.1 + a)), (1, .int v1)] hX (by decide +kernel) rfl (by decide) rfl ?_
  refine J_iload_n (k0 := 2) (pc := 5) 0 hX (by decide +kernel) rfl rfl ?_
  refine J_bipush (pc := 6) (n := 7) (v := 7) hX (by decide +kernel) (by decide +kernel) ?_
  refine J_icmp_eq (pc := 8) (off := 64) (tgt := 72) hX (by decide +kernel) (by decide +kernel) (fun _ => ?_) (fun _ => ?_)
  · exact J_sub [1, 2, 0] _ rfl (jRd_comparisonB_72 hL hdd hde hkr_comparison hkr_condition hX v1 x1 μ)
  · refine J_iload_n (k0 := 2) (pc := 11) 0 hX (by decide +kernel) rfl rfl ?_
    refine J_bipush (pc := 12) (n := 40) (v := 40) hX (by decide +kernel) (by decide +kernel) ?_
    refine J_icmp_eq (pc := 14) (off := 58) (tgt := 72) hX (by decide +kernel) (by decide +kernel) (fun _ => ?_) (fun _ => ?_)
    · exact J_sub [1, 2, 0] _ rfl (jRd_comparisonB_72 hL hdd hde hkr_comparison hkr_condition hX v1 x1 μ)
    · refine J_aload_n (k0 := 0) (pc := 17) 1 hX (by decide +kernel) rfl rfl ?_
      refine J_cVv (pc := 18) (idx := 113) [] hX (by decide +kernel) (mq mt_4 16 (by decide +kernel)) mv_Rd_sum hL.1 rfl rfl (Nat.le_of_ble_eq_true rfl) (by omega) (c_Rd_sum hL μ) (fun μ2 => ?_)
      refine J_aload_n (k0 := 0) (pc := 21) 1 hX (by decide +kernel) rfl rfl ?_
      refine J_gF (pc := 22) hX (by decide +kernel) fl_Rd_53 hL.1 rfl (fun x3 => ?_)
      refine J_istore_n (k0 := 2) (pc := 25) [(2, .int x3), (0, .ref (G.1 + a)), (1, .int v1)] hX (by decide +kernel) rfl (by decide) rfl ?_
      refine J_iload_n (k0 := 2) (pc := 26) 0 hX (by decide +kernel) rfl rfl ?_
      refine J_bipush (pc := 27) (n := 60) (v := 60) hX (by decide +kernel) (by decide +kernel) ?_
      refine J_icmp_eq (pc := 29) (off := 15) (tgt := 44) hX (by decide +kernel) (by decide +kernel) (fun _ => ?_) (fun _ => ?_)
      · exact J_sub [1, 0] _ rfl (jRd_comparisonB_44 hL hdd hde hkr_comparison hkr_condition hX x3 μ2)
      · refine J_iload_n (k0 := 2) (pc := 32) 0 hX (by decide +kernel) rfl rfl ?_
        refine J_bipush (pc := 33) (n := 61) (v := 61) hX (by decide +kernel) (by decide +kernel) ?_
        refine J_icmp_eq (pc := 35) (off := 9) (tgt := 44) hX (by decide +kernel) (by decide +kernel) (fun _ => ?_) (fun _ => ?_)
        · exact J_sub [1, 0] _ rfl (jRd_comparisonB_44 hL hdd hde hkr_comparison hkr_condition hX x3 μ2)
        · refine J_iload_n (k0 := 2) (pc := 38) 0 hX (by decide +kernel) rfl rfl ?_
          refine J_bipush (pc := 39) (n := 62) (v := 62) hX (by decide +kernel) (by decide +kernel) ?_
          refine J_icmp_ne (pc := 41) (off := 23) (tgt := 64) hX (by decide +kernel) (by decide +kernel) (fun _ => ?_) (fun _ => ?_)
          · refine J_aload_n (k0 := 0) (pc := 64) 1 hX (by decide +kernel) rfl rfl ?_
            refine J_iconst (pc := 65) (n := 1) (v := 1) hX (by decide +kernel) (by decide +kernel) ?_
            refine J_cVv (pc := 66) (idx := 86) [.int 1] hX (by decide +kernel) (mq mt_4 8 (by decide +kernel)) mv_Rd_fail hL.1 rfl rfl (Nat.le_of_ble_eq_true rfl) (by omega) (c_Rd_fail hL 1 μ2) (fun μ4 => ?_)
            refine J_goto (pc := 69) (off := 64) (tgt := 133) hX (by decide +kernel) (by decide +kernel) ?_
            exact J_vret (pc := 133) hX (by decide +kernel) rfl trivial
          · exact J_sub [1, 0] _ rfl (jRd_comparisonB_44 hL hdd hde hkr_comparison hkr_condition hX x3 μ2)
set_option maxRecDepth 100000 in
set_option maxHeartbeats 4000000 in
theorem c_Rd_comparisonB {l : Launch} {G : Gx} {y : Ly} {a : Nat} {kr_comparison kr_condition : Int32 → Mu → Option (Unit × Mu)} {dd de : Nat} (hL : LyRd y a ) (hdd : 40 ≤ dd) (hde : de + 1 ≤ dd) (hkr_comparison : ∀ (v : Int32) (μ : Mu), Cn l G ⟨"SaltFigures$Reader", "comparison", "(I)V"⟩ prog_6_method_21_code 3 none de [.ref (G.1 + a), .int v] (μ, y) (emy y) rvV tpT (kr_comparison v μ)) (hkr_condition : ∀ (v : Int32) (μ : Mu), Cn l G ⟨"SaltFigures$Reader", "condition", "(I)V"⟩ prog_6_method_20_code 5 none de [.ref (G.1 + a), .int v] (μ, y) (emy y) rvV tpT (kr_condition v μ)) (v1 : Int32) (μ : Mu) : Cn l G ⟨"SaltFigures$Reader", "comparison", "(I)V"⟩ prog_6_method_21_code 3 none dd [.ref (G.1 + a), .int v1] (μ, y) (emy y) rvV tpT (Rd_comparisonB a kr_comparison kr_condition v1 μ) := cn_of (by decide +kernel) (Nat.le_of_ble_eq_true rfl) (fun _ _ _ => ⟨List.prefix_refl _, trivial⟩) (fun X hX _ => jRd_comparisonB hL hdd hde hkr_comparison hkr_condition hX v1 μ)

def Rd_conditionB_112 (a : Nat) (kr_comparison kr_condition : Int32 → Mu → Option (Unit × Mu))   (v2 : Int32)  (μ : Mu) : Option (Unit × Mu) := (if v2 = 0 then some ((), μ) else cl (Lw_emit (a + 2) 5 0 μ) (fun _ μ1 => some ((), μ1)))
def Rd_conditionB_106 (a : Nat) (kr_comparison kr_condition : Int32 → Mu → Option (Unit × Mu)) (kb9 : Int32 → Int32 → Mu → Option (Unit × Mu))  (v1 : Int32) (v2 : Int32) (v3 : Int32)  (μ : Mu) : Option (Unit × Mu) := kb9 v2 (v3 + 1) μ
def Rd_conditionB_85 (a : Nat) (kr_comparison kr_condition : Int32 → Mu → Option (Unit × Mu)) (kb9 : Int32 → Int32 → Mu → Option (Unit × Mu))  (v1 : Int32) (v3 : Int32) (v4 : Int32) (s0 : Int32) (μ : Mu) : Option (Unit × Mu) := cl (kr_comparison v1 μ) (fun _ μ1 => (if v4 = 0 then Rd_conditionB_106 a kr_comparison kr_condition kb9 v1 s0 v3 μ1 else cl (Lw_emit (a + 2) 6 0 μ1) (fun _ μ2 => Rd_conditionB_106 a kr_comparison kr_condition kb9 v1 s0 v3 μ2)))
def Rd_conditionB_80 (a : Nat) (kr_comparison kr_condition : Int32 → Mu → Option (Unit × Mu)) (kb9 : Int32 → Int32 → Mu → Option (Unit × Mu))  (v1 : Int32) (v3 : Int32) (v4 : Int32)  (μ : Mu) : Option (Unit × Mu) := Rd_conditionB_85 a kr_comparison kr_condition kb9 v1 v3 v4 1 μ
def Rd_conditionB_71 (a : Nat) (kr_comparison kr_condition : Int32 → Mu → Option (Unit × Mu)) (kb9 : Int32 → Int32 → Mu → Option (Unit × Mu))  (v1 : Int32) (v2 : Int32) (v3 : Int32) (v4 : Int32)  (μ : Mu) : Option (Unit × Mu) := (if v2 = 0 then (if v4 = 0 then Rd_conditionB_80 a kr_comparison kr_condition kb9 v1 v3 v4 μ else Rd_conditionB_85 a kr_comparison kr_condition kb9 v1 v3 v4 0 μ) else Rd_conditionB_80 a kr_comparison kr_condition kb9 v1 v3 v4 μ)
def Rd_conditionB_47 (a : Nat) (kr_comparison kr_condition : Int32 → Mu → Option (Unit × Mu)) (kb9 : Int32 → Int32 → Mu → Option (Unit × Mu))  (v1 : Int32) (v2 : Int32) (v3 : Int32) (s0 : Int32) (μ : Mu) : Option (Unit × Mu) := cl (Rd_next a μ) (fun _ μ1 => (if s0 = 0 then (if v2 = 0 then Rd_conditionB_71 a kr_comparison kr_condition kb9 v1 v2 v3 s0 μ1 else cl (Lw_emit (a + 2) 5 0 μ1) (fun _ μ2 => Rd_conditionB_71 a kr_comparison kr_condition kb9 v1 v2 v3 s0 μ2)) else Rd_conditionB_71 a kr_comparison kr_condition kb9 v1 v2 v3 s0 μ1))
def Rd_conditionB_33 (a : Nat) (kr_comparison kr_condition : Int32 → Mu → Option (Unit × Mu)) (kb9 : Int32 → Int32 → Mu → Option (Unit × Mu))  (v1 : Int32) (v2 : Int32) (v3 : Int32)  (μ : Mu) : Option (Unit × Mu) := gF μ a 3 (fun x1 => (if x1 = 6 then Rd_conditionB_47 a kr_comparison kr_condition kb9 v1 v2 v3 1 μ else Rd_conditionB_47 a kr_comparison kr_condition kb9 v1 v2 v3 0 μ))
def Rd_conditionB_9b (a : Nat) (kr_comparison kr_condition : Int32 → Mu → Option (Unit × Mu))  (kb9 : Int32 → Int32 → Mu → Option (Unit × Mu)) (v1 : Int32) (v2 : Int32) (v3 : Int32)  (μ : Mu) : Option (Unit × Mu) := (if 400 ≤ v3 then Rd_conditionB_112 a kr_comparison kr_condition v2 μ else gF μ a 3 (fun x1 => (if x1 = 6 then Rd_conditionB_33 a kr_comparison kr_condition kb9 v1 v2 v3 μ else gF μ a 3 (fun x2 => (if x2 = 5 then Rd_conditionB_33 a kr_comparison kr_condition kb9 v1 v2 v3 μ else Rd_conditionB_112 a kr_comparison kr_condition v2 μ)))))
def Rd_conditionB_9 (a : Nat) (kr_comparison kr_condition : Int32 → Mu → Option (Unit × Mu))  (v1 : Int32) (fu : Nat) : Int32 → Int32 → Mu → Option (Unit × Mu) := lp (fun kb => Rd_conditionB_9b a kr_comparison kr_condition  kb v1) (fun _ _ _ => none) fu
def Rd_conditionB (a : Nat) (kr_comparison kr_condition : Int32 → Mu → Option (Unit × Mu)) (v1 : Int32) (μ : Mu) : Option (Unit × Mu) := cl (kr_comparison v1 μ) (fun _ μ1 => Rd_conditionB_9 a kr_comparison kr_condition v1 FU 0 0 μ1)
set_option maxRecDepth 100000 in
set_option maxHeartbeats 4000000 in
theorem jRd_conditionB_112 {X : Cx} {l : Launch} {G : Gx} {y : Ly} {a : Nat} {kr_comparison kr_condition : Int32 → Mu → Option (Unit × Mu)} {dd de : Nat} (hL : LyRd y a ) (hdd : 40 ≤ dd) (hde : de + 1 ≤ dd) (hkr_comparison : ∀ (v : Int32) (μ : Mu), Cn l G ⟨"SaltFigures$Reader", "comparison", "(I)V"⟩ prog_6_method_21_code 3 none de [.ref (G.1 + a), .int v] (μ, y) (emy y) rvV tpT (kr_comparison v μ)) (hkr_condition : ∀ (v : Int32) (μ : Mu), Cn l G ⟨"SaltFigures$Reader", "condition", "(I)V"⟩ prog_6_method_20_code 5 none de [.ref (G.1 + a), .int v] (μ, y) (emy y) rvV tpT (kr_condition v μ)) (hX : Ok X l G prog_6_method_20_code 5 none "SaltFigures$Reader")  (v2 : Int32)    (μ : Mu) : J X G 5 dd y (emy y) rvV tpT 112 [(0, .ref (G.1 + a)), (2, .int v2)] [] (μ, y) (Rd_conditionB_112 a kr_comparison kr_condition   v2  μ) := by
  unfold Rd_conditionB_112
  refine J_iload_n (k0 := 2) (pc := 112) 1 hX (by decide +kernel) rfl rfl ?_
  refine J_if_eq (pc := 113) (off := 12) (tgt := 125) hX (by decide +kernel) (by decide +kernel) (fun _ => ?_) (fun _ => ?_)
  · exact J_vret (pc := 125) hX (by decide +kernel) rfl trivial
  · refine J_aload_n (k0 := 0) (pc := 116) 0 hX (by decide +kernel) rfl rfl ?_
    refine J_gr (pc := 117) hX (by decide +kernel) fl_Rd_22 hL.1 rfl hL.2.2.1.1 ?_
    refine J_iconst (pc := 120) (n := 5) (v := 5) hX (by decide +kernel) (by decide +kernel) ?_
    refine J_iconst (pc := 121) (n := 0) (v := 0) hX (by decide +kernel) (by decide +kernel) ?_
    refine J_cVv (pc := 122) (idx := 128) [.int 5, .int 0] hX (by decide +kernel) (mq mt_4 24 (by decide +kernel)) mv_Lw_emit hL.2.2.1.2.1 rfl rfl (Nat.le_of_ble_eq_true rfl) (by omega) (c_Lw_emit hL.2.2.1.2 5 0 μ) (fun μ1 => ?_)
    exact J_vret (pc := 125) hX (by decide +kernel) rfl trivial
set_option maxRecDepth 100000 in
set_option maxHeartbeats 4000000 in
theorem jRd_conditionB_106 {X : Cx} {l : Launch} {G : Gx} {y : Ly} {a : Nat} {kr_comparison kr_condition : Int32 → Mu → Option (Unit × Mu)} {dd de : Nat} (hL : LyRd y a ) (hdd : 40 ≤ dd) (hde : de + 1 ≤ dd) (hkr_comparison : ∀ (v : Int32) (μ : Mu), Cn l G ⟨"SaltFigures$Reader", "comparison", "(I)V"⟩ prog_6_method_21_code 3 none de [.ref (G.1 + a), .int v] (μ, y) (emy y) rvV tpT (kr_comparison v μ)) (hkr_condition : ∀ (v : Int32) (μ : Mu), Cn l G ⟨"SaltFigures$Reader", "condition", "(I)V"⟩ prog_6_method_20_code 5 none de [.ref (G.1 + a), .int v] (μ, y) (emy y) rvV tpT (kr_condition v μ)) (hX : Ok X l G prog_6_method_20_code 5 none "SaltFigures$Reader")  (v1 : Int32) (v2 : Int32) (v3 : Int32)  {kb9 : Int32 → Int32 → Mu → Option (Unit × Mu)} (hk9 : ∀ (v2 : Int32) (v3 : Int32) (μ : Mu), J X G 5 dd y (emy y) rvV tpT 9 [(0, .ref (G.1 + a)), (1, .int v1), (2, .int v2), (3, .int v3)] [] (μ, y) (kb9 v2 v3 μ)) (μ : Mu) : J X G 5 dd y (emy y) rvV tpT 106 [(0, .ref (G.1 + a)), (1, .int v1), (2, .int v2), (3, .int v3)] [] (μ, y) (Rd_conditionB_106 a kr_comparison kr_condition kb9  v1 v2 v3  μ) := by
  unfold Rd_conditionB_106
  refine J_iinc (pc := 106) (n := 1) 3 [(3, .int (v3 + 1)), (0, .ref (G.1 + a)), (1, .int v1), (2, .int v2)] hX (by decide +kernel) rfl rfl (by decide) rfl ?_
  refine J_goto (pc := 109) (off := -100) (tgt := 9) hX (by decide +kernel) (by decide +kernel) ?_
  exact J_sub [1, 2, 3, 0] _ rfl (hk9 v2 (v3 + 1) μ)
set_option maxRecDepth 100000 in
set_option maxHeartbeats 4000000 in
theorem jRd_conditionB_85 {X : Cx} {l : Launch} {G : Gx} {y : Ly} {a : Nat} {kr_comparison kr_condition : Int32 → Mu → Option (Unit × Mu)} {dd de : Nat} (hL : LyRd y a ) (hdd : 40 ≤ dd) (hde : de + 1 ≤ dd) (hkr_comparison : ∀ (v : Int32) (μ : Mu), Cn l G ⟨"SaltFigures$Reader", "comparison", "(I)V"⟩ prog_6_method_21_code 3 none de [.ref (G.1 + a), .int v] (μ, y) (emy y) rvV tpT (kr_comparison v μ)) (hkr_condition : ∀ (v : Int32) (μ : Mu), Cn l G ⟨"SaltFigures$Reader", "condition", "(I)V"⟩ prog_6_method_20_code 5 none de [.ref (G.1 + a), .int v] (μ, y) (emy y) rvV tpT (kr_condition v μ)) (hX : Ok X l G prog_6_method_20_code 5 none "SaltFigures$Reader")  (v1 : Int32) (v3 : Int32) (v4 : Int32) (s0 : Int32) {kb9 : Int32 → Int32 → Mu → Option (Unit × Mu)} (hk9 : ∀ (v2 : Int32) (v3 : Int32) (μ : Mu), J X G 5 dd y (emy y) rvV tpT 9 [(0, .ref (G.1 + a)), (1, .int v1), (2, .int v2), (3, .int v3)] [] (μ, y) (kb9 v2 v3 μ)) (μ : Mu) : J X G 5 dd y (emy y) rvV tpT 85 [(0, .ref (G.1 + a)), (1, .int v1), (3, .int v3), (4, .int v4)] [.int s0] (μ, y) (Rd_conditionB_85 a kr_comparison kr_condition kb9  v1 v3 v4 s0 μ) := by
  unfold Rd_conditionB_85
  refine J_istore_n (k0 := 2) (pc := 85) [(2, .int s0), (0, .ref (G.1 + a)), (1, .int v1), (3, .int v3), (4, .int v4)] hX (by decide +kernel) rfl (by decide) rfl ?_
  refine J_aload_n (k0 := 0) (pc := 86) 1 hX (by decide +kernel) rfl rfl ?_
  refine J_iload_n (k0 := 1) (pc := 87) 2 hX (by decide +kernel) rfl rfl ?_
  refine J_cVv (pc := 88) (idx := 125) [.int v1] hX (by decide +kernel) (mq mt_4 40 (by decide +kernel)) mv_Rd_comparison hL.1 rfl rfl (Nat.le_of_ble_eq_true rfl) hde (hkr_comparison v1 μ) (fun μ1 => ?_)
  refine J_iload (pc := 91) 4 hX (by decide +kernel) rfl ?_
  refine J_if_eq (pc := 93) (off := 13) (tgt := 106) hX (by decide +kernel) (by decide +kernel) (fun _ => ?_) (fun _ => ?_)
  · exact J_sub [1, 2, 0, 3] _ rfl (jRd_conditionB_106 hL hdd hde hkr_comparison hkr_condition hX v1 s0 v3 hk9 μ1)
  · refine J_aload_n (k0 := 0) (pc := 96) 1 hX (by decide +kernel) rfl rfl ?_
    refine J_gr (pc := 97) hX (by decide +kernel) fl_Rd_22 hL.1 rfl hL.2.2.1.1 ?_
    refine J_bipush (pc := 100) (n := 6) (v := 6) hX (by decide +kernel) (by decide +kernel) ?_
    refine J_iconst (pc := 102) (n := 0) (v := 0) hX (by decide +kernel) (by decide +kernel) ?_
    refine J_cVv (pc := 103) (idx := 128) [.int 6, .int 0] hX (by decide +kernel) (mq mt_4 24 (by decide +kernel)) mv_Lw_emit hL.2.2.1.2.1 rfl rfl (Nat.le_of_ble_eq_true rfl) (by omega) (c_Lw_emit hL.2.2.1.2 6 0 μ1) (fun μ2 => ?_)
    exact J_sub [1, 2, 0, 3] _ rfl (jRd_conditionB_106 hL hdd hde hkr_comparison hkr_condition hX v1 s0 v3 hk9 μ2)
set_option maxRecDepth 100000 in
set_option maxHeartbeats 4000000 in
theorem jRd_conditionB_80 {X : Cx} {l : Launch} {G : Gx} {y : Ly} {a : Nat} {kr_comparison kr_condition : Int32 → Mu → Option (Unit × Mu)} {dd de : Nat} (hL : LyRd y a ) (hdd : 40 ≤ dd) (hde : de + 1 ≤ dd) (hkr_comparison : ∀ (v : Int32) (μ : Mu), Cn l G ⟨"SaltFigures$Reader", "comparison", "(I)V"⟩ prog_6_method_21_code 3 none de [.ref (G.1 + a), .int v] (μ, y) (emy y) rvV tpT (kr_comparison v μ)) (hkr_condition : ∀ (v : Int32) (μ : Mu), Cn l G ⟨"SaltFigures$Reader", "condition", "(I)V"⟩ prog_6_method_20_code 5 none de [.ref (G.1 + a), .int v] (μ, y) (emy y) rvV tpT (kr_condition v μ)) (hX : Ok X l G prog_6_method_20_code 5 none "SaltFigures$Reader")  (v1 : Int32) (v3 : Int32) (v4 : Int32)  {kb9 : Int32 → Int32 → Mu → Option (Unit × Mu)} (hk9 : ∀ (v2 : Int32) (v3 : Int32) (μ : Mu), J X G 5 dd y (emy y) rvV tpT 9 [(0, .ref (G.1 + a)), (1, .int v1), (2, .int v2), (3, .int v3)] [] (μ, y) (kb9 v2 v3 μ)) (μ : Mu) : J X G 5 dd y (emy y) rvV tpT 80 [(0, .ref (G.1 + a)), (1, .int v1), (3, .int v3), (4, .int v4)] [] (μ, y) (Rd_conditionB_80 a kr_comparison kr_condition kb9  v1 v3 v4  μ) := by
  unfold Rd_conditionB_80
  refine J_iconst (pc := 80) (n := 1) (v := 1) hX (by decide +kernel) (by decide +kernel) ?_
  refine J_goto (pc := 81) (off := 4) (tgt := 85) hX (by decide +kernel) (by decide +kernel) ?_
  exact J_sub [0, 1, 2, 3] _ rfl (jRd_conditionB_85 hL hdd hde hkr_comparison hkr_condition hX v1 v3 v4 1 hk9 μ)
set_option maxRecDepth 100000 in
set_option maxHeartbeats 4000000 in
theorem jRd_conditionB_71 {X : Cx} {l : Launch} {G : Gx} {y : Ly} {a : Nat} {kr_comparison kr_condition : Int32 → Mu → Option (Unit × Mu)} {dd de : Nat} (hL : LyRd y a ) (hdd : 40 ≤ dd) (hde : de + 1 ≤ dd) (hkr_comparison : ∀ (v : Int32) (μ : Mu), Cn l G ⟨"SaltFigures$Reader", "comparison", "(I)V"⟩ prog_6_method_21_code 3 none de [.ref (G.1 + a), .int v] (μ, y) (emy y) rvV tpT (kr_comparison v μ)) (hkr_condition : ∀ (v : Int32) (μ : Mu), Cn l G ⟨"SaltFigures$Reader", "condition", "(I)V"⟩ prog_6_method_20_code 5 none de [.ref (G.1 + a), .int v] (μ, y) (emy y) rvV tpT (kr_condition v μ)) (hX : Ok X l G prog_6_method_20_code 5 none "SaltFigures$Reader")  (v1 : Int32) (v2 : Int32) (v3 : Int32) (v4 : Int32)  {kb9 : Int32 → Int32 → Mu → Option (Unit × Mu)} (hk9 : ∀ (v2 : Int32) (v3 : Int32) (μ : Mu), J X G 5 dd y (emy y) rvV tpT 9 [(0, .ref (G.1 + a)), (1, .int v1), (2, .int v2), (3, .int v3)] [] (μ, y) (kb9 v2 v3 μ)) (μ : Mu) : J X G 5 dd y (emy y) rvV tpT 71 [(0, .ref (G.1 + a)), (1, .int v1), (2, .int v2), (3, .int v3), (4, .int v4)] [] (μ, y) (Rd_conditionB_71 a kr_comparison kr_condition kb9  v1 v2 v3 v4  μ) := by
  unfold Rd_conditionB_71
  refine J_iload_n (k0 := 2) (pc := 71) 2 hX (by decide +kernel) rfl rfl ?_
  refine J_if_ne (pc := 72) (off := 8) (tgt := 80) hX (by decide +kernel) (by decide +kernel) (fun _ => ?_) (fun _ => ?_)
  · exact J_sub [0, 1, 3, 4] _ rfl (jRd_conditionB_80 hL hdd hde hkr_comparison hkr_condition hX v1 v3 v4 hk9 μ)
  · refine J_iload (pc := 75) 4 hX (by decide +kernel) rfl ?_
    refine J_if_ne (pc := 77) (off := 7) (tgt := 84) hX (by decide +kernel) (by decide +kernel) (fun _ => ?_) (fun _ => ?_)
    · refine J_iconst (pc := 84) (n := 0) (v := 0) hX (by decide +kernel) (by decide +kernel) ?_
      exact J_sub [0, 1, 3, 4] _ rfl (jRd_conditionB_85 hL hdd hde hkr_comparison hkr_condition hX v1 v3 v4 0 hk9 μ)
    · exact J_sub [0, 1, 3, 4] _ rfl (jRd_conditionB_80 hL hdd hde hkr_comparison hkr_condition hX v1 v3 v4 hk9 μ)
set_option maxRecDepth 100000 in
set_option maxHeartbeats 4000000 in
theorem jRd_conditionB_47 {X : Cx} {l : Launch} {G : Gx} {y : Ly} {a : Nat} {kr_comparison kr_condition : Int32 → Mu → Option (Unit × Mu)} {dd de : Nat} (hL : LyRd y a ) (hdd : 40 ≤ dd) (hde : de + 1 ≤ dd) (hkr_comparison : ∀ (v : Int32) (μ : Mu), Cn l G ⟨"SaltFigures$Reader", "comparison", "(I)V"⟩ prog_6_method_21_code 3 none de [.ref (G.1 + a), .int v] (μ, y) (emy y) rvV tpT (kr_comparison v μ)) (hkr_condition : ∀ (v : Int32) (μ : Mu), Cn l G ⟨"SaltFigures$Reader", "condition", "(I)V"⟩ prog_6_method_20_code 5 none de [.ref (G.1 + a), .int v] (μ, y) (emy y) rvV tpT (kr_condition v μ)) (hX : Ok X l G prog_6_method_20_code 5 none "SaltFigures$Reader")  (v1 : Int32) (v2 : Int32) (v3 : Int32) (s0 : Int32) {kb9 : Int32 → Int32 → Mu → Option (Unit × Mu)} (hk9 : ∀ (v2 : Int32) (v3 : Int32) (μ : Mu), J X G 5 dd y (emy y) rvV tpT 9 [(0, .ref (G.1 + a)), (1, .int v1), (2, .int v2), (3, .int v3)] [] (μ, y) (kb9 v2 v3 μ)) (μ : Mu) : J X G 5 dd y (emy y) rvV tpT 47 [(0, .ref (G.1 + a)), (1, .int v1), (2, .int v2), (3, .int v3)] [.int s0] (μ, y) (Rd_conditionB_47 a kr_comparison kr_condition kb9  v1 v2 v3 s0 μ) := by
  unfold Rd_conditionB_47
  refine J_istore (pc := 47) [(4, .int s0), (0, .ref (G.1 + a)), (1, .int v1), (2, .int v2), (3, .int v3)] hX (by decide +kernel) (by decide) rfl ?_
  refine J_aload_n (k0 := 0) (pc := 49) 1 hX (by decide +kernel) rfl rfl ?_
  refine J_cVv (pc := 50) (idx := 47) [] hX (by decide +kernel) (mq mt_3 117 (by decide +kernel)) mv_Rd_next hL.1 rfl rfl (Nat.le_of_ble_eq_true rfl) (by omega) (c_Rd_next hL μ) (fun μ1 => ?_)
  refine J_iload (pc := 53) 0 hX (by decide +kernel) rfl ?_
  refine J_if_ne (pc := 55) (off := 16) (tgt := 71) hX (by decide +kernel) (by decide +kernel) (fun _ => ?_) (fun _ => ?_)
  · exact J_sub [1, 2, 3, 4, 0] _ rfl (jRd_conditionB_71 hL hdd hde hkr_comparison hkr_condition hX v1 v2 v3 s0 hk9 μ1)
  · refine J_iload_n (k0 := 2) (pc := 58) 3 hX (by decide +kernel) rfl rfl ?_
    refine J_if_eq (pc := 59) (off := 12) (tgt := 71) hX (by decide +kernel) (by decide +kernel) (fun _ => ?_) (fun _ => ?_)
    · exact J_sub [1, 2, 3, 4, 0] _ rfl (jRd_conditionB_71 hL hdd hde hkr_comparison hkr_condition hX v1 v2 v3 s0 hk9 μ1)
    · refine J_aload_n (k0 := 0) (pc := 62) 1 hX (by decide +kernel) rfl rfl ?_
      refine J_gr (pc := 63) hX (by decide +kernel) fl_Rd_22 hL.1 rfl hL.2.2.1.1 ?_
      refine J_iconst (pc := 66) (n := 5) (v := 5) hX (by decide +kernel) (by decide +kernel) ?_
      refine J_iconst (pc := 67) (n := 0) (v := 0) hX (by decide +kernel) (by decide +kernel) ?_
      refine J_cVv (pc := 68) (idx := 128) [.int 5, .int 0] hX (by decide +kernel) (mq mt_4 24 (by decide +kernel)) mv_Lw_emit hL.2.2.1.2.1 rfl rfl (Nat.le_of_ble_eq_true rfl) (by omega) (c_Lw_emit hL.2.2.1.2 5 0 μ1) (fun μ2 => ?_)
      exact J_sub [1, 2, 3, 4, 0] _ rfl (jRd_conditionB_71 hL hdd hde hkr_comparison hkr_condition hX v1 v2 v3 s0 hk9 μ2)
set_option maxRecDepth 100000 in
set_option maxHeartbeats 4000000 in
theorem jRd_conditionB_33 {X : Cx} {l : Launch} {G : Gx} {y : Ly} {a : Nat} {kr_comparison kr_condition : Int32 → Mu → Option (Unit × Mu)} {dd de : Nat} (hL : LyRd y a ) (hdd : 40 ≤ dd) (hde : de + 1 ≤ dd) (hkr_comparison : ∀ (v : Int32) (μ : Mu), Cn l G ⟨"SaltFigures$Reader", "comparison", "(I)V"⟩ prog_6_method_21_code 3 none de [.ref (G.1 + a), .int v] (μ, y) (emy y) rvV tpT (kr_comparison v μ)) (hkr_condition : ∀ (v : Int32) (μ : Mu), Cn l G ⟨"SaltFigures$Reader", "condition", "(I)V"⟩ prog_6_method_20_code 5 none de [.ref (G.1 + a), .int v] (μ, y) (emy y) rvV tpT (kr_condition v μ)) (hX : Ok X l G prog_6_method_20_code 5 none "SaltFigures$Reader")  (v1 : Int32) (v2 : Int32) (v3 : Int32)  {kb9 : Int32 → Int32 → Mu → Option (Unit × Mu)} (hk9 : ∀ (v2 : Int32) (v3 : Int32) (μ : Mu), J X G 5 dd y (emy y) rvV tpT 9 [(0, .ref (G.1 + a)), (1, .int v1), (2, .int v2), (3, .int v3)] [] (μ, y) (kb9 v2 v3 μ)) (μ : Mu) : J X G 5 dd y (emy y) rvV tpT 33 [(0, .ref (G.1 + a)), (1, .int v1), (2, .int v2), (3, .int v3)] [] (μ, y) (Rd_conditionB_33 a kr_comparison kr_condition kb9  v1 v2 v3  μ) := by
  unfold Rd_conditionB_33
  refine J_aload_n (k0 := 0) (pc := 33) 0 hX (by decide +kernel) rfl rfl ?_
  refine J_gF (pc := 34) hX (by decide +kernel) fl_Rd_53 hL.1 rfl (fun x1 => ?_)
  refine J_bipush (pc := 37) (n := 6) (v := 6) hX (by decide +kernel) (by decide +kernel) ?_
  refine J_icmp_ne (pc := 39) (off := 7) (tgt := 46) hX (by decide +kernel) (by decide +kernel) (fun _ => ?_) (fun _ => ?_)
  · refine J_iconst (pc := 46) (n := 0) (v := 0) hX (by decide +kernel) (by decide +kernel) ?_
    exact J_sub [0, 1, 2, 3] _ rfl (jRd_conditionB_47 hL hdd hde hkr_comparison hkr_condition hX v1 v2 v3 0 hk9 μ)
  · refine J_iconst (pc := 42) (n := 1) (v := 1) hX (by decide +kernel) (by decide +kernel) ?_
    refine J_goto (pc := 43) (off := 4) (tgt := 47) hX (by decide +kernel) (by decide +kernel) ?_
    exact J_sub [0, 1, 2, 3] _ rfl (jRd_conditionB_47 hL hdd hde hkr_comparison hkr_condition hX v1 v2 v3 1 hk9 μ)
set_option maxRecDepth 100000 in
set_option maxHeartbeats 4000000 in
theorem jRd_conditionB_9b {X : Cx} {l : Launch} {G : Gx} {y : Ly} {a : Nat} {kr_comparison kr_condition : Int32 → Mu → Option (Unit × Mu)} {dd de : Nat} (hL : LyRd y a ) (hdd : 40 ≤ dd) (hde : de + 1 ≤ dd) (hkr_comparison : ∀ (v : Int32) (μ : Mu), Cn l G ⟨"SaltFigures$Reader", "comparison", "(I)V"⟩ prog_6_method_21_code 3 none de [.ref (G.1 + a), .int v] (μ, y) (emy y) rvV tpT (kr_comparison v μ)) (hkr_condition : ∀ (v : Int32) (μ : Mu), Cn l G ⟨"SaltFigures$Reader", "condition", "(I)V"⟩ prog_6_method_20_code 5 none de [.ref (G.1 + a), .int v] (μ, y) (emy y) rvV tpT (kr_condition v μ)) (hX : Ok X l G prog_6_method_20_code 5 none "SaltFigures$Reader") (v1 : Int32)  {kb9 : Int32 → Int32 → Mu → Option (Unit × Mu)}  (hk9 : ∀ (v2 : Int32) (v3 : Int32) (μ : Mu), J X G 5 dd y (emy y) rvV tpT 9 [(0, .ref (G.1 + a)), (1, .int v1), (2, .int v2), (3, .int v3)] [] (μ, y) (kb9 v2 v3 μ)) (v2 : Int32) (v3 : Int32)  (μ : Mu) : J X G 5 dd y (emy y) rvV tpT 9 [(0, .ref (G.1 + a)), (1, .int v1), (2, .int v2), (3, .int v3)] [] (μ, y) (Rd_conditionB_9b a kr_comparison kr_condition  kb9 v1 v2 v3  μ) := by
  unfold Rd_conditionB_9b
  refine J_iload_n (k0 := 3) (pc := 9) 3 hX (by decide +kernel) rfl rfl ?_
  refine J_sipush (pc := 10) (n := 400) (v := 400) hX (by decide +kernel) (by decide +kernel) ?_
  refine J_icmp_ge (pc := 13) (off := 99) (tgt := 112) hX (by decide +kernel) (by decide +kernel) (fun _ => ?_) (fun _ => ?_)
  · exact J_sub [0, 2] _ rfl (jRd_conditionB_112 hL hdd hde hkr_comparison hkr_condition hX v2 μ)
  · refine J_aload_n (k0 := 0) (pc := 16) 0 hX (by decide +kernel) rfl rfl ?_
    refine J_gF (pc := 17) hX (by decide +kernel) fl_Rd_53 hL.1 rfl (fun x1 => ?_)
    refine J_bipush (pc := 20) (n := 6) (v := 6) hX (by decide +kernel) (by decide +kernel) ?_
    refine J_icmp_eq (pc := 22) (off := 11) (tgt := 33) hX (by decide +kernel) (by decide +kernel) (fun _ => ?_) (fun _ => ?_)
    · exact J_sub [0, 1, 2, 3] _ rfl (jRd_conditionB_33 hL hdd hde hkr_comparison hkr_condition hX v1 v2 v3 hk9 μ)
    · refine J_aload_n (k0 := 0) (pc := 25) 0 hX (by decide +kernel) rfl rfl ?_
      refine J_gF (pc := 26) hX (by decide +kernel) fl_Rd_53 hL.1 rfl (fun x2 => ?_)
      refine J_iconst (pc := 29) (n := 5) (v := 5) hX (by decide +kernel) (by decide +kernel) ?_
      refine J_icmp_ne (pc := 30) (off := 82) (tgt := 112) hX (by decide +kernel) (by decide +kernel) (fun _ => ?_) (fun _ => ?_)
      · exact J_sub [0, 2] _ rfl (jRd_conditionB_112 hL hdd hde hkr_comparison hkr_condition hX v2 μ)
      · exact J_sub [0, 1, 2, 3] _ rfl (jRd_conditionB_33 hL hdd hde hkr_comparison hkr_condition hX v1 v2 v3 hk9 μ)
set_option maxRecDepth 100000 in
set_option maxHeartbeats 4000000 in
theorem jRd_conditionB_9 {X : Cx} {l : Launch} {G : Gx} {y : Ly} {a : Nat} {kr_comparison kr_condition : Int32 → Mu → Option (Unit × Mu)} {dd de : Nat} (hL : LyRd y a ) (hdd : 40 ≤ dd) (hde : de + 1 ≤ dd) (hkr_comparison : ∀ (v : Int32) (μ : Mu), Cn l G ⟨"SaltFigures$Reader", "comparison", "(I)V"⟩ prog_6_method_21_code 3 none de [.ref (G.1 + a), .int v] (μ, y) (emy y) rvV tpT (kr_comparison v μ)) (hkr_condition : ∀ (v : Int32) (μ : Mu), Cn l G ⟨"SaltFigures$Reader", "condition", "(I)V"⟩ prog_6_method_20_code 5 none de [.ref (G.1 + a), .int v] (μ, y) (emy y) rvV tpT (kr_condition v μ)) (hX : Ok X l G prog_6_method_20_code 5 none "SaltFigures$Reader") (v1 : Int32)   : ∀ (fu : Nat) (v2 : Int32) (v3 : Int32) (μ : Mu), J X G 5 dd y (emy y) rvV tpT 9 [(0, .ref (G.1 + a)), (1, .int v1), (2, .int v2), (3, .int v3)] [] (μ, y) (Rd_conditionB_9 a kr_comparison kr_condition  v1 fu v2 v3 μ) := by
  intro fu
  induction fu with
  | zero => intros; exact J_none
  | succ fu ih => intro v2 v3 μ; exact jRd_conditionB_9b hL hdd hde hkr_comparison hkr_condition hX v1  ih v2 v3 μ
set_option maxRecDepth 100000 in
set_option maxHeartbeats 4000000 in
theorem jRd_conditionB {X : Cx} {l : Launch} {G : Gx} {y : Ly} {a : Nat} {kr_comparison kr_condition : Int32 → Mu → Option (Unit × Mu)} {dd de : Nat} (hL : LyRd y a ) (hdd : 40 ≤ dd) (hde : de + 1 ≤ dd) (hkr_comparison : ∀ (v : Int32) (μ : Mu), Cn l G ⟨"SaltFigures$Reader", "comparison", "(I)V"⟩ prog_6_method_21_code 3 none de [.ref (G.1 + a), .int v] (μ, y) (emy y) rvV tpT (kr_comparison v μ)) (hkr_condition : ∀ (v : Int32) (μ : Mu), Cn l G ⟨"SaltFigures$Reader", "condition", "(I)V"⟩ prog_6_method_20_code 5 none de [.ref (G.1 + a), .int v] (μ, y) (emy y) rvV tpT (kr_condition v μ)) (hX : Ok X l G prog_6_method_20_code 5 none "SaltFigures$Reader") (v1 : Int32) (μ : Mu) : J X G 5 dd y (emy y) rvV tpT 0 [(0, .ref (G.1 + a)), (1, .int v1)] [] (μ, y) (Rd_conditionB a kr_comparison kr_condition v1 μ) := by
  unfold Rd_conditionB
  refine J_iconst (pc := 0) (n := 0) (v := 0) hX (by decide +kernel) (by decide +kernel) ?_
  refine J_istore_n (k0 := 2) (pc := 1) [(2, .int 0), (0, .ref (G.1 + a)), (1, .int v1)] hX (by decide +kernel) rfl (by decide) rfl ?_
  refine J_aload_n (k0 := 0) (pc := 2) 1 hX (by decide +kernel) rfl rfl ?_
  refine J_iload_n (k0 := 1) (pc := 3) 2 hX (by decide +kernel) rfl rfl ?_
  refine J_cVv (pc := 4) (idx := 125) [.int v1] hX (by decide +kernel) (mq mt_4 40 (by decide +kernel)) mv_Rd_comparison hL.1 rfl rfl (Nat.le_of_ble_eq_true rfl) hde (hkr_comparison v1 μ) (fun μ1 => ?_)
  refine J_iconst (pc := 7) (n := 0) (v := 0) hX (by decide +kernel) (by decide +kernel) ?_
  refine J_istore_n (k0 := 3) (pc := 8) [(3, .int 0), (2, .int 0), (0, .ref (G.1 + a)), (1, .int v1)] hX (by decide +kernel) rfl (by decide) rfl ?_
  exact J_sub [2, 3, 1, 0] _ rfl (jRd_conditionB_9 hL hdd hde hkr_comparison hkr_condition hX v1 FU 0 0 μ1)
set_option maxRecDepth 100000 in
set_option maxHeartbeats 4000000 in
theorem c_Rd_conditionB {l : Launch} {G : Gx} {y : Ly} {a : Nat} {kr_comparison kr_condition : Int32 → Mu → Option (Unit × Mu)} {dd de : Nat} (hL : LyRd y a ) (hdd : 40 ≤ dd) (hde : de + 1 ≤ dd) (hkr_comparison : ∀ (v : Int32) (μ : Mu), Cn l G ⟨"SaltFigures$Reader", "comparison", "(I)V"⟩ prog_6_method_21_code 3 none de [.ref (G.1 + a), .int v] (μ, y) (emy y) rvV tpT (kr_comparison v μ)) (hkr_condition : ∀ (v : Int32) (μ : Mu), Cn l G ⟨"SaltFigures$Reader", "condition", "(I)V"⟩ prog_6_method_20_code 5 none de [.ref (G.1 + a), .int v] (μ, y) (emy y) rvV tpT (kr_condition v μ)) (v1 : Int32) (μ : Mu) : Cn l G ⟨"SaltFigures$Reader", "condition", "(I)V"⟩ prog_6_method_20_code 5 none dd [.ref (G.1 + a), .int v1] (μ, y) (emy y) rvV tpT (Rd_conditionB a kr_comparison kr_condition v1 μ) := cn_of (by decide +kernel) (Nat.le_of_ble_eq_true rfl) (fun _ _ _ => ⟨List.prefix_refl _, trivial⟩) (fun X hX _ => jRd_conditionB hL hdd hde hkr_comparison hkr_condition hX v1 μ)
def Rd_cc (a : Nat) : Nat → Bool → Int32 → Mu → Option (Unit × Mu)
  | 0, _, _, _ => none
  | n + 1, true, v, μ => Rd_comparisonB a (Rd_cc a n true) (Rd_cc a n false) v μ
  | n + 1, false, v, μ => Rd_conditionB a (Rd_cc a n true) (Rd_cc a n false) v μ
theorem c_Rd_cc {l : Launch} {G : Gx} {y : Ly} {a : Nat} (hL : LyRd y a) : ∀ n : Nat, (∀ (v : Int32) (μ : Mu), Cn l G ⟨"SaltFigures$Reader", "comparison", "(I)V"⟩ prog_6_method_21_code 3 none (40 + n) [.ref (G.1 + a), .int v] (μ, y) (emy y) rvV tpT (Rd_cc a n true v μ)) ∧ (∀ (v : Int32) (μ : Mu), Cn l G ⟨"SaltFigures$Reader", "condition", "(I)V"⟩ prog_6_method_20_code 5 none (40 + n) [.ref (G.1 + a), .int v] (μ, y) (emy y) rvV tpT (Rd_cc a n false v μ)) := by
  intro n
  induction n with
  | zero => exact ⟨fun v μ r u h => (by cases h), fun v μ r u h => (by cases h)⟩
  | succ n ih => exact ⟨fun v μ => c_Rd_comparisonB hL (by omega) (Nat.le_refl _) ih.1 ih.2 v μ, fun v μ => c_Rd_conditionB hL (by omega) (Nat.le_refl _) ih.1 ih.2 v μ⟩
def Rd_condition (a : Nat) (v1 : Int32) (μ : Mu) : Option (Unit × Mu) := Rd_cc a 60 false v1 μ
theorem c_Rd_condition {l : Launch} {G : Gx} {y : Ly} {a : Nat} (hL : LyRd y a) (v : Int32) (μ : Mu) : Cn l G ⟨"SaltFigures$Reader", "condition", "(I)V"⟩ prog_6_method_20_code 5 none 100 [.ref (G.1 + a), .int v] (μ, y) (emy y) rvV tpT (Rd_condition a v μ) := (c_Rd_cc hL 60).2 v μ

def Lw_lineEnds (a : Nat)  (μ : Mu) : Option (Unit × Mu) := gF μ a 0 (fun x1 => (if 16 ≤ x1 then some ((), μ) else gF μ a 0 (fun x2 => gF μ a 1 (fun x3 => stA μ (a + 4) 16 x2 x3 (fun μ4 => gF μ4 a 0 (fun x5 => pF μ4 a 0 (x5 + 1) (fun μ6 => some ((), μ6))))))))
set_option maxRecDepth 100000 in
set_option maxHeartbeats 4000000 in
theorem jLw_lineEnds {X : Cx} {l : Launch} {G : Gx} {y : Ly} {a : Nat} (hL : LyLw y a ) (hX : Ok X l G prog_4_method_6_code 1 none "SaltFigures$Law")  (μ : Mu) : J X G 1 1 y (emy y) rvV tpT 0 [(0, .ref (G.1 + a))] [] (μ, y) (Lw_lineEnds a  μ) := by
  unfold Lw_lineEnds
  refine J_aload_n (k0 := 0) (pc := 0) 0 hX (by decide +kernel) rfl rfl ?_
  refine J_gF (pc := 1) hX (by decide +kernel) fl_Lw_30 hL.1 rfl (fun x1 => ?_)
  refine J_bipush (pc := 4) (n := 16) (v := 16) hX (by decide +kernel) (by decide +kernel) ?_
  refine J_icmp_ge (pc := 6) (off := 26) (tgt := 32) hX (by decide +kernel) (by decide +kernel) (fun _ => ?_) (fun _ => ?_)
  · exact J_vret (pc := 32) hX (by decide +kernel) rfl trivial
  · refine J_aload_n (k0 := 0) (pc := 9) 0 hX (by decide +kernel) rfl rfl ?_
    refine J_gr (pc := 10) hX (by decide +kernel) fl_Lw_21 hL.1 rfl hL.2.2.2.2.1.1 ?_
    refine J_aload_n (k0 := 0) (pc := 13) 0 hX (by decide +kernel) rfl rfl ?_
    refine J_gF (pc := 14) hX (by decide +kernel) fl_Lw_30 hL.1 rfl (fun x2 => ?_)
    refine J_aload_n (k0 := 0) (pc := 17) 0 hX (by decide +kernel) rfl rfl ?_
    refine J_gF (pc := 18) hX (by decide +kernel) fl_Lw_34 hL.1 rfl (fun x3 => ?_)
    refine J_stA (pc := 21) hX (by decide +kernel) hL.2.2.2.2.1.2 (fun μ4 => ?_)
    refine J_aload_n (k0 := 0) (pc := 22) 0 hX (by decide +kernel) rfl rfl ?_
    refine J_dup (pc := 23) hX (by decide +kernel) rfl ?_
    refine J_gF (pc := 24) hX (by decide +kernel) fl_Lw_30 hL.1 rfl (fun x5 => ?_)
    refine J_iconst (pc := 27) (n := 1) (v := 1) hX (by decide +kernel) (by decide +kernel) ?_
    refine J_iadd (pc := 28) hX (by decide +kernel) ?_
    refine J_pF (pc := 29) hX (by decide +kernel) fl_Lw_30 hL.1 rfl (fun μ6 => ?_)
    exact J_vret (pc := 32) hX (by decide +kernel) rfl trivial
set_option maxRecDepth 100000 in
set_option maxHeartbeats 4000000 in
theorem c_Lw_lineEnds {l : Launch} {G : Gx} {y : Ly} {a : Nat} (hL : LyLw y a )  (μ : Mu) : Cn l G ⟨"SaltFigures$Law", "lineEnds", "()V"⟩ prog_4_method_6_code 1 none 1 [.ref (G.1 + a)] (μ, y) (emy y) rvV tpT (Lw_lineEnds a  μ) := cn_of (by decide +kernel) (Nat.le_of_ble_eq_true rfl) (fun _ _ _ => ⟨List.prefix_refl _, trivial⟩) (fun X hX _ => jLw_lineEnds hL hX  μ)

def Rd_ends (a : Nat) (v1 : Int32) (v2 : Int32) (v3 : Int32) (v4 : Int32) (μ : Mu) : Option (Unit × Mu) := cl (Rd_take a 59 μ) (fun _ μ1 => gF μ1 a 8 (fun x2 => (if x2 = 0 then gF μ1 a 10 (fun x3 => (if x3 < 0 then some ((), μ1) else gF μ1 a 10 (fun x4 => (if x4 < 16 then gF μ1 a 10 (fun x5 => stA μ1 (a + 9) 64 (x5 * 4) v1 (fun μ6 => stA μ6 (a + 9) 64 ((x5 * 4) + 1) v2 (fun μ7 => stA μ7 (a + 9) 64 ((x5 * 4) + 2) v3 (fun μ8 => stA μ8 (a + 9) 64 ((x5 * 4) + 3) v4 (fun μ9 => gF μ9 a 10 (fun x10 => pF μ9 a 10 (x10 + 1) (fun μ11 => some ((), μ11)))))))) else some ((), μ1))))) else some ((), μ1))))
set_option maxRecDepth 100000 in
set_option maxHeartbeats 4000000 in
theorem jRd_ends {X : Cx} {l : Launch} {G : Gx} {y : Ly} {a : Nat} (hL : LyRd y a ) (hX : Ok X l G prog_6_method_15_code 6 none "SaltFigures$Reader") (v1 : Int32) (v2 : Int32) (v3 : Int32) (v4 : Int32) (μ : Mu) : J X G 6 12 y (emy y) rvV tpT 0 [(0, .ref (G.1 + a)), (1, .int v1), (2, .int v2), (3, .int v3), (4, .int v4)] [] (μ, y) (Rd_ends a v1 v2 v3 v4 μ) := by
  unfold Rd_ends
  refine J_aload_n (k0 := 0) (pc := 0) 0 hX (by decide +kernel) rfl rfl ?_
  refine J_bipush (pc := 1) (n := 59) (v := 59) hX (by decide +kernel) (by decide +kernel) ?_
  refine J_cVv (pc := 3) (idx := 94) [.int 59] hX (by decide +kernel) (mq mt_4 44 (by decide +kernel)) mv_Rd_take hL.1 rfl rfl (Nat.le_of_ble_eq_true rfl) (Nat.le_of_ble_eq_true rfl) (c_Rd_take hL 59 μ) (fun μ1 => ?_)
  refine J_aload_n (k0 := 0) (pc := 6) 0 hX (by decide +kernel) rfl rfl ?_
  refine J_gF (pc := 7) hX (by decide +kernel) fl_Rd_38 hL.1 rfl (fun x2 => ?_)
  refine J_if_ne (pc := 10) (off := 19) (tgt := 29) hX (by decide +kernel) (by decide +kernel) (fun _ => ?_) (fun _ => ?_)
  · exact J_vret (pc := 29) hX (by decide +kernel) rfl trivial
  · refine J_aload_n (k0 := 0) (pc := 13) 0 hX (by decide +kernel) rfl rfl ?_
    refine J_gF (pc := 14) hX (by decide +kernel) fl_Rd_41 hL.1 rfl (fun x3 => ?_)
    refine J_if_lt (pc := 17) (off := 12) (tgt := 29) hX (by decide +kernel) (by decide +kernel) (fun _ => ?_) (fun _ => ?_)
    · exact J_vret (pc := 29) hX (by decide +kernel) rfl trivial
    · refine J_aload_n (k0 := 0) (pc := 20) 0 hX (by decide +kernel) rfl rfl ?_
      refine J_gF (pc := 21) hX (by decide +kernel) fl_Rd_41 hL.1 rfl (fun x4 => ?_)
      refine J_bipush (pc := 24) (n := 16) (v := 16) hX (by decide +kernel) (by decide +kernel) ?_
      refine J_icmp_lt (pc := 26) (off := 4) (tgt := 30) hX (by decide +kernel) (by decide +kernel) (fun _ => ?_) (fun _ => ?_)
      · refine J_aload_n (k0 := 0) (pc := 30) 0 hX (by decide +kernel) rfl rfl ?_
        refine J_gF (pc := 31) hX (by decide +kernel) fl_Rd_41 hL.1 rfl (fun x5 => ?_)
        refine J_iconst (pc := 34) (n := 4) (v := 4) hX (by decide +kernel) (by decide +kernel) ?_
        refine J_imul (pc := 35) hX (by decide +kernel) ?_
        refine J_istore (pc := 36) [(5, .int (x5 * 4)), (0, .ref (G.1 + a)), (1, .int v1), (2, .int v2), (3, .int v3), (4, .int v4)] hX (by decide +kernel) (by decide) rfl ?_
        refine J_aload_n (k0 := 0) (pc := 38) 1 hX (by decide +kernel) rfl rfl ?_
        refine J_gr (pc := 39) hX (by decide +kernel) fl_Rd_26 hL.1 rfl hL.2.2.2.1.1 ?_
        refine J_iload (pc := 42) 0 hX (by decide +kernel) rfl ?_
        refine J_iload_n (k0 := 1) (pc := 44) 2 hX (by decide +kernel) rfl rfl ?_
        refine J_stA (pc := 45) hX (by decide +kernel) hL.2.2.2.1.2 (fun μ6 => ?_)
        refine J_aload_n (k0 := 0) (pc := 46) 1 hX (by decide +kernel) rfl rfl ?_
        refine J_gr (pc := 47) hX (by decide +kernel) fl_Rd_26 hL.1 rfl hL.2.2.2.1.1 ?_
        refine J_iload (pc := 50) 0 hX (by decide +kernel) rfl ?_
        refine J_iconst (pc := 52) (n := 1) (v := 1) hX (by decide +kernel) (by decide +kernel) ?_
        refine J_iadd (pc := 53) hX (by decide +kernel) ?_
        refine J_iload_n (k0 := 2) (pc := 54) 3 hX (by decide +kernel) rfl rfl ?_
        refine J_stA (pc := 55) hX (by decide +kernel) hL.2.2.2.1.2 (fun μ7 => ?_)
        refine J_aload_n (k0 := 0) (pc := 56) 1 hX (by decide +kernel) rfl rfl ?_
        refine J_gr (pc := 57) hX (by decide +kernel) fl_Rd_26 hL.1 rfl hL.2.2.2.1.1 ?_
        refine J_iload (pc := 60) 0 hX (by decide +kernel) rfl ?_
        refine J_iconst (pc := 62) (n := 2) (v := 2) hX (by decide +kernel) (by decide +kernel) ?_
        refine J_iadd (pc := 63) hX (by decide +kernel) ?_
        refine J_iload_n (k0 := 3) (pc := 64) 4 hX (by decide +kernel) rfl rfl ?_
        refine J_stA (pc := 65) hX (by decide +kernel) hL.2.2.2.1.2 (fun μ8 => ?_)
        refine J_aload_n (k0 := 0) (pc := 66) 1 hX (by decide +kernel) rfl rfl ?_
        refine J_gr (pc := 67) hX (by decide +kernel) fl_Rd_26 hL.1 rfl hL.2.2.2.1.1 ?_
        refine J_iload (pc := 70) 0 hX (by decide +kernel) rfl ?_
        refine J_iconst (pc := 72) (n := 3) (v := 3) hX (by decide +kernel) (by decide +kernel) ?_
        refine J_iadd (pc := 73) hX (by decide +kernel) ?_
        refine J_iload (pc := 74) 5 hX (by decide +kernel) rfl ?_
        refine J_stA (pc := 76) hX (by decide +kernel) hL.2.2.2.1.2 (fun μ9 => ?_)
        refine J_aload_n (k0 := 0) (pc := 77) 1 hX (by decide +kernel) rfl rfl ?_
        refine J_dup (pc := 78) hX (by decide +kernel) rfl ?_
        refine J_gF (pc := 79) hX (by decide +kernel) fl_Rd_41 hL.1 rfl (fun x10 => ?_)
        refine J_iconst (pc := 82) (n := 1) (v := 1) hX (by decide +kernel) (by decide +kernel) ?_
        refine J_iadd (pc := 83) hX (by decide +kernel) ?_
        refine J_pF (pc := 84) hX (by decide +kernel) fl_Rd_41 hL.1 rfl (fun μ11 => ?_)
        exact J_vret (pc := 87) hX (by decide +kernel) rfl trivial
      · exact J_vret (pc := 29) hX (by decide +kernel) rfl trivial
set_option maxRecDepth 100000 in
set_option maxHeartbeats 4000000 in
theorem c_Rd_ends {l : Launch} {G : Gx} {y : Ly} {a : Nat} (hL : LyRd y a ) (v1 : Int32) (v2 : Int32) (v3 : Int32) (v4 : Int32) (μ : Mu) : Cn l G ⟨"SaltFigures$Reader", "ends", "(IIII)V"⟩ prog_6_method_15_code 6 none 12 [.ref (G.1 + a), .int v1, .int v2, .int v3, .int v4] (μ, y) (emy y) rvV tpT (Rd_ends a v1 v2 v3 v4 μ) := cn_of (by decide +kernel) (Nat.le_of_ble_eq_true rfl) (fun _ _ _ => ⟨List.prefix_refl _, trivial⟩) (fun X hX _ => jRd_ends hL hX v1 v2 v3 v4 μ)

def Rd_readLaw_94 (a : Nat) (kb9 : Int32 → Mu → Option (Unit × Mu))  (v1 : Int32)  (μ : Mu) : Option (Unit × Mu) := cl (Lw_lineEnds (a + 2) μ) (fun _ μ1 => cl (Rd_ends a ((-1)) ((-1)) ((-1)) ((-1)) μ1) (fun _ μ2 => kb9 (v1 + 1) μ2))
def Rd_readLaw_51 (a : Nat) (kb9 : Int32 → Mu → Option (Unit × Mu))  (v1 : Int32) (v2 : Int32) (s0 : Int32) (μ : Mu) : Option (Unit × Mu) := cl (Rd_begins a s0 μ) (fun x2 μ1 => (if x2 = 0 then some ((), μ1) else cl (Lw_begin (a + 2) v2 μ1) (fun _ μ3 => cl (Rd_sum a μ3) (fun _ μ4 => cl (Lw_sumEnds (a + 2) μ4) (fun _ μ5 => gF μ5 a 3 (fun x6 => (if x6 = 4 then cl (Rd_next a μ5) (fun _ μ7 => cl (Rd_condition a 0 μ7) (fun _ μ8 => Rd_readLaw_94 a kb9 v1 μ8)) else Rd_readLaw_94 a kb9 v1 μ5)))))))
def Rd_readLaw_40 (a : Nat) (kb9 : Int32 → Mu → Option (Unit × Mu))  (v1 : Int32) (v2 : Int32) (s0 : Int32) (μ : Mu) : Option (Unit × Mu) := (if s0 = 0 then Rd_readLaw_51 a kb9 v1 v2 1 μ else Rd_readLaw_51 a kb9 v1 v2 v2 μ)
def Rd_readLaw_35 (a : Nat) (kb9 : Int32 → Mu → Option (Unit × Mu))  (v1 : Int32) (v2 : Int32)  (μ : Mu) : Option (Unit × Mu) := Rd_readLaw_40 a kb9 v1 v2 1 μ
def Rd_readLaw_9b (a : Nat)  (kb9 : Int32 → Mu → Option (Unit × Mu))  (v1 : Int32)  (μ : Mu) : Option (Unit × Mu) := (if 16 < v1 then some ((), μ) else gF μ a 3 (fun x1 => (if x1 = 1 then Rd_readLaw_35 a kb9 v1 x1 μ else (if x1 = 2 then Rd_readLaw_35 a kb9 v1 x1 μ else (if x1 = 3 then Rd_readLaw_35 a kb9 v1 x1 μ else Rd_readLaw_40 a kb9 v1 x1 0 μ)))))
def Rd_readLaw_9 (a : Nat)   (fu : Nat) : Int32 → Mu → Option (Unit × Mu) := lp (fun kb => Rd_readLaw_9b a  kb ) (fun _ _ => none) fu
def Rd_readLaw (a : Nat)  (μ : Mu) : Option (Unit × Mu) := cl (Lw_clear (a + 2) μ) (fun _ μ1 => Rd_readLaw_9 a FU 0 μ1)
set_option maxRecDepth 100000 in
set_option maxHeartbeats 4000000 in
theorem jRd_readLaw_94 {X : Cx} {l : Launch} {G : Gx} {y : Ly} {a : Nat} (hL : LyRd y a ) (hX : Ok X l G prog_6_method_19_code 4 none "SaltFigures$Reader")  (v1 : Int32)  {kb9 : Int32 → Mu → Option (Unit × Mu)} (hk9 : ∀ (v1 : Int32) (μ : Mu), J X G 4 101 y (emy y) rvV tpT 9 [(0, .ref (G.1 + a)), (1, .int v1)] [] (μ, y) (kb9 v1 μ)) (μ : Mu) : J X G 4 101 y (emy y) rvV tpT 94 [(0, .ref (G.1 + a)), (1, .int v1)] [] (μ, y) (Rd_readLaw_94 a kb9  v1  μ) := by
  unfold Rd_readLaw_94
  refine J_aload_n (k0 := 0) (pc := 94) 0 hX (by decide +kernel) rfl rfl ?_
  refine J_gr (pc := 95) hX (by decide +kernel) fl_Rd_22 hL.1 rfl hL.2.2.1.1 ?_
  refine J_cVv (pc := 98) (idx := 122) [] hX (by decide +kernel) (mq mt_4 48 (by decide +kernel)) mv_Lw_lineEnds hL.2.2.1.2.1 rfl rfl (Nat.le_of_ble_eq_true rfl) (Nat.le_of_ble_eq_true rfl) (c_Lw_lineEnds hL.2.2.1.2 μ) (fun μ1 => ?_)
  refine J_aload_n (k0 := 0) (pc := 101) 0 hX (by decide +kernel) rfl rfl ?_
  refine J_iconst (pc := 102) (n := -1) (v := (-1)) hX (by decide +kernel) (by decide +kernel) ?_
  refine J_iconst (pc := 103) (n := -1) (v := (-1)) hX (by decide +kernel) (by decide +kernel) ?_
  refine J_iconst (pc := 104) (n := -1) (v := (-1)) hX (by decide +kernel) (by decide +kernel) ?_
  refine J_iconst (pc := 105) (n := -1) (v := (-1)) hX (by decide +kernel) (by decide +kernel) ?_
  refine J_cVv (pc := 106) (idx := 103) [.int ((-1)), .int ((-1)), .int ((-1)), .int ((-1))] hX (by decide +kernel) (mq mt_4 52 (by decide +kernel)) mv_Rd_ends hL.1 rfl rfl (Nat.le_of_ble_eq_true rfl) (Nat.le_of_ble_eq_true rfl) (c_Rd_ends hL ((-1)) ((-1)) ((-1)) ((-1)) μ1) (fun μ2 => ?_)
  refine J_iinc (pc := 109) (n := 1) 1 [(1, .int (v1 + 1)), (0, .ref (G.1 + a))] hX (by decide +kernel) rfl rfl (by decide) rfl ?_
  refine J_goto (pc := 112) (off := -103) (tgt := 9) hX (by decide +kernel) (by decide +kernel) ?_
  exact J_sub [1, 0] _ rfl (hk9 (v1 + 1) μ2)
set_option maxRecDepth 100000 in
set_option maxHeartbeats 4000000 in
theorem jRd_readLaw_51 {X : Cx} {l : Launch} {G : Gx} {y : Ly} {a : Nat} (hL : LyRd y a ) (hX : Ok X l G prog_6_method_19_code 4 none "SaltFigures$Reader")  (v1 : Int32) (v2 : Int32) (s0 : Int32) {kb9 : Int32 → Mu → Option (Unit × Mu)} (hk9 : ∀ (v1 : Int32) (μ : Mu), J X G 4 101 y (emy y) rvV tpT 9 [(0, .ref (G.1 + a)), (1, .int v1)] [] (μ, y) (kb9 v1 μ)) (μ : Mu) : J X G 4 101 y (emy y) rvV tpT 51 [(0, .ref (G.1 + a)), (1, .int v1), (2, .int v2)] [.int s0, .ref (G.1 + a)] (μ, y) (Rd_readLaw_51 a kb9  v1 v2 s0 μ) := by
  unfold Rd_readLaw_51
  refine J_cVi (pc := 51) (idx := 97) [.int s0] hX (by decide +kernel) (mq mt_4 4 (by decide +kernel)) mv_Rd_begins hL.1 rfl rfl (Nat.le_of_ble_eq_true rfl) (Nat.le_of_ble_eq_true rfl) (c_Rd_begins hL s0 μ) (fun x2 μ1 => ?_)
  refine J_if_ne (pc := 54) (off := 4) (tgt := 58) hX (by decide +kernel) (by decide +kernel) (fun _ => ?_) (fun _ => ?_)
  · refine J_aload_n (k0 := 0) (pc := 58) 0 hX (by decide +kernel) rfl rfl ?_
    refine J_gr (pc := 59) hX (by decide +kernel) fl_Rd_22 hL.1 rfl hL.2.2.1.1 ?_
    refine J_iload_n (k0 := 2) (pc := 62) 2 hX (by decide +kernel) rfl rfl ?_
    refine J_cVv (pc := 63) (idx := 110) [.int v2] hX (by decide +kernel) (mq mt_4 12 (by decide +kernel)) mv_Lw_begin hL.2.2.1.2.1 rfl rfl (Nat.le_of_ble_eq_true rfl) (Nat.le_of_ble_eq_true rfl) (c_Lw_begin hL.2.2.1.2 v2 μ1) (fun μ3 => ?_)
    refine J_aload_n (k0 := 0) (pc := 66) 0 hX (by decide +kernel) rfl rfl ?_
    refine J_cVv (pc := 67) (idx := 113) [] hX (by decide +kernel) (mq mt_4 16 (by decide +kernel)) mv_Rd_sum hL.1 rfl rfl (Nat.le_of_ble_eq_true rfl) (Nat.le_of_ble_eq_true rfl) (c_Rd_sum hL μ3) (fun μ4 => ?_)
    refine J_aload_n (k0 := 0) (pc := 70) 0 hX (by decide +kernel) rfl rfl ?_
    refine J_gr (pc := 71) hX (by decide +kernel) fl_Rd_22 hL.1 rfl hL.2.2.1.1 ?_
    refine J_cVv (pc := 74) (idx := 116) [] hX (by decide +kernel) (mq mt_4 32 (by decide +kernel)) mv_Lw_sumEnds hL.2.2.1.2.1 rfl rfl (Nat.le_of_ble_eq_true rfl) (Nat.le_of_ble_eq_true rfl) (c_Lw_sumEnds hL.2.2.1.2 μ4) (fun μ5 => ?_)
    refine J_aload_n (k0 := 0) (pc := 77) 0 hX (by decide +kernel) rfl rfl ?_
    refine J_gF (pc := 78) hX (by decide +kernel) fl_Rd_53 hL.1 rfl (fun x6 => ?_)
    refine J_iconst (pc := 81) (n := 4) (v := 4) hX (by decide +kernel) (by decide +kernel) ?_
    refine J_icmp_ne (pc := 82) (off := 12) (tgt := 94) hX (by decide +kernel) (by decide +kernel) (fun _ => ?_) (fun _ => ?_)
    · exact J_sub [0, 1] _ rfl (jRd_readLaw_94 hL hX v1 hk9 μ5)
    · refine J_aload_n (k0 := 0) (pc := 85) 0 hX (by decide +kernel) rfl rfl ?_
      refine J_cVv (pc := 86) (idx := 47) [] hX (by decide +kernel) (mq mt_3 117 (by decide +kernel)) mv_Rd_next hL.1 rfl rfl (Nat.le_of_ble_eq_true rfl) (Nat.le_of_ble_eq_true rfl) (c_Rd_next hL μ5) (fun μ7 => ?_)
      refine J_aload_n (k0 := 0) (pc := 89) 0 hX (by decide +kernel) rfl rfl ?_
      refine J_iconst (pc := 90) (n := 0) (v := 0) hX (by decide +kernel) (by decide +kernel) ?_
      refine J_cVv (pc := 91) (idx := 119) [.int 0] hX (by decide +kernel) (mq mt_4 36 (by decide +kernel)) mv_Rd_condition hL.1 rfl rfl (Nat.le_of_ble_eq_true rfl) (Nat.le_of_ble_eq_true rfl) (c_Rd_condition hL 0 μ7) (fun μ8 => ?_)
      exact J_sub [0, 1] _ rfl (jRd_readLaw_94 hL hX v1 hk9 μ8)
  · exact J_vret (pc := 57) hX (by decide +kernel) rfl trivial
set_option maxRecDepth 100000 in
set_option maxHeartbeats 4000000 in
theorem jRd_readLaw_40 {X : Cx} {l : Launch} {G : Gx} {y : Ly} {a : Nat} (hL : LyRd y a ) (hX : Ok X l G prog_6_method_19_code 4 none "SaltFigures$Reader")  (v1 : Int32) (v2 : Int32) (s0 : Int32) {kb9 : Int32 → Mu → Option (Unit × Mu)} (hk9 : ∀ (v1 : Int32) (μ : Mu), J X G 4 101 y (emy y) rvV tpT 9 [(0, .ref (G.1 + a)), (1, .int v1)] [] (μ, y) (kb9 v1 μ)) (μ : Mu) : J X G 4 101 y (emy y) rvV tpT 40 [(0, .ref (G.1 + a)), (1, .int v1), (2, .int v2)] [.int s0] (μ, y) (Rd_readLaw_40 a kb9  v1 v2 s0 μ) := by
  unfold Rd_readLaw_40
  refine J_istore_n (k0 := 3) (pc := 40) [(3, .int s0), (0, .ref (G.1 + a)), (1, .int v1), (2, .int v2)] hX (by decide +kernel) rfl (by decide) rfl ?_
  refine J_aload_n (k0 := 0) (pc := 41) 1 hX (by decide +kernel) rfl rfl ?_
  refine J_iload_n (k0 := 3) (pc := 42) 0 hX (by decide +kernel) rfl rfl ?_
  refine J_if_eq (pc := 43) (off := 7) (tgt := 50) hX (by decide +kernel) (by decide +kernel) (fun _ => ?_) (fun _ => ?_)
  · refine J_iconst (pc := 50) (n := 1) (v := 1) hX (by decide +kernel) (by decide +kernel) ?_
    exact J_sub [1, 2, 3] _ rfl (jRd_readLaw_51 hL hX v1 v2 1 hk9 μ)
  · refine J_iload_n (k0 := 2) (pc := 46) 3 hX (by decide +kernel) rfl rfl ?_
    refine J_goto (pc := 47) (off := 4) (tgt := 51) hX (by decide +kernel) (by decide +kernel) ?_
    exact J_sub [1, 2, 3] _ rfl (jRd_readLaw_51 hL hX v1 v2 v2 hk9 μ)
set_option maxRecDepth 100000 in
set_option maxHeartbeats 4000000 in
theorem jRd_readLaw_35 {X : Cx} {l : Launch} {G : Gx} {y : Ly} {a : Nat} (hL : LyRd y a ) (hX : Ok X l G prog_6_method_19_code 4 none "SaltFigures$Reader")  (v1 : Int32) (v2 : Int32)  {kb9 : Int32 → Mu → Option (Unit × Mu)} (hk9 : ∀ (v1 : Int32) (μ : Mu), J X G 4 101 y (emy y) rvV tpT 9 [(0, .ref (G.1 + a)), (1, .int v1)] [] (μ, y) (kb9 v1 μ)) (μ : Mu) : J X G 4 101 y (emy y) rvV tpT 35 [(0, .ref (G.1 + a)), (1, .int v1), (2, .int v2)] [] (μ, y) (Rd_readLaw_35 a kb9  v1 v2  μ) := by
  unfold Rd_readLaw_35
  refine J_iconst (pc := 35) (n := 1) (v := 1) hX (by decide +kernel) (by decide +kernel) ?_
  refine J_goto (pc := 36) (off := 4) (tgt := 40) hX (by decide +kernel) (by decide +kernel) ?_
  exact J_sub [0, 1, 2] _ rfl (jRd_readLaw_40 hL hX v1 v2 1 hk9 μ)
set_option maxRecDepth 100000 in
set_option maxHeartbeats 4000000 in
theorem jRd_readLaw_9b {X : Cx} {l : Launch} {G : Gx} {y : Ly} {a : Nat} (hL : LyRd y a ) (hX : Ok X l G prog_6_method_19_code 4 none "SaltFigures$Reader")   {kb9 : Int32 → Mu → Option (Unit × Mu)}  (hk9 : ∀ (v1 : Int32) (μ : Mu), J X G 4 101 y (emy y) rvV tpT 9 [(0, .ref (G.1 + a)), (1, .int v1)] [] (μ, y) (kb9 v1 μ)) (v1 : Int32)  (μ : Mu) : J X G 4 101 y (emy y) rvV tpT 9 [(0, .ref (G.1 + a)), (1, .int v1)] [] (μ, y) (Rd_readLaw_9b a  kb9  v1  μ) := by
  unfold Rd_readLaw_9b
  refine J_iload_n (k0 := 1) (pc := 9) 1 hX (by decide +kernel) rfl rfl ?_
  refine J_bipush (pc := 10) (n := 16) (v := 16) hX (by decide +kernel) (by decide +kernel) ?_
  refine J_icmp_gt (pc := 12) (off := 103) (tgt := 115) hX (by decide +kernel) (by decide +kernel) (fun _ => ?_) (fun _ => ?_)
  · exact J_vret (pc := 115) hX (by decide +kernel) rfl trivial
  · refine J_aload_n (k0 := 0) (pc := 15) 0 hX (by decide +kernel) rfl rfl ?_
    refine J_gF (pc := 16) hX (by decide +kernel) fl_Rd_53 hL.1 rfl (fun x1 => ?_)
    refine J_istore_n (k0 := 2) (pc := 19) [(2, .int x1), (0, .ref (G.1 + a)), (1, .int v1)] hX (by decide +kernel) rfl (by decide) rfl ?_
    refine J_iload_n (k0 := 2) (pc := 20) 0 hX (by decide +kernel) rfl rfl ?_
    refine J_iconst (pc := 21) (n := 1) (v := 1) hX (by decide +kernel) (by decide +kernel) ?_
    refine J_icmp_eq (pc := 22) (off := 13) (tgt := 35) hX (by decide +kernel) (by decide +kernel) (fun _ => ?_) (fun _ => ?_)
    · exact J_sub [1, 2, 0] _ rfl (jRd_readLaw_35 hL hX v1 x1 hk9 μ)
    · refine J_iload_n (k0 := 2) (pc := 25) 0 hX (by decide +kernel) rfl rfl ?_
      refine J_iconst (pc := 26) (n := 2) (v := 2) hX (by decide +kernel) (by decide +kernel) ?_
      refine J_icmp_eq (pc := 27) (off := 8) (tgt := 35) hX (by decide +kernel) (by decide +kernel) (fun _ => ?_) (fun _ => ?_)
      · exact J_sub [1, 2, 0] _ rfl (jRd_readLaw_35 hL hX v1 x1 hk9 μ)
      · refine J_iload_n (k0 := 2) (pc := 30) 0 hX (by decide +kernel) rfl rfl ?_
        refine J_iconst (pc := 31) (n := 3) (v := 3) hX (by decide +kernel) (by decide +kernel) ?_
        refine J_icmp_ne (pc := 32) (off := 7) (tgt := 39) hX (by decide +kernel) (by decide +kernel) (fun _ => ?_) (fun _ => ?_)
        · refine J_iconst (pc := 39) (n := 0) (v := 0) hX (by decide +kernel) (by decide +kernel) ?_
          exact J_sub [1, 2, 0] _ rfl (jRd_readLaw_40 hL hX v1 x1 0 hk9 μ)
        · exact J_sub [1, 2, 0] _ rfl (jRd_readLaw_35 hL hX v1 x1 hk9 μ)
set_option maxRecDepth 100000 in
set_option maxHeartbeats 4000000 in
theorem jRd_readLaw_9 {X : Cx} {l : Launch} {G : Gx} {y : Ly} {a : Nat} (hL : LyRd y a ) (hX : Ok X l G prog_6_method_19_code 4 none "SaltFigures$Reader")    : ∀ (fu : Nat) (v1 : Int32) (μ : Mu), J X G 4 101 y (emy y) rvV tpT 9 [(0, .ref (G.1 + a)), (1, .int v1)] [] (μ, y) (Rd_readLaw_9 a   fu v1 μ) := by
  intro fu
  induction fu with
  | zero => intros; exact J_none
  | succ fu ih => intro v1 μ; exact jRd_readLaw_9b hL hX   ih v1 μ
set_option maxRecDepth 100000 in
set_option maxHeartbeats 4000000 in
theorem jRd_readLaw {X : Cx} {l : Launch} {G : Gx} {y : Ly} {a : Nat} (hL : LyRd y a ) (hX : Ok X l G prog_6_method_19_code 4 none "SaltFigures$Reader")  (μ : Mu) : J X G 4 101 y (emy y) rvV tpT 0 [(0, .ref (G.1 + a))] [] (μ, y) (Rd_readLaw a  μ) := by
  unfold Rd_readLaw
  refine J_aload_n (k0 := 0) (pc := 0) 0 hX (by decide +kernel) rfl rfl ?_
  refine J_gr (pc := 1) hX (by decide +kernel) fl_Rd_22 hL.1 rfl hL.2.2.1.1 ?_
  refine J_cVv (pc := 4) (idx := 107) [] hX (by decide +kernel) (mq mt_4 0 (by decide +kernel)) mv_Lw_clear hL.2.2.1.2.1 rfl rfl (Nat.le_of_ble_eq_true rfl) (Nat.le_of_ble_eq_true rfl) (c_Lw_clear hL.2.2.1.2 μ) (fun μ1 => ?_)
  refine J_iconst (pc := 7) (n := 0) (v := 0) hX (by decide +kernel) (by decide +kernel) ?_
  refine J_istore_n (k0 := 1) (pc := 8) [(1, .int 0), (0, .ref (G.1 + a))] hX (by decide +kernel) rfl (by decide) rfl ?_
  exact J_sub [1, 0] _ rfl (jRd_readLaw_9 hL hX FU 0 μ1)
set_option maxRecDepth 100000 in
set_option maxHeartbeats 4000000 in
theorem c_Rd_readLaw {l : Launch} {G : Gx} {y : Ly} {a : Nat} (hL : LyRd y a )  (μ : Mu) : Cn l G ⟨"SaltFigures$Reader", "readLaw", "()V"⟩ prog_6_method_19_code 4 none 101 [.ref (G.1 + a)] (μ, y) (emy y) rvV tpT (Rd_readLaw a  μ) := cn_of (by decide +kernel) (Nat.le_of_ble_eq_true rfl) (fun _ _ _ => ⟨List.prefix_refl _, trivial⟩) (fun X hX _ => jRd_readLaw hL hX  μ)

def Rd_whom (a : Nat) (v1 : Int32) (μ : Mu) : Option (Int32 × Mu) := gF μ a 7 (fun x1 => cl (Rd_number a 0 (x1 - 1) v1 μ) (fun x3 μ2 => some (x3, μ2)))
set_option maxRecDepth 100000 in
set_option maxHeartbeats 4000000 in
theorem jRd_whom {X : Cx} {l : Launch} {G : Gx} {y : Ly} {a : Nat} (hL : LyRd y a ) (hX : Ok X l G prog_6_method_13_code 2 (some .int) "SaltFigures$Reader") (v1 : Int32) (μ : Mu) : J X G 2 12 y (emy y) rvI tpT 0 [(0, .ref (G.1 + a)), (1, .int v1)] [] (μ, y) (Rd_whom a v1 μ) := by
  unfold Rd_whom
  refine J_aload_n (k0 := 0) (pc := 0) 0 hX (by decide +kernel) rfl rfl ?_
  refine J_iconst (pc := 1) (n := 0) (v := 0) hX (by decide +kernel) (by decide +kernel) ?_
  refine J_aload_n (k0 := 0) (pc := 2) 0 hX (by decide +kernel) rfl rfl ?_
  refine J_gF (pc := 3) hX (by decide +kernel) fl_Rd_32 hL.1 rfl (fun x1 => ?_)
  refine J_iconst (pc := 6) (n := 1) (v := 1) hX (by decide +kernel) (by decide +kernel) ?_
  refine J_isub (pc := 7) hX (by decide +kernel) ?_
  refine J_iload_n (k0 := 1) (pc := 8) 1 hX (by decide +kernel) rfl rfl ?_
  refine J_cVi (pc := 9) (idx := 90) [.int 0, .int (x1 - 1), .int v1] hX (by decide +kernel) (mq mt_4 28 (by decide +kernel)) mv_Rd_number hL.1 rfl rfl (Nat.le_of_ble_eq_true rfl) (Nat.le_of_ble_eq_true rfl) (c_Rd_number hL 0 (x1 - 1) v1 μ) (fun x3 μ2 => ?_)
  exact J_iret (pc := 12) hX (by decide +kernel) rfl trivial
set_option maxRecDepth 100000 in
set_option maxHeartbeats 4000000 in
theorem c_Rd_whom {l : Launch} {G : Gx} {y : Ly} {a : Nat} (hL : LyRd y a ) (v1 : Int32) (μ : Mu) : Cn l G ⟨"SaltFigures$Reader", "whom", "(I)I"⟩ prog_6_method_13_code 2 (some .int) 12 [.ref (G.1 + a), .int v1] (μ, y) (emy y) rvI tpT (Rd_whom a v1 μ) := cn_of (by decide +kernel) (Nat.le_of_ble_eq_true rfl) (fun _ _ _ => ⟨List.prefix_refl _, trivial⟩) (fun X hX _ => jRd_whom hL hX v1 μ)

def Rd_readTable_2b (a : Nat)  (kb2 : Int32 → Mu → Option (Unit × Mu))  (v1 : Int32)  (μ : Mu) : Option (Unit × Mu) := (if 16 < v1 then some ((), μ) else cl (Rd_begins a 13 μ) (fun x2 μ1 => (if x2 = 0 then some ((), μ1) else cl (Rd_number a 0 15 ((-1)) μ1) (fun x4 μ3 => cl (Rd_take a 18 μ3) (fun _ μ5 => cl (Rd_whom a ((-1)) μ5) (fun x7 μ6 => cl (Rd_ends a x4 x7 ((-1)) ((-1)) μ6) (fun _ μ8 => kb2 (v1 + 1) μ8)))))))
def Rd_readTable_2 (a : Nat)   (fu : Nat) : Int32 → Mu → Option (Unit × Mu) := lp (fun kb => Rd_readTable_2b a  kb ) (fun _ _ => none) fu
def Rd_readTable (a : Nat)  (μ : Mu) : Option (Unit × Mu) := Rd_readTable_2 a FU 0 μ
set_option maxRecDepth 100000 in
set_option maxHeartbeats 4000000 in
theorem jRd_readTable_2b {X : Cx} {l : Launch} {G : Gx} {y : Ly} {a : Nat} (hL : LyRd y a ) (hX : Ok X l G prog_6_method_16_code 3 none "SaltFigures$Reader")   {kb2 : Int32 → Mu → Option (Unit × Mu)}  (hk2 : ∀ (v1 : Int32) (μ : Mu), J X G 3 13 y (emy y) rvV tpT 2 [(0, .ref (G.1 + a)), (1, .int v1)] [] (μ, y) (kb2 v1 μ)) (v1 : Int32)  (μ : Mu) : J X G 3 13 y (emy y) rvV tpT 2 [(0, .ref (G.1 + a)), (1, .int v1)] [] (μ, y) (Rd_readTable_2b a  kb2  v1  μ) := by
  unfold Rd_readTable_2b
  refine J_iload_n (k0 := 1) (pc := 2) 1 hX (by decide +kernel) rfl rfl ?_
  refine J_bipush (pc := 3) (n := 16) (v := 16) hX (by decide +kernel) (by decide +kernel) ?_
  refine J_icmp_gt (pc := 5) (off := 45) (tgt := 50) hX (by decide +kernel) (by decide +kernel) (fun _ => ?_) (fun _ => ?_)
  · exact J_vret (pc := 50) hX (by decide +kernel) rfl trivial
  · refine J_aload_n (k0 := 0) (pc := 8) 0 hX (by decide +kernel) rfl rfl ?_
    refine J_bipush (pc := 9) (n := 13) (v := 13) hX (by decide +kernel) (by decide +kernel) ?_
    refine J_cVi (pc := 11) (idx := 97) [.int 13] hX (by decide +kernel) (mq mt_4 4 (by decide +kernel)) mv_Rd_begins hL.1 rfl rfl (Nat.le_of_ble_eq_true rfl) (Nat.le_of_ble_eq_true rfl) (c_Rd_begins hL 13 μ) (fun x2 μ1 => ?_)
    refine J_if_eq (pc := 14) (off := 36) (tgt := 50) hX (by decide +kernel) (by decide +kernel) (fun _ => ?_) (fun _ => ?_)
    · exact J_vret (pc := 50) hX (by decide +kernel) rfl trivial
    · refine J_aload_n (k0 := 0) (pc := 17) 0 hX (by decide +kernel) rfl rfl ?_
      refine J_iconst (pc := 18) (n := 0) (v := 0) hX (by decide +kernel) (by decide +kernel) ?_
      refine J_bipush (pc := 19) (n := 15) (v := 15) hX (by decide +kernel) (by decide +kernel) ?_
      refine J_iconst (pc := 21) (n := -1) (v := (-1)) hX (by decide +kernel) (by decide +kernel) ?_
      refine J_cVi (pc := 22) (idx := 90) [.int 0, .int 15, .int ((-1))] hX (by decide +kernel) (mq mt_4 28 (by decide +kernel)) mv_Rd_number hL.1 rfl rfl (Nat.le_of_ble_eq_true rfl) (Nat.le_of_ble_eq_true rfl) (c_Rd_number hL 0 15 ((-1)) μ1) (fun x4 μ3 => ?_)
      refine J_istore_n (k0 := 2) (pc := 25) [(2, .int x4), (0, .ref (G.1 + a)), (1, .int v1)] hX (by decide +kernel) rfl (by decide) rfl ?_
      refine J_aload_n (k0 := 0) (pc := 26) 1 hX (by decide +kernel) rfl rfl ?_
      refine J_bipush (pc := 27) (n := 18) (v := 18) hX (by decide +kernel) (by decide +kernel) ?_
      refine J_cVv (pc := 29) (idx := 94) [.int 18] hX (by decide +kernel) (mq mt_4 44 (by decide +kernel)) mv_Rd_take hL.1 rfl rfl (Nat.le_of_ble_eq_true rfl) (Nat.le_of_ble_eq_true rfl) (c_Rd_take hL 18 μ3) (fun μ5 => ?_)
      refine J_aload_n (k0 := 0) (pc := 32) 1 hX (by decide +kernel) rfl rfl ?_
      refine J_iload_n (k0 := 2) (pc := 33) 0 hX (by decide +kernel) rfl rfl ?_
      refine J_aload_n (k0 := 0) (pc := 34) 1 hX (by decide +kernel) rfl rfl ?_
      refine J_iconst (pc := 35) (n := -1) (v := (-1)) hX (by decide +kernel) (by decide +kernel) ?_
      refine J_cVi (pc := 36) (idx := 100) [.int ((-1))] hX (by decide +kernel) (mq mt_4 60 (by decide +kernel)) mv_Rd_whom hL.1 rfl rfl (Nat.le_of_ble_eq_true rfl) (Nat.le_of_ble_eq_true rfl) (c_Rd_whom hL ((-1)) μ5) (fun x7 μ6 => ?_)
      refine J_iconst (pc := 39) (n := -1) (v := (-1)) hX (by decide +kernel) (by decide +kernel) ?_
      refine J_iconst (pc := 40) (n := -1) (v := (-1)) hX (by decide +kernel) (by decide +kernel) ?_
      refine J_cVv (pc := 41) (idx := 103) [.int x4, .int x7, .int ((-1)), .int ((-1))] hX (by decide +kernel) (mq mt_4 52 (by decide +kernel)) mv_Rd_ends hL.1 rfl rfl (Nat.le_of_ble_eq_true rfl) (Nat.le_of_ble_eq_true rfl) (c_Rd_ends hL x4 x7 ((-1)) ((-1)) μ6) (fun μ8 => ?_)
      refine J_iinc (pc := 44) (n := 1) 2 [(1, .int (v1 + 1)), (2, .int x4), (0, .ref (G.1 + a))] hX (by decide +kernel) rfl rfl (by decide) rfl ?_
      refine J_goto (pc := 47) (off := -45) (tgt := 2) hX (by decide +kernel) (by decide +kernel) ?_
      exact J_sub [2, 0] _ rfl (hk2 (v1 + 1) μ8)
set_option maxRecDepth 100000 in
set_option maxHeartbeats 4000000 in
theorem jRd_readTable_2 {X : Cx} {l : Launch} {G : Gx} {y : Ly} {a : Nat} (hL : LyRd y a ) (hX : Ok X l G prog_6_method_16_code 3 none "SaltFigures$Reader")    : ∀ (fu : Nat) (v1 : Int32) (μ : Mu), J X G 3 13 y (emy y) rvV tpT 2 [(0, .ref (G.1 + a)), (1, .int v1)] [] (μ, y) (Rd_readTable_2 a   fu v1 μ) := by
  intro fu
  induction fu with
  | zero => intros; exact J_none
  | succ fu ih => intro v1 μ; exact jRd_readTable_2b hL hX   ih v1 μ
set_option maxRecDepth 100000 in
set_option maxHeartbeats 4000000 in
theorem jRd_readTable {X : Cx} {l : Launch} {G : Gx} {y : Ly} {a : Nat} (hL : LyRd y a ) (hX : Ok X l G prog_6_method_16_code 3 none "SaltFigures$Reader")  (μ : Mu) : J X G 3 13 y (emy y) rvV tpT 0 [(0, .ref (G.1 + a))] [] (μ, y) (Rd_readTable a  μ) := by
  unfold Rd_readTable
  refine J_iconst (pc := 0) (n := 0) (v := 0) hX (by decide +kernel) (by decide +kernel) ?_
  refine J_istore_n (k0 := 1) (pc := 1) [(1, .int 0), (0, .ref (G.1 + a))] hX (by decide +kernel) rfl (by decide) rfl ?_
  exact J_sub [1, 0] _ rfl (jRd_readTable_2 hL hX FU 0 μ)
set_option maxRecDepth 100000 in
set_option maxHeartbeats 4000000 in
theorem c_Rd_readTable {l : Launch} {G : Gx} {y : Ly} {a : Nat} (hL : LyRd y a )  (μ : Mu) : Cn l G ⟨"SaltFigures$Reader", "readTable", "()V"⟩ prog_6_method_16_code 3 none 13 [.ref (G.1 + a)] (μ, y) (emy y) rvV tpT (Rd_readTable a  μ) := cn_of (by decide +kernel) (Nat.le_of_ble_eq_true rfl) (fun _ _ _ => ⟨List.prefix_refl _, trivial⟩) (fun X hX _ => jRd_readTable hL hX  μ)

def Rd_readWeather_141 (a : Nat) (kb2 : Int32 → Mu → Option (Unit × Mu))  (v1 : Int32) (v2 : Int32) (v3 : Int32) (v4 : Int32) (v5 : Int32)  (μ : Mu) : Option (Unit × Mu) := cl (Rd_ends a v2 v3 v4 v5 μ) (fun _ μ1 => kb2 (v1 + 1) μ1)
def Rd_readWeather_111 (a : Nat) (kb2 : Int32 → Mu → Option (Unit × Mu))  (v1 : Int32) (v2 : Int32) (v3 : Int32) (v4 : Int32)  (μ : Mu) : Option (Unit × Mu) := cl (Rd_number a 0 9 ((-1)) μ) (fun x2 μ1 => Rd_readWeather_141 a kb2 v1 v2 v3 v4 x2 μ1)
def Rd_readWeather_99 (a : Nat) (kb2 : Int32 → Mu → Option (Unit × Mu))  (v1 : Int32) (v2 : Int32) (v3 : Int32) (v4 : Int32) (v5 : Int32)  (μ : Mu) : Option (Unit × Mu) := (if v3 = 14 then Rd_readWeather_111 a kb2 v1 v2 v3 v4 μ else (if v3 = 22 then Rd_readWeather_111 a kb2 v1 v2 v3 v4 μ else (if v3 = 20 then cl (Rd_number a 1 999 ((-1)) μ) (fun x2 μ1 => Rd_readWeather_141 a kb2 v1 v2 v3 v4 x2 μ1) else Rd_readWeather_141 a kb2 v1 v2 v3 v4 v5 μ)))
def Rd_readWeather_92 (a : Nat) (kb2 : Int32 → Mu → Option (Unit × Mu))  (v1 : Int32) (v2 : Int32) (v3 : Int32) (v5 : Int32)  (μ : Mu) : Option (Unit × Mu) := cl (Rd_whom a ((-1)) μ) (fun x2 μ1 => Rd_readWeather_99 a kb2 v1 v2 v3 x2 v5 μ1)
def Rd_readWeather_80 (a : Nat) (kb2 : Int32 → Mu → Option (Unit × Mu))  (v1 : Int32) (v2 : Int32) (v3 : Int32) (v4 : Int32) (v5 : Int32)  (μ : Mu) : Option (Unit × Mu) := (if v3 = 22 then Rd_readWeather_92 a kb2 v1 v2 v3 v5 μ else (if v3 = 23 then Rd_readWeather_92 a kb2 v1 v2 v3 v5 μ else Rd_readWeather_99 a kb2 v1 v2 v3 v4 v5 μ))
def Rd_readWeather_68 (a : Nat) (kb2 : Int32 → Mu → Option (Unit × Mu))  (v1 : Int32) (v2 : Int32) (v3 : Int32) (v4 : Int32) (v5 : Int32)  (μ : Mu) : Option (Unit × Mu) := cl (Rd_next a μ) (fun _ μ1 => Rd_readWeather_80 a kb2 v1 v2 v3 v4 v5 μ1)
def Rd_readWeather_2b (a : Nat)  (kb2 : Int32 → Mu → Option (Unit × Mu))  (v1 : Int32)  (μ : Mu) : Option (Unit × Mu) := (if 16 < v1 then some ((), μ) else cl (Rd_begins a 19 μ) (fun x2 μ1 => (if x2 = 0 then some ((), μ1) else cl (Rd_number a 0 999 ((-1)) μ1) (fun x4 μ3 => gF μ3 a 3 (fun x5 => (if x5 = 14 then Rd_readWeather_68 a kb2 v1 x4 x5 ((-1)) ((-1)) μ3 else (if x5 = 20 then Rd_readWeather_68 a kb2 v1 x4 x5 ((-1)) ((-1)) μ3 else (if x5 = 21 then Rd_readWeather_68 a kb2 v1 x4 x5 ((-1)) ((-1)) μ3 else (if x5 = 22 then Rd_readWeather_68 a kb2 v1 x4 x5 ((-1)) ((-1)) μ3 else (if x5 = 23 then Rd_readWeather_68 a kb2 v1 x4 x5 ((-1)) ((-1)) μ3 else cl (Rd_fail a 1 μ3) (fun _ μ6 => Rd_readWeather_80 a kb2 v1 x4 x5 ((-1)) ((-1)) μ6)))))))))))
def Rd_readWeather_2 (a : Nat)   (fu : Nat) : Int32 → Mu → Option (Unit × Mu) := lp (fun kb => Rd_readWeather_2b a  kb ) (fun _ _ => none) fu
def Rd_readWeather (a : Nat)  (μ : Mu) : Option (Unit × Mu) := Rd_readWeather_2 a FU 0 μ
set_option maxRecDepth 100000 in
set_option maxHeartbeats 4000000 in
theorem jRd_readWeather_141 {X : Cx} {l : Launch} {G : Gx} {y : Ly} {a : Nat} (hL : LyRd y a ) (hX : Ok X l G prog_6_method_18_code 6 none "SaltFigures$Reader")  (v1 : Int32) (v2 : Int32) (v3 : Int32) (v4 : Int32) (v5 : Int32)  {kb2 : Int32 → Mu → Option (Unit × Mu)} (hk2 : ∀ (v1 : Int32) (μ : Mu), J X G 6 13 y (emy y) rvV tpT 2 [(0, .ref (G.1 + a)), (1, .int v1)] [] (μ, y) (kb2 v1 μ)) (μ : Mu) : J X G 6 13 y (emy y) rvV tpT 141 [(0, .ref (G.1 + a)), (1, .int v1), (2, .int v2), (3, .int v3), (4, .int v4), (5, .int v5)] [] (μ, y) (Rd_readWeather_141 a kb2  v1 v2 v3 v4 v5  μ) := by
  unfold Rd_readWeather_141
  refine J_aload_n (k0 := 0) (pc := 141) 0 hX (by decide +kernel) rfl rfl ?_
  refine J_iload_n (k0 := 2) (pc := 142) 2 hX (by decide +kernel) rfl rfl ?_
  refine J_iload_n (k0 := 3) (pc := 143) 3 hX (by decide +kernel) rfl rfl ?_
  refine J_iload (pc := 144) 4 hX (by decide +kernel) rfl ?_
  refine J_iload (pc := 146) 5 hX (by decide +kernel) rfl ?_
  refine J_cVv (pc := 148) (idx := 103) [.int v2, .int v3, .int v4, .int v5] hX (by decide +kernel) (mq mt_4 52 (by decide +kernel)) mv_Rd_ends hL.1 rfl rfl (Nat.le_of_ble_eq_true rfl) (Nat.le_of_ble_eq_true rfl) (c_Rd_ends hL v2 v3 v4 v5 μ) (fun μ1 => ?_)
  refine J_iinc (pc := 151) (n := 1) 1 [(1, .int (v1 + 1)), (0, .ref (G.1 + a)), (2, .int v2), (3, .int v3), (4, .int v4), (5, .int v5)] hX (by decide +kernel) rfl rfl (by decide) rfl ?_
  refine J_goto (pc := 154) (off := -152) (tgt := 2) hX (by decide +kernel) (by decide +kernel) ?_
  exact J_sub [1, 0] _ rfl (hk2 (v1 + 1) μ1)
set_option maxRecDepth 100000 in
set_option maxHeartbeats 4000000 in
theorem jRd_readWeather_111 {X : Cx} {l : Launch} {G : Gx} {y : Ly} {a : Nat} (hL : LyRd y a ) (hX : Ok X l G prog_6_method_18_code 6 none "SaltFigures$Reader")  (v1 : Int32) (v2 : Int32) (v3 : Int32) (v4 : Int32)  {kb2 : Int32 → Mu → Option (Unit × Mu)} (hk2 : ∀ (v1 : Int32) (μ : Mu), J X G 6 13 y (emy y) rvV tpT 2 [(0, .ref (G.1 + a)), (1, .int v1)] [] (μ, y) (kb2 v1 μ)) (μ : Mu) : J X G 6 13 y (emy y) rvV tpT 111 [(0, .ref (G.1 + a)), (1, .int v1), (2, .int v2), (3, .int v3), (4, .int v4)] [] (μ, y) (Rd_readWeather_111 a kb2  v1 v2 v3 v4  μ) := by
  unfold Rd_readWeather_111
  refine J_aload_n (k0 := 0) (pc := 111) 0 hX (by decide +kernel) rfl rfl ?_
  refine J_iconst (pc := 112) (n := 0) (v := 0) hX (by decide +kernel) (by decide +kernel) ?_
  refine J_bipush (pc := 113) (n := 9) (v := 9) hX (by decide +kernel) (by decide +kernel) ?_
  refine J_iconst (pc := 115) (n := -1) (v := (-1)) hX (by decide +kernel) (by decide +kernel) ?_
  refine J_cVi (pc := 116) (idx := 90) [.int 0, .int 9, .int ((-1))] hX (by decide +kernel) (mq mt_4 28 (by decide +kernel)) mv_Rd_number hL.1 rfl rfl (Nat.le_of_ble_eq_true rfl) (Nat.le_of_ble_eq_true rfl) (c_Rd_number hL 0 9 ((-1)) μ) (fun x2 μ1 => ?_)
  refine J_istore (pc := 119) [(5, .int x2), (0, .ref (G.1 + a)), (1, .int v1), (2, .int v2), (3, .int v3), (4, .int v4)] hX (by decide +kernel) (by decide) rfl ?_
  refine J_goto (pc := 121) (off := 20) (tgt := 141) hX (by decide +kernel) (by decide +kernel) ?_
  exact J_sub [1, 2, 3, 4, 5, 0] _ rfl (jRd_readWeather_141 hL hX v1 v2 v3 v4 x2 hk2 μ1)
set_option maxRecDepth 100000 in
set_option maxHeartbeats 4000000 in
theorem jRd_readWeather_99 {X : Cx} {l : Launch} {G : Gx} {y : Ly} {a : Nat} (hL : LyRd y a ) (hX : Ok X l G prog_6_method_18_code 6 none "SaltFigures$Reader")  (v1 : Int32) (v2 : Int32) (v3 : Int32) (v4 : Int32) (v5 : Int32)  {kb2 : Int32 → Mu → Option (Unit × Mu)} (hk2 : ∀ (v1 : Int32) (μ : Mu), J X G 6 13 y (emy y) rvV tpT 2 [(0, .ref (G.1 + a)), (1, .int v1)] [] (μ, y) (kb2 v1 μ)) (μ : Mu) : J X G 6 13 y (emy y) rvV tpT 99 [(0, .ref (G.1 + a)), (1, .int v1), (2, .int v2), (3, .int v3), (4, .int v4), (5, .int v5)] [] (μ, y) (Rd_readWeather_99 a kb2  v1 v2 v3 v4 v5  μ) := by
  unfold Rd_readWeather_99
  refine J_iload_n (k0 := 3) (pc := 99) 3 hX (by decide +kernel) rfl rfl ?_
  refine J_bipush (pc := 100) (n := 14) (v := 14) hX (by decide +kernel) (by decide +kernel) ?_
  refine J_icmp_eq (pc := 102) (off := 9) (tgt := 111) hX (by decide +kernel) (by decide +kernel) (fun _ => ?_) (fun _ => ?_)
  · exact J_sub [0, 1, 2, 3, 4] _ rfl (jRd_readWeather_111 hL hX v1 v2 v3 v4 hk2 μ)
  · refine J_iload_n (k0 := 3) (pc := 105) 3 hX (by decide +kernel) rfl rfl ?_
    refine J_bipush (pc := 106) (n := 22) (v := 22) hX (by decide +kernel) (by decide +kernel) ?_
    refine J_icmp_ne (pc := 108) (off := 16) (tgt := 124) hX (by decide +kernel) (by decide +kernel) (fun _ => ?_) (fun _ => ?_)
    · refine J_iload_n (k0 := 3) (pc := 124) 3 hX (by decide +kernel) rfl rfl ?_
      refine J_bipush (pc := 125) (n := 20) (v := 20) hX (by decide +kernel) (by decide +kernel) ?_
      refine J_icmp_ne (pc := 127) (off := 14) (tgt := 141) hX (by decide +kernel) (by decide +kernel) (fun _ => ?_) (fun _ => ?_)
      · exact J_sub [0, 1, 2, 3, 4, 5] _ rfl (jRd_readWeather_141 hL hX v1 v2 v3 v4 v5 hk2 μ)
      · refine J_aload_n (k0 := 0) (pc := 130) 0 hX (by decide +kernel) rfl rfl ?_
        refine J_iconst (pc := 131) (n := 1) (v := 1) hX (by decide +kernel) (by decide +kernel) ?_
        refine J_sipush (pc := 132) (n := 999) (v := 999) hX (by decide +kernel) (by decide +kernel) ?_
        refine J_iconst (pc := 135) (n := -1) (v := (-1)) hX (by decide +kernel) (by decide +kernel) ?_
        refine J_cVi (pc := 136) (idx := 90) [.int 1, .int 999, .int ((-1))] hX (by decide +kernel) (mq mt_4 28 (by decide +kernel)) mv_Rd_number hL.1 rfl rfl (Nat.le_of_ble_eq_true rfl) (Nat.le_of_ble_eq_true rfl) (c_Rd_number hL 1 999 ((-1)) μ) (fun x2 μ1 => ?_)
        refine J_istore (pc := 139) [(5, .int x2), (0, .ref (G.1 + a)), (1, .int v1), (2, .int v2), (3, .int v3), (4, .int v4)] hX (by decide +kernel) (by decide) rfl ?_
        exact J_sub [1, 2, 3, 4, 5, 0] _ rfl (jRd_readWeather_141 hL hX v1 v2 v3 v4 x2 hk2 μ1)
    · exact J_sub [0, 1, 2, 3, 4] _ rfl (jRd_readWeather_111 hL hX v1 v2 v3 v4 hk2 μ)
set_option maxRecDepth 100000 in
set_option maxHeartbeats 4000000 in
theorem jRd_readWeather_92 {X : Cx} {l : Launch} {G : Gx} {y : Ly} {a : Nat} (hL : LyRd y a ) (hX : Ok X l G prog_6_method_18_code 6 none "SaltFigures$Reader")  (v1 : Int32) (v2 : Int32) (v3 : Int32) (v5 : Int32)  {kb2 : Int32 → Mu → Option (Unit × Mu)} (hk2 : ∀ (v1 : Int32) (μ : Mu), J X G 6 13 y (emy y) rvV tpT 2 [(0, .ref (G.1 + a)), (1, .int v1)] [] (μ, y) (kb2 v1 μ)) (μ : Mu) : J X G 6 13 y (emy y) rvV tpT 92 [(0, .ref (G.1 + a)), (1, .int v1), (2, .int v2), (3, .int v3), (5, .int v5)] [] (μ, y) (Rd_readWeather_92 a kb2  v1 v2 v3 v5  μ) := by
  unfold Rd_readWeather_92
  refine J_aload_n (k0 := 0) (pc := 92) 0 hX (by decide +kernel) rfl rfl ?_
  refine J_iconst (pc := 93) (n := -1) (v := (-1)) hX (by decide +kernel) (by decide +kernel) ?_
  refine J_cVi (pc := 94) (idx := 100) [.int ((-1))] hX (by decide +kernel) (mq mt_4 60 (by decide +kernel)) mv_Rd_whom hL.1 rfl rfl (Nat.le_of_ble_eq_true rfl) (Nat.le_of_ble_eq_true rfl) (c_Rd_whom hL ((-1)) μ) (fun x2 μ1 => ?_)
  refine J_istore (pc := 97) [(4, .int x2), (0, .ref (G.1 + a)), (1, .int v1), (2, .int v2), (3, .int v3), (5, .int v5)] hX (by decide +kernel) (by decide) rfl ?_
  exact J_sub [1, 2, 3, 4, 0, 5] _ rfl (jRd_readWeather_99 hL hX v1 v2 v3 x2 v5 hk2 μ1)
set_option maxRecDepth 100000 in
set_option maxHeartbeats 4000000 in
theorem jRd_readWeather_80 {X : Cx} {l : Launch} {G : Gx} {y : Ly} {a : Nat} (hL : LyRd y a ) (hX : Ok X l G prog_6_method_18_code 6 none "SaltFigures$Reader")  (v1 : Int32) (v2 : Int32) (v3 : Int32) (v4 : Int32) (v5 : Int32)  {kb2 : Int32 → Mu → Option (Unit × Mu)} (hk2 : ∀ (v1 : Int32) (μ : Mu), J X G 6 13 y (emy y) rvV tpT 2 [(0, .ref (G.1 + a)), (1, .int v1)] [] (μ, y) (kb2 v1 μ)) (μ : Mu) : J X G 6 13 y (emy y) rvV tpT 80 [(0, .ref (G.1 + a)), (1, .int v1), (2, .int v2), (3, .int v3), (4, .int v4), (5, .int v5)] [] (μ, y) (Rd_readWeather_80 a kb2  v1 v2 v3 v4 v5  μ) := by
  unfold Rd_readWeather_80
  refine J_iload_n (k0 := 3) (pc := 80) 3 hX (by decide +kernel) rfl rfl ?_
  refine J_bipush (pc := 81) (n := 22) (v := 22) hX (by decide +kernel) (by decide +kernel) ?_
  refine J_icmp_eq (pc := 83) (off := 9) (tgt := 92) hX (by decide +kernel) (by decide +kernel) (fun _ => ?_) (fun _ => ?_)
  · exact J_sub [0, 1, 2, 3, 5] _ rfl (jRd_readWeather_92 hL hX v1 v2 v3 v5 hk2 μ)
  · refine J_iload_n (k0 := 3) (pc := 86) 3 hX (by decide +kernel) rfl rfl ?_
    refine J_bipush (pc := 87) (n := 23) (v := 23) hX (by decide +kernel) (by decide +kernel) ?_
    refine J_icmp_ne (pc := 89) (off := 10) (tgt := 99) hX (by decide +kernel) (by decide +kernel) (fun _ => ?_) (fun _ => ?_)
    · exact J_sub [0, 1, 2, 3, 4, 5] _ rfl (jRd_readWeather_99 hL hX v1 v2 v3 v4 v5 hk2 μ)
    · exact J_sub [0, 1, 2, 3, 5] _ rfl (jRd_readWeather_92 hL hX v1 v2 v3 v5 hk2 μ)
set_option maxRecDepth 100000 in
set_option maxHeartbeats 4000000 in
theorem jRd_readWeather_68 {X : Cx} {l : Launch} {G : Gx} {y : Ly} {a : Nat} (hL : LyRd y a ) (hX : Ok X l G prog_6_method_18_code 6 none "SaltFigures$Reader")  (v1 : Int32) (v2 : Int32) (v3 : Int32) (v4 : Int32) (v5 : Int32)  {kb2 : Int32 → Mu → Option (Unit × Mu)} (hk2 : ∀ (v1 : Int32) (μ : Mu), J X G 6 13 y (emy y) rvV tpT 2 [(0, .ref (G.1 + a)), (1, .int v1)] [] (μ, y) (kb2 v1 μ)) (μ : Mu) : J X G 6 13 y (emy y) rvV tpT 68 [(0, .ref (G.1 + a)), (1, .int v1), (2, .int v2), (3, .int v3), (4, .int v4), (5, .int v5)] [] (μ, y) (Rd_readWeather_68 a kb2  v1 v2 v3 v4 v5  μ) := by
  unfold Rd_readWeather_68
  refine J_aload_n (k0 := 0) (pc := 68) 0 hX (by decide +kernel) rfl rfl ?_
  refine J_cVv (pc := 69) (idx := 47) [] hX (by decide +kernel) (mq mt_3 117 (by decide +kernel)) mv_Rd_next hL.1 rfl rfl (Nat.le_of_ble_eq_true rfl) (Nat.le_of_ble_eq_true rfl) (c_Rd_next hL μ) (fun μ1 => ?_)
  refine J_goto (pc := 72) (off := 8) (tgt := 80) hX (by decide +kernel) (by decide +kernel) ?_
  exact J_sub [0, 1, 2, 3, 4, 5] _ rfl (jRd_readWeather_80 hL hX v1 v2 v3 v4 v5 hk2 μ1)
set_option maxRecDepth 100000 in
set_option maxHeartbeats 4000000 in
theorem jRd_readWeather_2b {X : Cx} {l : Launch} {G : Gx} {y : Ly} {a : Nat} (hL : LyRd y a ) (hX : Ok X l G prog_6_method_18_code 6 none "SaltFigures$Reader")   {kb2 : Int32 → Mu → Option (Unit × Mu)}  (hk2 : ∀ (v1 : Int32) (μ : Mu), J X G 6 13 y (emy y) rvV tpT 2 [(0, .ref (G.1 + a)), (1, .int v1)] [] (μ, y) (kb2 v1 μ)) (v1 : Int32)  (μ : Mu) : J X G 6 13 y (emy y) rvV tpT 2 [(0, .ref (G.1 + a)), (1, .int v1)] [] (μ, y) (Rd_readWeather_2b a  kb2  v1  μ) := by
  unfold Rd_readWeather_2b
  refine J_iload_n (k0 := 1) (pc := 2) 1 hX (by decide +kernel) rfl rfl ?_
  refine J_bipush (pc := 3) (n := 16) (v := 16) hX (by decide +kernel) (by decide +kernel) ?_
  refine J_icmp_gt (pc := 5) (off := 152) (tgt := 157) hX (by decide +kernel) (by decide +kernel) (fun _ => ?_) (fun _ => ?_)
  · exact J_vret (pc := 157) hX (by decide +kernel) rfl trivial
  · refine J_aload_n (k0 := 0) (pc := 8) 0 hX (by decide +kernel) rfl rfl ?_
    refine J_bipush (pc := 9) (n := 19) (v := 19) hX (by decide +kernel) (by decide +kernel) ?_
    refine J_cVi (pc := 11) (idx := 97) [.int 19] hX (by decide +kernel) (mq mt_4 4 (by decide +kernel)) mv_Rd_begins hL.1 rfl rfl (Nat.le_of_ble_eq_true rfl) (Nat.le_of_ble_eq_true rfl) (c_Rd_begins hL 19 μ) (fun x2 μ1 => ?_)
    refine J_if_eq (pc := 14) (off := 143) (tgt := 157) hX (by decide +kernel) (by decide +kernel) (fun _ => ?_) (fun _ => ?_)
    · exact J_vret (pc := 157) hX (by decide +kernel) rfl trivial
    · refine J_aload_n (k0 := 0) (pc := 17) 0 hX (by decide +kernel) rfl rfl ?_
      refine J_iconst (pc := 18) (n := 0) (v := 0) hX (by decide +kernel) (by decide +kernel) ?_
      refine J_sipush (pc := 19) (n := 999) (v := 999) hX (by decide +kernel) (by decide +kernel) ?_
      refine J_iconst (pc := 22) (n := -1) (v := (-1)) hX (by decide +kernel) (by decide +kernel) ?_
      refine J_cVi (pc := 23) (idx := 90) [.int 0, .int 999, .int ((-1))] hX (by decide +kernel) (mq mt_4 28 (by decide +kernel)) mv_Rd_number hL.1 rfl rfl (Nat.le_of_ble_eq_true rfl) (Nat.le_of_ble_eq_true rfl) (c_Rd_number hL 0 999 ((-1)) μ1) (fun x4 μ3 => ?_)
      refine J_istore_n (k0 := 2) (pc := 26) [(2, .int x4), (0, .ref (G.1 + a)), (1, .int v1)] hX (by decide +kernel) rfl (by decide) rfl ?_
      refine J_aload_n (k0 := 0) (pc := 27) 1 hX (by decide +kernel) rfl rfl ?_
      refine J_gF (pc := 28) hX (by decide +kernel) fl_Rd_53 hL.1 rfl (fun x5 => ?_)
      refine J_istore_n (k0 := 3) (pc := 31) [(3, .int x5), (2, .int x4), (0, .ref (G.1 + a)), (1, .int v1)] hX (by decide +kernel) rfl (by decide) rfl ?_
      refine J_iconst (pc := 32) (n := -1) (v := (-1)) hX (by decide +kernel) (by decide +kernel) ?_
      refine J_istore (pc := 33) [(4, .int ((-1))), (3, .int x5), (2, .int x4), (0, .ref (G.1 + a)), (1, .int v1)] hX (by decide +kernel) (by decide) rfl ?_
      refine J_iconst (pc := 35) (n := -1) (v := (-1)) hX (by decide +kernel) (by decide +kernel) ?_
      refine J_istore (pc := 36) [(5, .int ((-1))), (4, .int ((-1))), (3, .int x5), (2, .int x4), (0, .ref (G.1 + a)), (1, .int v1)] hX (by decide +kernel) (by decide) rfl ?_
      refine J_iload_n (k0 := 3) (pc := 38) 2 hX (by decide +kernel) rfl rfl ?_
      refine J_bipush (pc := 39) (n := 14) (v := 14) hX (by decide +kernel) (by decide +kernel) ?_
      refine J_icmp_eq (pc := 41) (off := 27) (tgt := 68) hX (by decide +kernel) (by decide +kernel) (fun _ => ?_) (fun _ => ?_)
      · exact J_sub [4, 5, 3, 2, 1, 0] _ rfl (jRd_readWeather_68 hL hX v1 x4 x5 ((-1)) ((-1)) hk2 μ3)
      · refine J_iload_n (k0 := 3) (pc := 44) 2 hX (by decide +kernel) rfl rfl ?_
        refine J_bipush (pc := 45) (n := 20) (v := 20) hX (by decide +kernel) (by decide +kernel) ?_
        refine J_icmp_eq (pc := 47) (off := 21) (tgt := 68) hX (by decide +kernel) (by decide +kernel) (fun _ => ?_) (fun _ => ?_)
        · exact J_sub [4, 5, 3, 2, 1, 0] _ rfl (jRd_readWeather_68 hL hX v1 x4 x5 ((-1)) ((-1)) hk2 μ3)
        · refine J_iload_n (k0 := 3) (pc := 50) 2 hX (by decide +kernel) rfl rfl ?_
          refine J_bipush (pc := 51) (n := 21) (v := 21) hX (by decide +kernel) (by decide +kernel) ?_
          refine J_icmp_eq (pc := 53) (off := 15) (tgt := 68) hX (by decide +kernel) (by decide +kernel) (fun _ => ?_) (fun _ => ?_)
          · exact J_sub [4, 5, 3, 2, 1, 0] _ rfl (jRd_readWeather_68 hL hX v1 x4 x5 ((-1)) ((-1)) hk2 μ3)
          · refine J_iload_n (k0 := 3) (pc := 56) 2 hX (by decide +kernel) rfl rfl ?_
            refine J_bipush (pc := 57) (n := 22) (v := 22) hX (by decide +kernel) (by decide +kernel) ?_
            refine J_icmp_eq (pc := 59) (off := 9) (tgt := 68) hX (by decide +kernel) (by decide +kernel) (fun _ => ?_) (fun _ => ?_)
            · exact J_sub [4, 5, 3, 2, 1, 0] _ rfl (jRd_readWeather_68 hL hX v1 x4 x5 ((-1)) ((-1)) hk2 μ3)
            · refine J_iload_n (k0 := 3) (pc := 62) 2 hX (by decide +kernel) rfl rfl ?_
              refine J_bipush (pc := 63) (n := 23) (v := 23) hX (by decide +kernel) (by decide +kernel) ?_
              refine J_icmp_ne (pc := 65) (off := 10) (tgt := 75) hX (by decide +kernel) (by decide +kernel) (fun _ => ?_) (fun _ => ?_)
              · refine J_aload_n (k0 := 0) (pc := 75) 4 hX (by decide +kernel) rfl rfl ?_
                refine J_iconst (pc := 76) (n := 1) (v := 1) hX (by decide +kernel) (by decide +kernel) ?_
                refine J_cVv (pc := 77) (idx := 86) [.int 1] hX (by decide +kernel) (mq mt_4 8 (by decide +kernel)) mv_Rd_fail hL.1 rfl rfl (Nat.le_of_ble_eq_true rfl) (Nat.le_of_ble_eq_true rfl) (c_Rd_fail hL 1 μ3) (fun μ6 => ?_)
                exact J_sub [4, 5, 3, 2, 1, 0] _ rfl (jRd_readWeather_80 hL hX v1 x4 x5 ((-1)) ((-1)) hk2 μ6)
              · exact J_sub [4, 5, 3, 2, 1, 0] _ rfl (jRd_readWeather_68 hL hX v1 x4 x5 ((-1)) ((-1)) hk2 μ3)
set_option maxRecDepth 100000 in
set_option maxHeartbeats 4000000 in
theorem jRd_readWeather_2 {X : Cx} {l : Launch} {G : Gx} {y : Ly} {a : Nat} (hL : LyRd y a ) (hX : Ok X l G prog_6_method_18_code 6 none "SaltFigures$Reader")    : ∀ (fu : Nat) (v1 : Int32) (μ : Mu), J X G 6 13 y (emy y) rvV tpT 2 [(0, .ref (G.1 + a)), (1, .int v1)] [] (μ, y) (Rd_readWeather_2 a   fu v1 μ) := by
  intro fu
  induction fu with
  | zero => intros; exact J_none
  | succ fu ih => intro v1 μ; exact jRd_readWeather_2b hL hX   ih v1 μ
set_option maxRecDepth 100000 in
set_option maxHeartbeats 4000000 in
theorem jRd_readWeather {X : Cx} {l : Launch} {G : Gx} {y : Ly} {a : Nat} (hL : LyRd y a ) (hX : Ok X l G prog_6_method_18_code 6 none "SaltFigures$Reader")  (μ : Mu) : J X G 6 13 y (emy y) rvV tpT 0 [(0, .ref (G.1 + a))] [] (μ, y) (Rd_readWeather a  μ) := by
  unfold Rd_readWeather
  refine J_iconst (pc := 0) (n := 0) (v := 0) hX (by decide +kernel) (by decide +kernel) ?_
  refine J_istore_n (k0 := 1) (pc := 1) [(1, .int 0), (0, .ref (G.1 + a))] hX (by decide +kernel) rfl (by decide) rfl ?_
  exact J_sub [1, 0] _ rfl (jRd_readWeather_2 hL hX FU 0 μ)
set_option maxRecDepth 100000 in
set_option maxHeartbeats 4000000 in
theorem c_Rd_readWeather {l : Launch} {G : Gx} {y : Ly} {a : Nat} (hL : LyRd y a )  (μ : Mu) : Cn l G ⟨"SaltFigures$Reader", "readWeather", "()V"⟩ prog_6_method_18_code 6 none 13 [.ref (G.1 + a)] (μ, y) (emy y) rvV tpT (Rd_readWeather a  μ) := cn_of (by decide +kernel) (Nat.le_of_ble_eq_true rfl) (fun _ _ _ => ⟨List.prefix_refl _, trivial⟩) (fun X hX _ => jRd_readWeather hL hX  μ)

def Rd_readHeirs_2b (a : Nat)  (kb2 : Int32 → Mu → Option (Unit × Mu))  (v1 : Int32)  (μ : Mu) : Option (Unit × Mu) := (if 16 < v1 then some ((), μ) else cl (Rd_begins a 18 μ) (fun x2 μ1 => (if x2 = 0 then some ((), μ1) else cl (Rd_whom a ((-1)) μ1) (fun x4 μ3 => cl (Rd_take a 24 μ3) (fun _ μ5 => cl (Rd_whom a x4 μ5) (fun x7 μ6 => cl (Rd_ends a x4 x7 ((-1)) ((-1)) μ6) (fun _ μ8 => kb2 (v1 + 1) μ8)))))))
def Rd_readHeirs_2 (a : Nat)   (fu : Nat) : Int32 → Mu → Option (Unit × Mu) := lp (fun kb => Rd_readHeirs_2b a  kb ) (fun _ _ => none) fu
def Rd_readHeirs (a : Nat)  (μ : Mu) : Option (Unit × Mu) := Rd_readHeirs_2 a FU 0 μ
set_option maxRecDepth 100000 in
set_option maxHeartbeats 4000000 in
theorem jRd_readHeirs_2b {X : Cx} {l : Launch} {G : Gx} {y : Ly} {a : Nat} (hL : LyRd y a ) (hX : Ok X l G prog_6_method_17_code 3 none "SaltFigures$Reader")   {kb2 : Int32 → Mu → Option (Unit × Mu)}  (hk2 : ∀ (v1 : Int32) (μ : Mu), J X G 3 13 y (emy y) rvV tpT 2 [(0, .ref (G.1 + a)), (1, .int v1)] [] (μ, y) (kb2 v1 μ)) (v1 : Int32)  (μ : Mu) : J X G 3 13 y (emy y) rvV tpT 2 [(0, .ref (G.1 + a)), (1, .int v1)] [] (μ, y) (Rd_readHeirs_2b a  kb2  v1  μ) := by
  unfold Rd_readHeirs_2b
  refine J_iload_n (k0 := 1) (pc := 2) 1 hX (by decide +kernel) rfl rfl ?_
  refine J_bipush (pc := 3) (n := 16) (v := 16) hX (by decide +kernel) (by decide +kernel) ?_
  refine J_icmp_gt (pc := 5) (off := 42) (tgt := 47) hX (by decide +kernel) (by decide +kernel) (fun _ => ?_) (fun _ => ?_)
  · exact J_vret (pc := 47) hX (by decide +kernel) rfl trivial
  · refine J_aload_n (k0 := 0) (pc := 8) 0 hX (by decide +kernel) rfl rfl ?_
    refine J_bipush (pc := 9) (n := 18) (v := 18) hX (by decide +kernel) (by decide +kernel) ?_
    refine J_cVi (pc := 11) (idx := 97) [.int 18] hX (by decide +kernel) (mq mt_4 4 (by decide +kernel)) mv_Rd_begins hL.1 rfl rfl (Nat.le_of_ble_eq_true rfl) (Nat.le_of_ble_eq_true rfl) (c_Rd_begins hL 18 μ) (fun x2 μ1 => ?_)
    refine J_if_eq (pc := 14) (off := 33) (tgt := 47) hX (by decide +kernel) (by decide +kernel) (fun _ => ?_) (fun _ => ?_)
    · exact J_vret (pc := 47) hX (by decide +kernel) rfl trivial
    · refine J_aload_n (k0 := 0) (pc := 17) 0 hX (by decide +kernel) rfl rfl ?_
      refine J_iconst (pc := 18) (n := -1) (v := (-1)) hX (by decide +kernel) (by decide +kernel) ?_
      refine J_cVi (pc := 19) (idx := 100) [.int ((-1))] hX (by decide +kernel) (mq mt_4 60 (by decide +kernel)) mv_Rd_whom hL.1 rfl rfl (Nat.le_of_ble_eq_true rfl) (Nat.le_of_ble_eq_true rfl) (c_Rd_whom hL ((-1)) μ1) (fun x4 μ3 => ?_)
      refine J_istore_n (k0 := 2) (pc := 22) [(2, .int x4), (0, .ref (G.1 + a)), (1, .int v1)] hX (by decide +kernel) rfl (by decide) rfl ?_
      refine J_aload_n (k0 := 0) (pc := 23) 1 hX (by decide +kernel) rfl rfl ?_
      refine J_bipush (pc := 24) (n := 24) (v := 24) hX (by decide +kernel) (by decide +kernel) ?_
      refine J_cVv (pc := 26) (idx := 94) [.int 24] hX (by decide +kernel) (mq mt_4 44 (by decide +kernel)) mv_Rd_take hL.1 rfl rfl (Nat.le_of_ble_eq_true rfl) (Nat.le_of_ble_eq_true rfl) (c_Rd_take hL 24 μ3) (fun μ5 => ?_)
      refine J_aload_n (k0 := 0) (pc := 29) 1 hX (by decide +kernel) rfl rfl ?_
      refine J_iload_n (k0 := 2) (pc := 30) 0 hX (by decide +kernel) rfl rfl ?_
      refine J_aload_n (k0 := 0) (pc := 31) 1 hX (by decide +kernel) rfl rfl ?_
      refine J_iload_n (k0 := 2) (pc := 32) 0 hX (by decide +kernel) rfl rfl ?_
      refine J_cVi (pc := 33) (idx := 100) [.int x4] hX (by decide +kernel) (mq mt_4 60 (by decide +kernel)) mv_Rd_whom hL.1 rfl rfl (Nat.le_of_ble_eq_true rfl) (Nat.le_of_ble_eq_true rfl) (c_Rd_whom hL x4 μ5) (fun x7 μ6 => ?_)
      refine J_iconst (pc := 36) (n := -1) (v := (-1)) hX (by decide +kernel) (by decide +kernel) ?_
      refine J_iconst (pc := 37) (n := -1) (v := (-1)) hX (by decide +kernel) (by decide +kernel) ?_
      refine J_cVv (pc := 38) (idx := 103) [.int x4, .int x7, .int ((-1)), .int ((-1))] hX (by decide +kernel) (mq mt_4 52 (by decide +kernel)) mv_Rd_ends hL.1 rfl rfl (Nat.le_of_ble_eq_true rfl) (Nat.le_of_ble_eq_true rfl) (c_Rd_ends hL x4 x7 ((-1)) ((-1)) μ6) (fun μ8 => ?_)
      refine J_iinc (pc := 41) (n := 1) 2 [(1, .int (v1 + 1)), (2, .int x4), (0, .ref (G.1 + a))] hX (by decide +kernel) rfl rfl (by decide) rfl ?_
      refine J_goto (pc := 44) (off := -42) (tgt := 2) hX (by decide +kernel) (by decide +kernel) ?_
      exact J_sub [2, 0] _ rfl (hk2 (v1 + 1) μ8)
set_option maxRecDepth 100000 in
set_option maxHeartbeats 4000000 in
theorem jRd_readHeirs_2 {X : Cx} {l : Launch} {G : Gx} {y : Ly} {a : Nat} (hL : LyRd y a ) (hX : Ok X l G prog_6_method_17_code 3 none "SaltFigures$Reader")    : ∀ (fu : Nat) (v1 : Int32) (μ : Mu), J X G 3 13 y (emy y) rvV tpT 2 [(0, .ref (G.1 + a)), (1, .int v1)] [] (μ, y) (Rd_readHeirs_2 a   fu v1 μ) := by
  intro fu
  induction fu with
  | zero => intros; exact J_none
  | succ fu ih => intro v1 μ; exact jRd_readHeirs_2b hL hX   ih v1 μ
set_option maxRecDepth 100000 in
set_option maxHeartbeats 4000000 in
theorem jRd_readHeirs {X : Cx} {l : Launch} {G : Gx} {y : Ly} {a : Nat} (hL : LyRd y a ) (hX : Ok X l G prog_6_method_17_code 3 none "SaltFigures$Reader")  (μ : Mu) : J X G 3 13 y (emy y) rvV tpT 0 [(0, .ref (G.1 + a))] [] (μ, y) (Rd_readHeirs a  μ) := by
  unfold Rd_readHeirs
  refine J_iconst (pc := 0) (n := 0) (v := 0) hX (by decide +kernel) (by decide +kernel) ?_
  refine J_istore_n (k0 := 1) (pc := 1) [(1, .int 0), (0, .ref (G.1 + a))] hX (by decide +kernel) rfl (by decide) rfl ?_
  exact J_sub [1, 0] _ rfl (jRd_readHeirs_2 hL hX FU 0 μ)
set_option maxRecDepth 100000 in
set_option maxHeartbeats 4000000 in
theorem c_Rd_readHeirs {l : Launch} {G : Gx} {y : Ly} {a : Nat} (hL : LyRd y a )  (μ : Mu) : Cn l G ⟨"SaltFigures$Reader", "readHeirs", "()V"⟩ prog_6_method_17_code 3 none 13 [.ref (G.1 + a)] (μ, y) (emy y) rvV tpT (Rd_readHeirs a  μ) := cn_of (by decide +kernel) (Nat.le_of_ble_eq_true rfl) (fun _ _ _ => ⟨List.prefix_refl _, trivial⟩) (fun X hX _ => jRd_readHeirs hL hX  μ)

def Sf_text_90 (a : Nat)   (v1 : Int32)  (μ : Mu) : Option (Int32 × Mu) := gF μ (a + 48) 8 (fun x1 => (if x1 = 0 then cl (Sf_accept a v1 μ) (fun _ μ2 => gF μ2 (a + 48) 10 (fun x3 => some (x3, μ2))) else some ((-1), μ)))
def Sf_text (a : Nat) (v1 : Int32) (μ : Mu) : Option (Int32 × Mu) := gF μ (a + 1 + 1) 3 (fun x1 => cl (Rd_open (a + 48) x1 μ) (fun _ μ2 => (if v1 = 0 then cl (Rd_readLaw (a + 48) μ2) (fun _ μ3 => Sf_text_90 a v1 μ3) else (if v1 = 1 then cl (Rd_readTable (a + 48) μ2) (fun _ μ4 => Sf_text_90 a v1 μ4) else (if v1 = 2 then cl (Rd_readWeather (a + 48) μ2) (fun _ μ5 => Sf_text_90 a v1 μ5) else (if v1 = 3 then cl (Rd_readHeirs (a + 48) μ2) (fun _ μ6 => Sf_text_90 a v1 μ6) else some ((-1), μ2)))))))
set_option maxRecDepth 100000 in
set_option maxHeartbeats 4000000 in
theorem jSf_text_90 {X : Cx} {l : Launch} {G : Gx} {y : Ly} {a : Nat} (hL : LySf y a ) (hX : Ok X l G prog_1_method_10_code 2 (some .int) "SaltFigures")  (v1 : Int32)    (μ : Mu) : J X G 2 102 y (emy y) rvI tpT 90 [(0, .ref (G.1 + a)), (1, .int v1)] [] (μ, y) (Sf_text_90 a   v1  μ) := by
  unfold Sf_text_90
  refine J_aload_n (k0 := 0) (pc := 90) 0 hX (by decide +kernel) rfl rfl ?_
  refine J_gr (pc := 91) hX (by decide +kernel) fl_Sf_50 hL.1 rfl hL.2.2.2.2.2.1.1 ?_
  refine J_gF (pc := 94) hX (by decide +kernel) fl_Sf_153 hL.2.2.2.2.2.1.2.1 rfl (fun x1 => ?_)
  refine J_if_eq (pc := 97) (off := 5) (tgt := 102) hX (by decide +kernel) (by decide +kernel) (fun _ => ?_) (fun _ => ?_)
  · refine J_aload_n (k0 := 0) (pc := 102) 0 hX (by decide +kernel) rfl rfl ?_
    refine J_iload_n (k0 := 1) (pc := 103) 1 hX (by decide +kernel) rfl rfl ?_
    refine J_cVv (pc := 104) (idx := 156) [.int v1] hX (by decide +kernel) (mq mt_4 72 (by decide +kernel)) mv_Sf_accept hL.1 rfl rfl (Nat.le_of_ble_eq_true rfl) (Nat.le_of_ble_eq_true rfl) (c_Sf_accept hL v1 μ) (fun μ2 => ?_)
    refine J_aload_n (k0 := 0) (pc := 107) 0 hX (by decide +kernel) rfl rfl ?_
    refine J_gr (pc := 108) hX (by decide +kernel) fl_Sf_50 hL.1 rfl hL.2.2.2.2.2.1.1 ?_
    refine J_gF (pc := 111) hX (by decide +kernel) fl_Sf_159 hL.2.2.2.2.2.1.2.1 rfl (fun x3 => ?_)
    exact J_iret (pc := 114) hX (by decide +kernel) rfl trivial
  · refine J_iconst (pc := 100) (n := -1) (v := (-1)) hX (by decide +kernel) (by decide +kernel) ?_
    exact J_iret (pc := 101) hX (by decide +kernel) rfl trivial
set_option maxRecDepth 100000 in
set_option maxHeartbeats 4000000 in
theorem jSf_text {X : Cx} {l : Launch} {G : Gx} {y : Ly} {a : Nat} (hL : LySf y a ) (hX : Ok X l G prog_1_method_10_code 2 (some .int) "SaltFigures") (v1 : Int32) (μ : Mu) : J X G 2 102 y (emy y) rvI tpT 0 [(0, .ref (G.1 + a)), (1, .int v1)] [] (μ, y) (Sf_text a v1 μ) := by
  unfold Sf_text
  refine J_aload_n (k0 := 0) (pc := 0) 0 hX (by decide +kernel) rfl rfl ?_
  refine J_gr (pc := 1) hX (by decide +kernel) fl_Sf_50 hL.1 rfl hL.2.2.2.2.2.1.1 ?_
  refine J_aload_n (k0 := 0) (pc := 4) 0 hX (by decide +kernel) rfl rfl ?_
  refine J_gr (pc := 5) hX (by decide +kernel) fl_Sf_12 hL.1 rfl hL.2.1.1 ?_
  refine J_gr (pc := 8) hX (by decide +kernel) fl_Sf_58 hL.2.1.2.1 rfl hL.2.1.2.2.1.1 ?_
  refine J_gF (pc := 11) hX (by decide +kernel) fl_Sf_72 hL.2.1.2.2.1.2.1 rfl (fun x1 => ?_)
  refine J_cVv (pc := 14) (idx := 138) [.int x1] hX (by decide +kernel) (mq mt_3 113 (by decide +kernel)) mv_Rd_open hL.2.2.2.2.2.1.2.1 rfl rfl (Nat.le_of_ble_eq_true rfl) (Nat.le_of_ble_eq_true rfl) (c_Rd_open hL.2.2.2.2.2.1.2 x1 μ) (fun μ2 => ?_)
  refine J_iload_n (k0 := 1) (pc := 17) 1 hX (by decide +kernel) rfl rfl ?_
  refine J_ite _ (fun hc0 => ?_) (fun hc0 => ?_)
  · refine J_tsIn (pc := 18) (dflt := 70) (lo := 0) (hi := 3) (offs := #[30, 40, 50, 60]) (len := 30) (off := 30) (tgt := 48) 0 hc0 hX (by decide +kernel) (by decide +kernel) (by decide +kernel) (by decide +kernel) (by decide +kernel) ?_
    refine J_aload_n (k0 := 0) (pc := 48) 0 hX (by decide +kernel) rfl rfl ?_
    refine J_gr (pc := 49) hX (by decide +kernel) fl_Sf_50 hL.1 rfl hL.2.2.2.2.2.1.1 ?_
    refine J_cVv (pc := 52) (idx := 141) [] hX (by decide +kernel) (mq mt_3 236 (by decide +kernel)) mv_Rd_readLaw hL.2.2.2.2.2.1.2.1 rfl rfl (Nat.le_of_ble_eq_true rfl) (Nat.le_of_ble_eq_true rfl) (c_Rd_readLaw hL.2.2.2.2.2.1.2 μ2) (fun μ3 => ?_)
    refine J_goto (pc := 55) (off := 35) (tgt := 90) hX (by decide +kernel) (by decide +kernel) ?_
    exact J_sub [0, 1] _ rfl (jSf_text_90 hL hX v1 μ3)
  · refine J_ite _ (fun hc1 => ?_) (fun hc1 => ?_)
    · refine J_tsIn (pc := 18) (dflt := 70) (lo := 0) (hi := 3) (offs := #[30, 40, 50, 60]) (len := 30) (off := 40) (tgt := 58) 1 hc1 hX (by decide +kernel) (by decide +kernel) (by decide +kernel) (by decide +kernel) (by decide +kernel) ?_
      refine J_aload_n (k0 := 0) (pc := 58) 0 hX (by decide +kernel) rfl rfl ?_
      refine J_gr (pc := 59) hX (by decide +kernel) fl_Sf_50 hL.1 rfl hL.2.2.2.2.2.1.1 ?_
      refine J_cVv (pc := 62) (idx := 144) [] hX (by decide +kernel) (mq mt_4 56 (by decide +kernel)) mv_Rd_readTable hL.2.2.2.2.2.1.2.1 rfl rfl (Nat.le_of_ble_eq_true rfl) (Nat.le_of_ble_eq_true rfl) (c_Rd_readTable hL.2.2.2.2.2.1.2 μ2) (fun μ4 => ?_)
      refine J_goto (pc := 65) (off := 25) (tgt := 90) hX (by decide +kernel) (by decide +kernel) ?_
      exact J_sub [0, 1] _ rfl (jSf_text_90 hL hX v1 μ4)
    · refine J_ite _ (fun hc2 => ?_) (fun hc2 => ?_)
      · refine J_tsIn (pc := 18) (dflt := 70) (lo := 0) (hi := 3) (offs := #[30, 40, 50, 60]) (len := 30) (off := 50) (tgt := 68) 2 hc2 hX (by decide +kernel) (by decide +kernel) (by decide +kernel) (by decide +kernel) (by decide +kernel) ?_
        refine J_aload_n (k0 := 0) (pc := 68) 0 hX (by decide +kernel) rfl rfl ?_
        refine J_gr (pc := 69) hX (by decide +kernel) fl_Sf_50 hL.1 rfl hL.2.2.2.2.2.1.1 ?_
        refine J_cVv (pc := 72) (idx := 147) [] hX (by decide +kernel) (mq mt_4 64 (by decide +kernel)) mv_Rd_readWeather hL.2.2.2.2.2.1.2.1 rfl rfl (Nat.le_of_ble_eq_true rfl) (Nat.le_of_ble_eq_true rfl) (c_Rd_readWeather hL.2.2.2.2.2.1.2 μ2) (fun μ5 => ?_)
        refine J_goto (pc := 75) (off := 15) (tgt := 90) hX (by decide +kernel) (by decide +kernel) ?_
        exact J_sub [0, 1] _ rfl (jSf_text_90 hL hX v1 μ5)
      · refine J_ite _ (fun hc3 => ?_) (fun hc3 => ?_)
        · refine J_tsIn (pc := 18) (dflt := 70) (lo := 0) (hi := 3) (offs := #[30, 40, 50, 60]) (len := 30) (off := 60) (tgt := 78) 3 hc3 hX (by decide +kernel) (by decide +kernel) (by decide +kernel) (by decide +kernel) (by decide +kernel) ?_
          refine J_aload_n (k0 := 0) (pc := 78) 0 hX (by decide +kernel) rfl rfl ?_
          refine J_gr (pc := 79) hX (by decide +kernel) fl_Sf_50 hL.1 rfl hL.2.2.2.2.2.1.1 ?_
          refine J_cVv (pc := 82) (idx := 150) [] hX (by decide +kernel) (mq mt_4 68 (by decide +kernel)) mv_Rd_readHeirs hL.2.2.2.2.2.1.2.1 rfl rfl (Nat.le_of_ble_eq_true rfl) (Nat.le_of_ble_eq_true rfl) (c_Rd_readHeirs hL.2.2.2.2.2.1.2 μ2) (fun μ6 => ?_)
          refine J_goto (pc := 85) (off := 5) (tgt := 90) hX (by decide +kernel) (by decide +kernel) ?_
          exact J_sub [0, 1] _ rfl (jSf_text_90 hL hX v1 μ6)
        · refine J_tsOut (pc := 18) (dflt := 70) (lo := 0) (hi := 3) (offs := #[30, 40, 50, 60]) (len := 30) (tgt := 88) hX (by decide +kernel) (by simp only [i32_eq] at hc0 hc1 hc2 hc3; have q0 : ((0 : Int32)).toInt = 0 := (by decide +kernel) ; have q1 : ((1 : Int32)).toInt = 1 := (by decide +kernel) ; have q2 : ((2 : Int32)).toInt = 2 := (by decide +kernel) ; have q3 : ((3 : Int32)).toInt = 3 := (by decide +kernel); omega) (by decide +kernel) ?_
          refine J_iconst (pc := 88) (n := -1) (v := (-1)) hX (by decide +kernel) (by decide +kernel) ?_
          exact J_iret (pc := 89) hX (by decide +kernel) rfl trivial
set_option maxRecDepth 100000 in
set_option maxHeartbeats 4000000 in
theorem c_Sf_text {l : Launch} {G : Gx} {y : Ly} {a : Nat} (hL : LySf y a ) (v1 : Int32) (μ : Mu) : Cn l G ⟨"SaltFigures", "text", "(I)I"⟩ prog_1_method_10_code 2 (some .int) 102 [.ref (G.1 + a), .int v1] (μ, y) (emy y) rvI tpT (Sf_text a v1 μ) := cn_of (by decide +kernel) (Nat.le_of_ble_eq_true rfl) (fun _ _ _ => ⟨List.prefix_refl _, trivial⟩) (fun X hX _ => jSf_text hL hX v1 μ)

def Th_tellShortly_107 (a tt : Nat) (kb7 : Int32 → Int32 → Int32 → Mu → Option (Int32 × Mu))  (v1 : Int32) (v2 : Int32) (v3 : Int32) (v4 : Int32)  (μ : Mu) : Option (Int32 × Mu) := kb7 v2 v3 (v4 + 1) μ
def Th_tellShortly_64 (a tt : Nat) (kb7 : Int32 → Int32 → Int32 → Mu → Option (Int32 × Mu))  (v1 : Int32) (v2 : Int32) (v3 : Int32) (v4 : Int32) (s0 : Int32) (μ : Mu) : Option (Int32 × Mu) := (if s0 = 0 then Th_tellShortly_107 a tt kb7 v1 v2 v3 v4 μ else (if 361 ≤ (v2 + 1) then Th_tellShortly_107 a tt kb7 v1 v2 v3 v4 μ else stA μ (a + 1) 361 v2 v3 (fun μ1 => ldA μ1 (a + 2) 32 v4 (fun x2 => stA μ1 (a + 1) 361 (v2 + 1) x2 (fun μ3 => Th_tellShortly_107 a tt kb7 v1 (v2 + 2) 0 v4 μ3)))))
def Th_tellShortly_59 (a tt : Nat) (kb7 : Int32 → Int32 → Int32 → Mu → Option (Int32 × Mu))  (v1 : Int32) (v2 : Int32) (v3 : Int32) (v4 : Int32)  (μ : Mu) : Option (Int32 × Mu) := Th_tellShortly_64 a tt kb7 v1 v2 v3 v4 1 μ
def Th_tellShortly_7b (a tt : Nat)  (kb7 : Int32 → Int32 → Int32 → Mu → Option (Int32 × Mu)) (v1 : Int32) (v2 : Int32) (v3 : Int32) (v4 : Int32)  (μ : Mu) : Option (Int32 × Mu) := (if v1 ≤ v4 then some (v2, μ) else (if 32 ≤ v4 then some (v2, μ) else (if v1 ≤ (v4 + 1) then Th_tellShortly_59 a tt kb7 v1 v2 (v3 + 1) v4 μ else (if 32 ≤ (v4 + 1) then Th_tellShortly_59 a tt kb7 v1 v2 (v3 + 1) v4 μ else ldA μ (a + 2) 32 (v4 + 1) (fun x1 => ldA μ (a + 2) 32 v4 (fun x2 => (if x1 = x2 then Th_tellShortly_64 a tt kb7 v1 v2 (v3 + 1) v4 0 μ else Th_tellShortly_59 a tt kb7 v1 v2 (v3 + 1) v4 μ)))))))
def Th_tellShortly_7 (a tt : Nat)  (v1 : Int32) (fu : Nat) : Int32 → Int32 → Int32 → Mu → Option (Int32 × Mu) := lp (fun kb => Th_tellShortly_7b a tt  kb v1) (fun _ _ _ _ => none) fu
def Th_tellShortly (a tt : Nat) (v1 : Int32) (μ : Mu) : Option (Int32 × Mu) := Th_tellShortly_7 a tt v1 FU 0 0 0 μ
set_option maxRecDepth 100000 in
set_option maxHeartbeats 4000000 in
theorem jTh_tellShortly_107 {X : Cx} {l : Launch} {G : Gx} {y : Ly} {a tt : Nat} (hL : LyTh y a tt) (hX : Ok X l G prog_10_method_21_code 6 (some .int) "SaltFigures$Thinker")  (v1 : Int32) (v2 : Int32) (v3 : Int32) (v4 : Int32)  {kb7 : Int32 → Int32 → Int32 → Mu → Option (Int32 × Mu)} (hk7 : ∀ (v2 : Int32) (v3 : Int32) (v4 : Int32) (μ : Mu), J X G 6 1 y (emy y) rvI tpT 7 [(0, .ref (G.1 + a)), (1, .int v1), (2, .int v2), (3, .int v3), (4, .int v4)] [] (μ, y) (kb7 v2 v3 v4 μ)) (μ : Mu) : J X G 6 1 y (emy y) rvI tpT 107 [(0, .ref (G.1 + a)), (1, .int v1), (2, .int v2), (3, .int v3), (4, .int v4)] [] (μ, y) (Th_tellShortly_107 a tt kb7  v1 v2 v3 v4  μ) := by
  unfold Th_tellShortly_107
  refine J_iinc (pc := 107) (n := 1) 4 [(4, .int (v4 + 1)), (0, .ref (G.1 + a)), (1, .int v1), (2, .int v2), (3, .int v3)] hX (by decide +kernel) rfl rfl (by decide) rfl ?_
  refine J_goto (pc := 110) (off := -103) (tgt := 7) hX (by decide +kernel) (by decide +kernel) ?_
  exact J_sub [1, 2, 3, 4, 0] _ rfl (hk7 v2 v3 (v4 + 1) μ)
set_option maxRecDepth 100000 in
set_option maxHeartbeats 4000000 in
theorem jTh_tellShortly_64 {X : Cx} {l : Launch} {G : Gx} {y : Ly} {a tt : Nat} (hL : LyTh y a tt) (hX : Ok X l G prog_10_method_21_code 6 (some .int) "SaltFigures$Thinker")  (v1 : Int32) (v2 : Int32) (v3 : Int32) (v4 : Int32) (s0 : Int32) {kb7 : Int32 → Int32 → Int32 → Mu → Option (Int32 × Mu)} (hk7 : ∀ (v2 : Int32) (v3 : Int32) (v4 : Int32) (μ : Mu), J X G 6 1 y (emy y) rvI tpT 7 [(0, .ref (G.1 + a)), (1, .int v1), (2, .int v2), (3, .int v3), (4, .int v4)] [] (μ, y) (kb7 v2 v3 v4 μ)) (μ : Mu) : J X G 6 1 y (emy y) rvI tpT 64 [(0, .ref (G.1 + a)), (1, .int v1), (2, .int v2), (3, .int v3), (4, .int v4)] [.int s0] (μ, y) (Th_tellShortly_64 a tt kb7  v1 v2 v3 v4 s0 μ) := by
  unfold Th_tellShortly_64
  refine J_istore (pc := 64) [(5, .int s0), (0, .ref (G.1 + a)), (1, .int v1), (2, .int v2), (3, .int v3), (4, .int v4)] hX (by decide +kernel) (by decide) rfl ?_
  refine J_iload (pc := 66) 0 hX (by decide +kernel) rfl ?_
  refine J_if_eq (pc := 68) (off := 39) (tgt := 107) hX (by decide +kernel) (by decide +kernel) (fun _ => ?_) (fun _ => ?_)
  · exact J_sub [1, 2, 3, 4, 5] _ rfl (jTh_tellShortly_107 hL hX v1 v2 v3 v4 hk7 μ)
  · refine J_iload_n (k0 := 2) (pc := 71) 3 hX (by decide +kernel) rfl rfl ?_
    refine J_iconst (pc := 72) (n := 1) (v := 1) hX (by decide +kernel) (by decide +kernel) ?_
    refine J_iadd (pc := 73) hX (by decide +kernel) ?_
    refine J_sipush (pc := 74) (n := 361) (v := 361) hX (by decide +kernel) (by decide +kernel) ?_
    refine J_icmp_ge (pc := 77) (off := 30) (tgt := 107) hX (by decide +kernel) (by decide +kernel) (fun _ => ?_) (fun _ => ?_)
    · exact J_sub [1, 2, 3, 4, 5] _ rfl (jTh_tellShortly_107 hL hX v1 v2 v3 v4 hk7 μ)
    · refine J_aload_n (k0 := 0) (pc := 80) 1 hX (by decide +kernel) rfl rfl ?_
      refine J_gr (pc := 81) hX (by decide +kernel) fl_Th_11 hL.1 rfl hL.2.2.1.1 ?_
      refine J_iload_n (k0 := 2) (pc := 84) 3 hX (by decide +kernel) rfl rfl ?_
      refine J_iload_n (k0 := 3) (pc := 85) 4 hX (by decide +kernel) rfl rfl ?_
      refine J_stA (pc := 86) hX (by decide +kernel) hL.2.2.1.2 (fun μ1 => ?_)
      refine J_aload_n (k0 := 0) (pc := 87) 1 hX (by decide +kernel) rfl rfl ?_
      refine J_gr (pc := 88) hX (by decide +kernel) fl_Th_11 hL.1 rfl hL.2.2.1.1 ?_
      refine J_iload_n (k0 := 2) (pc := 91) 3 hX (by decide +kernel) rfl rfl ?_
      refine J_iconst (pc := 92) (n := 1) (v := 1) hX (by decide +kernel) (by decide +kernel) ?_
      refine J_iadd (pc := 93) hX (by decide +kernel) ?_
      refine J_aload_n (k0 := 0) (pc := 94) 1 hX (by decide +kernel) rfl rfl ?_
      refine J_gr (pc := 95) hX (by decide +kernel) fl_Th_15 hL.1 rfl hL.2.2.2.1.1 ?_
      refine J_iload (pc := 98) 5 hX (by decide +kernel) rfl ?_
      refine J_ldA (pc := 100) hX (by decide +kernel) hL.2.2.2.1.2 (fun x2 => ?_)
      refine J_stA (pc := 101) hX (by decide +kernel) hL.2.2.1.2 (fun μ3 => ?_)
      refine J_iinc (pc := 102) (n := 2) 3 [(2, .int (v2 + 2)), (5, .int s0), (0, .ref (G.1 + a)), (1, .int v1), (3, .int v3), (4, .int v4)] hX (by decide +kernel) rfl rfl (by decide) rfl ?_
      refine J_iconst (pc := 105) (n := 0) (v := 0) hX (by decide +kernel) (by decide +kernel) ?_
      refine J_istore_n (k0 := 3) (pc := 106) [(3, .int 0), (2, .int (v2 + 2)), (5, .int s0), (0, .ref (G.1 + a)), (1, .int v1), (4, .int v4)] hX (by decide +kernel) rfl (by decide) rfl ?_
      exact J_sub [3, 4, 1, 0, 5] _ rfl (jTh_tellShortly_107 hL hX v1 (v2 + 2) 0 v4 hk7 μ3)
set_option maxRecDepth 100000 in
set_option maxHeartbeats 4000000 in
theorem jTh_tellShortly_59 {X : Cx} {l : Launch} {G : Gx} {y : Ly} {a tt : Nat} (hL : LyTh y a tt) (hX : Ok X l G prog_10_method_21_code 6 (some .int) "SaltFigures$Thinker")  (v1 : Int32) (v2 : Int32) (v3 : Int32) (v4 : Int32)  {kb7 : Int32 → Int32 → Int32 → Mu → Option (Int32 × Mu)} (hk7 : ∀ (v2 : Int32) (v3 : Int32) (v4 : Int32) (μ : Mu), J X G 6 1 y (emy y) rvI tpT 7 [(0, .ref (G.1 + a)), (1, .int v1), (2, .int v2), (3, .int v3), (4, .int v4)] [] (μ, y) (kb7 v2 v3 v4 μ)) (μ : Mu) : J X G 6 1 y (emy y) rvI tpT 59 [(0, .ref (G.1 + a)), (1, .int v1), (2, .int v2), (3, .int v3), (4, .int v4)] [] (μ, y) (Th_tellShortly_59 a tt kb7  v1 v2 v3 v4  μ) := by
  unfold Th_tellShortly_59
  refine J_iconst (pc := 59) (n := 1) (v := 1) hX (by decide +kernel) (by decide +kernel) ?_
  refine J_goto (pc := 60) (off := 4) (tgt := 64) hX (by decide +kernel) (by decide +kernel) ?_
  exact J_sub [0, 1, 2, 3, 4] _ rfl (jTh_tellShortly_64 hL hX v1 v2 v3 v4 1 hk7 μ)
set_option maxRecDepth 100000 in
set_option maxHeartbeats 4000000 in
theorem jTh_tellShortly_7b {X : Cx} {l : Launch} {G : Gx} {y : Ly} {a tt : Nat} (hL : LyTh y a tt) (hX : Ok X l G prog_10_method_21_code 6 (some .int) "SaltFigures$Thinker") (v1 : Int32)  {kb7 : Int32 → Int32 → Int32 → Mu → Option (Int32 × Mu)}  (hk7 : ∀ (v2 : Int32) (v3 : Int32) (v4 : Int32) (μ : Mu), J X G 6 1 y (emy y) rvI tpT 7 [(0, .ref (G.1 + a)), (1, .int v1), (2, .int v2), (3, .int v3), (4, .int v4)] [] (μ, y) (kb7 v2 v3 v4 μ)) (v2 : Int32) (v3 : Int32) (v4 : Int32)  (μ : Mu) : J X G 6 1 y (emy y) rvI tpT 7 [(0, .ref (G.1 + a)), (1, .int v1), (2, .int v2), (3, .int v3), (4, .int v4)] [] (μ, y) (Th_tellShortly_7b a tt  kb7 v1 v2 v3 v4  μ) := by
  unfold Th_tellShortly_7b
  refine J_iload (pc := 7) 4 hX (by decide +kernel) rfl ?_
  refine J_iload_n (k0 := 1) (pc := 9) 1 hX (by decide +kernel) rfl rfl ?_
  refine J_icmp_ge (pc := 10) (off := 103) (tgt := 113) hX (by decide +kernel) (by decide +kernel) (fun _ => ?_) (fun _ => ?_)
  · refine J_iload_n (k0 := 2) (pc := 113) 2 hX (by decide +kernel) rfl rfl ?_
    exact J_iret (pc := 114) hX (by decide +kernel) rfl trivial
  · refine J_iload (pc := 13) 4 hX (by decide +kernel) rfl ?_
    refine J_bipush (pc := 15) (n := 32) (v := 32) hX (by decide +kernel) (by decide +kernel) ?_
    refine J_icmp_ge (pc := 17) (off := 96) (tgt := 113) hX (by decide +kernel) (by decide +kernel) (fun _ => ?_) (fun _ => ?_)
    · refine J_iload_n (k0 := 2) (pc := 113) 2 hX (by decide +kernel) rfl rfl ?_
      exact J_iret (pc := 114) hX (by decide +kernel) rfl trivial
    · refine J_iinc (pc := 20) (n := 1) 3 [(3, .int (v3 + 1)), (0, .ref (G.1 + a)), (1, .int v1), (2, .int v2), (4, .int v4)] hX (by decide +kernel) rfl rfl (by decide) rfl ?_
      refine J_iload (pc := 23) 4 hX (by decide +kernel) rfl ?_
      refine J_iconst (pc := 25) (n := 1) (v := 1) hX (by decide +kernel) (by decide +kernel) ?_
      refine J_iadd (pc := 26) hX (by decide +kernel) ?_
      refine J_iload_n (k0 := 1) (pc := 27) 2 hX (by decide +kernel) rfl rfl ?_
      refine J_icmp_ge (pc := 28) (off := 31) (tgt := 59) hX (by decide +kernel) (by decide +kernel) (fun _ => ?_) (fun _ => ?_)
      · exact J_sub [1, 2, 3, 0, 4] _ rfl (jTh_tellShortly_59 hL hX v1 v2 (v3 + 1) v4 hk7 μ)
      · refine J_iload (pc := 31) 4 hX (by decide +kernel) rfl ?_
        refine J_iconst (pc := 33) (n := 1) (v := 1) hX (by decide +kernel) (by decide +kernel) ?_
        refine J_iadd (pc := 34) hX (by decide +kernel) ?_
        refine J_bipush (pc := 35) (n := 32) (v := 32) hX (by decide +kernel) (by decide +kernel) ?_
        refine J_icmp_ge (pc := 37) (off := 22) (tgt := 59) hX (by decide +kernel) (by decide +kernel) (fun _ => ?_) (fun _ => ?_)
        · exact J_sub [1, 2, 3, 0, 4] _ rfl (jTh_tellShortly_59 hL hX v1 v2 (v3 + 1) v4 hk7 μ)
        · refine J_aload_n (k0 := 0) (pc := 40) 1 hX (by decide +kernel) rfl rfl ?_
          refine J_gr (pc := 41) hX (by decide +kernel) fl_Th_15 hL.1 rfl hL.2.2.2.1.1 ?_
          refine J_iload (pc := 44) 4 hX (by decide +kernel) rfl ?_
          refine J_iconst (pc := 46) (n := 1) (v := 1) hX (by decide +kernel) (by decide +kernel) ?_
          refine J_iadd (pc := 47) hX (by decide +kernel) ?_
          refine J_ldA (pc := 48) hX (by decide +kernel) hL.2.2.2.1.2 (fun x1 => ?_)
          refine J_aload_n (k0 := 0) (pc := 49) 1 hX (by decide +kernel) rfl rfl ?_
          refine J_gr (pc := 50) hX (by decide +kernel) fl_Th_15 hL.1 rfl hL.2.2.2.1.1 ?_
          refine J_iload (pc := 53) 4 hX (by decide +kernel) rfl ?_
          refine J_ldA (pc := 55) hX (by decide +kernel) hL.2.2.2.1.2 (fun x2 => ?_)
          refine J_icmp_eq (pc := 56) (off := 7) (tgt := 63) hX (by decide +kernel) (by decide +kernel) (fun _ => ?_) (fun _ => ?_)
          · refine J_iconst (pc := 63) (n := 0) (v := 0) hX (by decide +kernel) (by decide +kernel) ?_
            exact J_sub [1, 2, 3, 0, 4] _ rfl (jTh_tellShortly_64 hL hX v1 v2 (v3 + 1) v4 0 hk7 μ)
          · exact J_sub [1, 2, 3, 0, 4] _ rfl (jTh_tellShortly_59 hL hX v1 v2 (v3 + 1) v4 hk7 μ)
set_option maxRecDepth 100000 in
set_option maxHeartbeats 4000000 in
theorem jTh_tellShortly_7 {X : Cx} {l : Launch} {G : Gx} {y : Ly} {a tt : Nat} (hL : LyTh y a tt) (hX : Ok X l G prog_10_method_21_code 6 (some .int) "SaltFigures$Thinker") (v1 : Int32)   : ∀ (fu : Nat) (v2 : Int32) (v3 : Int32) (v4 : Int32) (μ : Mu), J X G 6 1 y (emy y) rvI tpT 7 [(0, .ref (G.1 + a)), (1, .int v1), (2, .int v2), (3, .int v3), (4, .int v4)] [] (μ, y) (Th_tellShortly_7 a tt  v1 fu v2 v3 v4 μ) := by
  intro fu
  induction fu with
  | zero => intros; exact J_none
  | succ fu ih => intro v2 v3 v4 μ; exact jTh_tellShortly_7b hL hX v1  ih v2 v3 v4 μ
set_option maxRecDepth 100000 in
set_option maxHeartbeats 4000000 in
theorem jTh_tellShortly {X : Cx} {l : Launch} {G : Gx} {y : Ly} {a tt : Nat} (hL : LyTh y a tt) (hX : Ok X l G prog_10_method_21_code 6 (some .int) "SaltFigures$Thinker") (v1 : Int32) (μ : Mu) : J X G 6 1 y (emy y) rvI tpT 0 [(0, .ref (G.1 + a)), (1, .int v1)] [] (μ, y) (Th_tellShortly a tt v1 μ) := by
  unfold Th_tellShortly
  refine J_iconst (pc := 0) (n := 0) (v := 0) hX (by decide +kernel) (by decide +kernel) ?_
  refine J_istore_n (k0 := 2) (pc := 1) [(2, .int 0), (0, .ref (G.1 + a)), (1, .int v1)] hX (by decide +kernel) rfl (by decide) rfl ?_
  refine J_iconst (pc := 2) (n := 0) (v := 0) hX (by decide +kernel) (by decide +kernel) ?_
  refine J_istore_n (k0 := 3) (pc := 3) [(3, .int 0), (2, .int 0), (0, .ref (G.1 + a)), (1, .int v1)] hX (by decide +kernel) rfl (by decide) rfl ?_
  refine J_iconst (pc := 4) (n := 0) (v := 0) hX (by decide +kernel) (by decide +kernel) ?_
  refine J_istore (pc := 5) [(4, .int 0), (3, .int 0), (2, .int 0), (0, .ref (G.1 + a)), (1, .int v1)] hX (by decide +kernel) (by decide) rfl ?_
  exact J_sub [3, 4, 2, 1, 0] _ rfl (jTh_tellShortly_7 hL hX v1 FU 0 0 0 μ)
set_option maxRecDepth 100000 in
set_option maxHeartbeats 4000000 in
theorem c_Th_tellShortly {l : Launch} {G : Gx} {y : Ly} {a tt : Nat} (hL : LyTh y a tt) (v1 : Int32) (μ : Mu) : Cn l G ⟨"SaltFigures$Thinker", "tellShortly", "(I)I"⟩ prog_10_method_21_code 6 (some .int) 1 [.ref (G.1 + a), .int v1] (μ, y) (emy y) rvI tpT (Th_tellShortly a tt v1 μ) := cn_of (by decide +kernel) (Nat.le_of_ble_eq_true rfl) (fun _ _ _ => ⟨List.prefix_refl _, trivial⟩) (fun X hX _ => jTh_tellShortly hL hX v1 μ)

def Th_toldAgain_11b (a tt : Nat)  (kb11 : Int32 → Int32 → Mu → Option (Int32 × Mu)) (v1 : Int32) (v2 : Int32) (v3 : Int32)  (μ : Mu) : Option (Int32 × Mu) := (if v1 ≤ v3 then some (v2, μ) else cl (Th_tellShortly a tt v2 μ) (fun x2 μ1 => cpA μ1 (a + 1) 361 0 (a + 2) 32 0 (jmax 0 (jmin x2 32)) (fun μ3 => kb11 x2 (v3 + 1) μ3)))
def Th_toldAgain_11 (a tt : Nat)  (v1 : Int32) (fu : Nat) : Int32 → Int32 → Mu → Option (Int32 × Mu) := lp (fun kb => Th_toldAgain_11b a tt  kb v1) (fun _ _ _ => none) fu
def Th_toldAgain (a tt : Nat) (v1 : Int32) (μ : Mu) : Option (Int32 × Mu) := stA μ (a + 2) 32 0 1 (fun μ1 => Th_toldAgain_11 a tt v1 FU 1 0 μ1)
set_option maxRecDepth 100000 in
set_option maxHeartbeats 4000000 in
theorem jTh_toldAgain_11b {X : Cx} {l : Launch} {G : Gx} {y : Ly} {a tt : Nat} (hL : LyTh y a tt) (hX : Ok X l G prog_10_method_20_code 4 (some .int) "SaltFigures$Thinker") (v1 : Int32)  {kb11 : Int32 → Int32 → Mu → Option (Int32 × Mu)}  (hk11 : ∀ (v2 : Int32) (v3 : Int32) (μ : Mu), J X G 4 3 y (emy y) rvI tpT 11 [(0, .ref (G.1 + a)), (1, .int v1), (2, .int v2), (3, .int v3)] [] (μ, y) (kb11 v2 v3 μ)) (v2 : Int32) (v3 : Int32)  (μ : Mu) : J X G 4 3 y (emy y) rvI tpT 11 [(0, .ref (G.1 + a)), (1, .int v1), (2, .int v2), (3, .int v3)] [] (μ, y) (Th_toldAgain_11b a tt  kb11 v1 v2 v3  μ) := by
  unfold Th_toldAgain_11b
  refine J_iload_n (k0 := 3) (pc := 11) 3 hX (by decide +kernel) rfl rfl ?_
  refine J_iload_n (k0 := 1) (pc := 12) 1 hX (by decide +kernel) rfl rfl ?_
  refine J_icmp_ge (pc := 13) (off := 38) (tgt := 51) hX (by decide +kernel) (by decide +kernel) (fun _ => ?_) (fun _ => ?_)
  · refine J_iload_n (k0 := 2) (pc := 51) 2 hX (by decide +kernel) rfl rfl ?_
    exact J_iret (pc := 52) hX (by decide +kernel) rfl trivial
  · refine J_aload_n (k0 := 0) (pc := 16) 0 hX (by decide +kernel) rfl rfl ?_
    refine J_iload_n (k0 := 2) (pc := 17) 2 hX (by decide +kernel) rfl rfl ?_
    refine J_cVi (pc := 18) (idx := 115) [.int v2] hX (by decide +kernel) (mq mt_5 114 (by decide +kernel)) mv_Th_tellShortly hL.1 rfl rfl (Nat.le_of_ble_eq_true rfl) (Nat.le_of_ble_eq_true rfl) (c_Th_tellShortly hL v2 μ) (fun x2 μ1 => ?_)
    refine J_istore_n (k0 := 2) (pc := 21) [(2, .int x2), (0, .ref (G.1 + a)), (1, .int v1), (3, .int v3)] hX (by decide +kernel) rfl (by decide) rfl ?_
    refine J_aload_n (k0 := 0) (pc := 22) 1 hX (by decide +kernel) rfl rfl ?_
    refine J_gr (pc := 23) hX (by decide +kernel) fl_Th_11 hL.1 rfl hL.2.2.1.1 ?_
    refine J_iconst (pc := 26) (n := 0) (v := 0) hX (by decide +kernel) (by decide +kernel) ?_
    refine J_aload_n (k0 := 0) (pc := 27) 1 hX (by decide +kernel) rfl rfl ?_
    refine J_gr (pc := 28) hX (by decide +kernel) fl_Th_15 hL.1 rfl hL.2.2.2.1.1 ?_
    refine J_iconst (pc := 31) (n := 0) (v := 0) hX (by decide +kernel) (by decide +kernel) ?_
    refine J_iconst (pc := 32) (n := 0) (v := 0) hX (by decide +kernel) (by decide +kernel) ?_
    refine J_iload_n (k0 := 2) (pc := 33) 0 hX (by decide +kernel) rfl rfl ?_
    refine J_bipush (pc := 34) (n := 32) (v := 32) hX (by decide +kernel) (by decide +kernel) ?_
    refine J_mmin (pc := 36) (idx := 118) hX (by decide +kernel) (mq mt_5 118 (by decide +kernel)) (Nat.le_of_ble_eq_true rfl) (Nat.le_of_ble_eq_true rfl) ?_
    refine J_mmax (pc := 39) (idx := 100) hX (by decide +kernel) (mq mt_5 95 (by decide +kernel)) (Nat.le_of_ble_eq_true rfl) (Nat.le_of_ble_eq_true rfl) ?_
    refine J_acp (pc := 42) (idx := 121) hX (by decide +kernel) (mq mt_5 119 (by decide +kernel)) hL.2.2.1.2 hL.2.2.2.1.2 (Nat.le_of_ble_eq_true rfl) (Nat.le_of_ble_eq_true rfl) (fun μ3 => ?_)
    refine J_iinc (pc := 45) (n := 1) 3 [(3, .int (v3 + 1)), (2, .int x2), (0, .ref (G.1 + a)), (1, .int v1)] hX (by decide +kernel) rfl rfl (by decide) rfl ?_
    refine J_goto (pc := 48) (off := -37) (tgt := 11) hX (by decide +kernel) (by decide +kernel) ?_
    exact J_sub [2, 3, 1, 0] _ rfl (hk11 x2 (v3 + 1) μ3)
set_option maxRecDepth 100000 in
set_option maxHeartbeats 4000000 in
theorem jTh_toldAgain_11 {X : Cx} {l : Launch} {G : Gx} {y : Ly} {a tt : Nat} (hL : LyTh y a tt) (hX : Ok X l G prog_10_method_20_code 4 (some .int) "SaltFigures$Thinker") (v1 : Int32)   : ∀ (fu : Nat) (v2 : Int32) (v3 : Int32) (μ : Mu), J X G 4 3 y (emy y) rvI tpT 11 [(0, .ref (G.1 + a)), (1, .int v1), (2, .int v2), (3, .int v3)] [] (μ, y) (Th_toldAgain_11 a tt  v1 fu v2 v3 μ) := by
  intro fu
  induction fu with
  | zero => intros; exact J_none
  | succ fu ih => intro v2 v3 μ; exact jTh_toldAgain_11b hL hX v1  ih v2 v3 μ
set_option maxRecDepth 100000 in
set_option maxHeartbeats 4000000 in
theorem jTh_toldAgain {X : Cx} {l : Launch} {G : Gx} {y : Ly} {a tt : Nat} (hL : LyTh y a tt) (hX : Ok X l G prog_10_method_20_code 4 (some .int) "SaltFigures$Thinker") (v1 : Int32) (μ : Mu) : J X G 4 3 y (emy y) rvI tpT 0 [(0, .ref (G.1 + a)), (1, .int v1)] [] (μ, y) (Th_toldAgain a tt v1 μ) := by
  unfold Th_toldAgain
  refine J_iconst (pc := 0) (n := 1) (v := 1) hX (by decide +kernel) (by decide +kernel) ?_
  refine J_istore_n (k0 := 2) (pc := 1) [(2, .int 1), (0, .ref (G.1 + a)), (1, .int v1)] hX (by decide +kernel) rfl (by decide) rfl ?_
  refine J_aload_n (k0 := 0) (pc := 2) 1 hX (by decide +kernel) rfl rfl ?_
  refine J_gr (pc := 3) hX (by decide +kernel) fl_Th_15 hL.1 rfl hL.2.2.2.1.1 ?_
  refine J_iconst (pc := 6) (n := 0) (v := 0) hX (by decide +kernel) (by decide +kernel) ?_
  refine J_iconst (pc := 7) (n := 1) (v := 1) hX (by decide +kernel) (by decide +kernel) ?_
  refine J_stA (pc := 8) hX (by decide +kernel) hL.2.2.2.1.2 (fun μ1 => ?_)
  refine J_iconst (pc := 9) (n := 0) (v := 0) hX (by decide +kernel) (by decide +kernel) ?_
  refine J_istore_n (k0 := 3) (pc := 10) [(3, .int 0), (2, .int 1), (0, .ref (G.1 + a)), (1, .int v1)] hX (by decide +kernel) rfl (by decide) rfl ?_
  exact J_sub [2, 3, 1, 0] _ rfl (jTh_toldAgain_11 hL hX v1 FU 1 0 μ1)
set_option maxRecDepth 100000 in
set_option maxHeartbeats 4000000 in
theorem c_Th_toldAgain {l : Launch} {G : Gx} {y : Ly} {a tt : Nat} (hL : LyTh y a tt) (v1 : Int32) (μ : Mu) : Cn l G ⟨"SaltFigures$Thinker", "toldAgain", "(I)I"⟩ prog_10_method_20_code 4 (some .int) 3 [.ref (G.1 + a), .int v1] (μ, y) (emy y) rvI tpT (Th_toldAgain a tt v1 μ) := cn_of (by decide +kernel) (Nat.le_of_ble_eq_true rfl) (fun _ _ _ => ⟨List.prefix_refl _, trivial⟩) (fun X hX _ => jTh_toldAgain hL hX v1 μ)

def Th_tellFirst_45 (a tt : Nat)     (μ : Mu) : Option (Int32 × Mu) := gF μ (tt + 7) 3 (fun x1 => cl (Th_tellShortly a tt x1 μ) (fun x3 μ2 => some (x3, μ2)))
def Th_tellFirst_2b (a tt : Nat)  (kb2 : Int32 → Mu → Option (Int32 × Mu))  (v1 : Int32)  (μ : Mu) : Option (Int32 × Mu) := gF μ (tt + 7) 3 (fun x1 => (if x1 ≤ v1 then Th_tellFirst_45 a tt μ else (if 32 ≤ v1 then Th_tellFirst_45 a tt μ else cl (Rw_at (tt + 7) 10 v1 μ) (fun x3 μ2 => stA μ2 (a + 2) 32 v1 x3 (fun μ4 => kb2 (v1 + 1) μ4)))))
def Th_tellFirst_2 (a tt : Nat)   (fu : Nat) : Int32 → Mu → Option (Int32 × Mu) := lp (fun kb => Th_tellFirst_2b a tt  kb ) (fun _ _ => none) fu
def Th_tellFirst (a tt : Nat)  (μ : Mu) : Option (Int32 × Mu) := Th_tellFirst_2 a tt FU 0 μ
set_option maxRecDepth 100000 in
set_option maxHeartbeats 4000000 in
theorem jTh_tellFirst_45 {X : Cx} {l : Launch} {G : Gx} {y : Ly} {a tt : Nat} (hL : LyTh y a tt) (hX : Ok X l G prog_10_method_18_code 2 (some .int) "SaltFigures$Thinker")      (μ : Mu) : J X G 2 2 y (emy y) rvI tpT 45 [(0, .ref (G.1 + a))] [] (μ, y) (Th_tellFirst_45 a tt     μ) := by
  unfold Th_tellFirst_45
  refine J_aload_n (k0 := 0) (pc := 45) 0 hX (by decide +kernel) rfl rfl ?_
  refine J_aload_n (k0 := 0) (pc := 46) 0 hX (by decide +kernel) rfl rfl ?_
  refine J_gr (pc := 47) hX (by decide +kernel) fl_Th_18 hL.1 rfl hL.2.1.1 ?_
  refine J_gr (pc := 50) hX (by decide +kernel) fl_Th_91 hL.2.1.2.1 rfl hL.2.1.2.2.2.2.2.1.1 ?_
  refine J_gF (pc := 53) hX (by decide +kernel) fl_Th_28 hL.2.1.2.2.2.2.2.1.2.1 rfl (fun x1 => ?_)
  refine J_cVi (pc := 56) (idx := 115) [.int x1] hX (by decide +kernel) (mq mt_5 114 (by decide +kernel)) mv_Th_tellShortly hL.1 rfl rfl (Nat.le_of_ble_eq_true rfl) (Nat.le_of_ble_eq_true rfl) (c_Th_tellShortly hL x1 μ) (fun x3 μ2 => ?_)
  exact J_iret (pc := 59) hX (by decide +kernel) rfl trivial
set_option maxRecDepth 100000 in
set_option maxHeartbeats 4000000 in
theorem jTh_tellFirst_2b {X : Cx} {l : Launch} {G : Gx} {y : Ly} {a tt : Nat} (hL : LyTh y a tt) (hX : Ok X l G prog_10_method_18_code 2 (some .int) "SaltFigures$Thinker")   {kb2 : Int32 → Mu → Option (Int32 × Mu)}  (hk2 : ∀ (v1 : Int32) (μ : Mu), J X G 2 2 y (emy y) rvI tpT 2 [(0, .ref (G.1 + a)), (1, .int v1)] [] (μ, y) (kb2 v1 μ)) (v1 : Int32)  (μ : Mu) : J X G 2 2 y (emy y) rvI tpT 2 [(0, .ref (G.1 + a)), (1, .int v1)] [] (μ, y) (Th_tellFirst_2b a tt  kb2  v1  μ) := by
  unfold Th_tellFirst_2b
  refine J_iload_n (k0 := 1) (pc := 2) 1 hX (by decide +kernel) rfl rfl ?_
  refine J_aload_n (k0 := 0) (pc := 3) 0 hX (by decide +kernel) rfl rfl ?_
  refine J_gr (pc := 4) hX (by decide +kernel) fl_Th_18 hL.1 rfl hL.2.1.1 ?_
  refine J_gr (pc := 7) hX (by decide +kernel) fl_Th_91 hL.2.1.2.1 rfl hL.2.1.2.2.2.2.2.1.1 ?_
  refine J_gF (pc := 10) hX (by decide +kernel) fl_Th_28 hL.2.1.2.2.2.2.2.1.2.1 rfl (fun x1 => ?_)
  refine J_icmp_ge (pc := 13) (off := 32) (tgt := 45) hX (by decide +kernel) (by decide +kernel) (fun _ => ?_) (fun _ => ?_)
  · exact J_sub [0] _ rfl (jTh_tellFirst_45 hL hX μ)
  · refine J_iload_n (k0 := 1) (pc := 16) 1 hX (by decide +kernel) rfl rfl ?_
    refine J_bipush (pc := 17) (n := 32) (v := 32) hX (by decide +kernel) (by decide +kernel) ?_
    refine J_icmp_ge (pc := 19) (off := 26) (tgt := 45) hX (by decide +kernel) (by decide +kernel) (fun _ => ?_) (fun _ => ?_)
    · exact J_sub [0] _ rfl (jTh_tellFirst_45 hL hX μ)
    · refine J_aload_n (k0 := 0) (pc := 22) 0 hX (by decide +kernel) rfl rfl ?_
      refine J_gr (pc := 23) hX (by decide +kernel) fl_Th_15 hL.1 rfl hL.2.2.2.1.1 ?_
      refine J_iload_n (k0 := 1) (pc := 26) 1 hX (by decide +kernel) rfl rfl ?_
      refine J_aload_n (k0 := 0) (pc := 27) 0 hX (by decide +kernel) rfl rfl ?_
      refine J_gr (pc := 28) hX (by decide +kernel) fl_Th_18 hL.1 rfl hL.2.1.1 ?_
      refine J_gr (pc := 31) hX (by decide +kernel) fl_Th_91 hL.2.1.2.1 rfl hL.2.1.2.2.2.2.2.1.1 ?_
      refine J_iload_n (k0 := 1) (pc := 34) 1 hX (by decide +kernel) rfl rfl ?_
      refine J_cVi (pc := 35) (idx := 34) [.int v1] hX (by decide +kernel) (mq mt_4 191 (by decide +kernel)) mv_Rw_at hL.2.1.2.2.2.2.2.1.2.1 rfl rfl (Nat.le_of_ble_eq_true rfl) (Nat.le_of_ble_eq_true rfl) (c_Rw_at hL.2.1.2.2.2.2.2.1.2 v1 μ) (fun x3 μ2 => ?_)
      refine J_stA (pc := 38) hX (by decide +kernel) hL.2.2.2.1.2 (fun μ4 => ?_)
      refine J_iinc (pc := 39) (n := 1) 1 [(1, .int (v1 + 1)), (0, .ref (G.1 + a))] hX (by decide +kernel) rfl rfl (by decide) rfl ?_
      refine J_goto (pc := 42) (off := -40) (tgt := 2) hX (by decide +kernel) (by decide +kernel) ?_
      exact J_sub [1, 0] _ rfl (hk2 (v1 + 1) μ4)
set_option maxRecDepth 100000 in
set_option maxHeartbeats 4000000 in
theorem jTh_tellFirst_2 {X : Cx} {l : Launch} {G : Gx} {y : Ly} {a tt : Nat} (hL : LyTh y a tt) (hX : Ok X l G prog_10_method_18_code 2 (some .int) "SaltFigures$Thinker")    : ∀ (fu : Nat) (v1 : Int32) (μ : Mu), J X G 2 2 y (emy y) rvI tpT 2 [(0, .ref (G.1 + a)), (1, .int v1)] [] (μ, y) (Th_tellFirst_2 a tt   fu v1 μ) := by
  intro fu
  induction fu with
  | zero => intros; exact J_none
  | succ fu ih => intro v1 μ; exact jTh_tellFirst_2b hL hX   ih v1 μ
set_option maxRecDepth 100000 in
set_option maxHeartbeats 4000000 in
theorem jTh_tellFirst {X : Cx} {l : Launch} {G : Gx} {y : Ly} {a tt : Nat} (hL : LyTh y a tt) (hX : Ok X l G prog_10_method_18_code 2 (some .int) "SaltFigures$Thinker")  (μ : Mu) : J X G 2 2 y (emy y) rvI tpT 0 [(0, .ref (G.1 + a))] [] (μ, y) (Th_tellFirst a tt  μ) := by
  unfold Th_tellFirst
  refine J_iconst (pc := 0) (n := 0) (v := 0) hX (by decide +kernel) (by decide +kernel) ?_
  refine J_istore_n (k0 := 1) (pc := 1) [(1, .int 0), (0, .ref (G.1 + a))] hX (by decide +kernel) rfl (by decide) rfl ?_
  exact J_sub [1, 0] _ rfl (jTh_tellFirst_2 hL hX FU 0 μ)
set_option maxRecDepth 100000 in
set_option maxHeartbeats 4000000 in
theorem c_Th_tellFirst {l : Launch} {G : Gx} {y : Ly} {a tt : Nat} (hL : LyTh y a tt)  (μ : Mu) : Cn l G ⟨"SaltFigures$Thinker", "tellFirst", "()I"⟩ prog_10_method_18_code 2 (some .int) 2 [.ref (G.1 + a)] (μ, y) (emy y) rvI tpT (Th_tellFirst a tt  μ) := cn_of (by decide +kernel) (Nat.le_of_ble_eq_true rfl) (fun _ _ _ => ⟨List.prefix_refl _, trivial⟩) (fun X hX _ => jTh_tellFirst hL hX  μ)

def Th_tellingAt (a tt : Nat) (v1 : Int32) (μ : Mu) : Option (Int32 × Mu) := (if v1 < 0 then some ((-1), μ) else (if 361 ≤ v1 then some ((-1), μ) else ldA μ (a + 1) 361 v1 (fun x1 => some (x1, μ))))
set_option maxRecDepth 100000 in
set_option maxHeartbeats 4000000 in
theorem jTh_tellingAt {X : Cx} {l : Launch} {G : Gx} {y : Ly} {a tt : Nat} (hL : LyTh y a tt) (hX : Ok X l G prog_10_method_19_code 2 (some .int) "SaltFigures$Thinker") (v1 : Int32) (μ : Mu) : J X G 2 1 y (emy y) rvI tpT 0 [(0, .ref (G.1 + a)), (1, .int v1)] [] (μ, y) (Th_tellingAt a tt v1 μ) := by
  unfold Th_tellingAt
  refine J_iload_n (k0 := 1) (pc := 0) 1 hX (by decide +kernel) rfl rfl ?_
  refine J_if_lt (pc := 1) (off := 19) (tgt := 20) hX (by decide +kernel) (by decide +kernel) (fun _ => ?_) (fun _ => ?_)
  · refine J_iconst (pc := 20) (n := -1) (v := (-1)) hX (by decide +kernel) (by decide +kernel) ?_
    exact J_iret (pc := 21) hX (by decide +kernel) rfl trivial
  · refine J_iload_n (k0 := 1) (pc := 4) 1 hX (by decide +kernel) rfl rfl ?_
    refine J_sipush (pc := 5) (n := 361) (v := 361) hX (by decide +kernel) (by decide +kernel) ?_
    refine J_icmp_ge (pc := 8) (off := 12) (tgt := 20) hX (by decide +kernel) (by decide +kernel) (fun _ => ?_) (fun _ => ?_)
    · refine J_iconst (pc := 20) (n := -1) (v := (-1)) hX (by decide +kernel) (by decide +kernel) ?_
      exact J_iret (pc := 21) hX (by decide +kernel) rfl trivial
    · refine J_aload_n (k0 := 0) (pc := 11) 0 hX (by decide +kernel) rfl rfl ?_
      refine J_gr (pc := 12) hX (by decide +kernel) fl_Th_11 hL.1 rfl hL.2.2.1.1 ?_
      refine J_iload_n (k0 := 1) (pc := 15) 1 hX (by decide +kernel) rfl rfl ?_
      refine J_ldA (pc := 16) hX (by decide +kernel) hL.2.2.1.2 (fun x1 => ?_)
      refine J_goto (pc := 17) (off := 4) (tgt := 21) hX (by decide +kernel) (by decide +kernel) ?_
      exact J_iret (pc := 21) hX (by decide +kernel) rfl trivial
set_option maxRecDepth 100000 in
set_option maxHeartbeats 4000000 in
theorem c_Th_tellingAt {l : Launch} {G : Gx} {y : Ly} {a tt : Nat} (hL : LyTh y a tt) (v1 : Int32) (μ : Mu) : Cn l G ⟨"SaltFigures$Thinker", "tellingAt", "(I)I"⟩ prog_10_method_19_code 2 (some .int) 1 [.ref (G.1 + a), .int v1] (μ, y) (emy y) rvI tpT (Th_tellingAt a tt v1 μ) := cn_of (by decide +kernel) (Nat.le_of_ble_eq_true rfl) (fun _ _ _ => ⟨List.prefix_refl _, trivial⟩) (fun X hX _ => jTh_tellingAt hL hX v1 μ)

def Sf_told (a : Nat) (v1 : Int32) (μ : Mu) : Option (Int32 × Mu) := cl (Sf_within v1 200 210 μ) (fun x2 μ1 => (if x2 = 0 then cl (Th_tellFirst (a + 45) (a + 1 + 17) μ1) (fun x4 μ3 => (if v1 = 0 then some (x4, μ3) else cl (Sf_within v1 100 (99 + x4) μ3) (fun x6 μ5 => (if x6 = 0 then some ((-1), μ5) else cl (Th_tellingAt (a + 45) (a + 1 + 17) (v1 - 100) μ5) (fun x8 μ7 => some (x8, μ7)))))) else cl (Th_toldAgain (a + 45) (a + 1 + 17) (v1 - 200) μ1) (fun x10 μ9 => some (x10, μ9))))
set_option maxRecDepth 100000 in
set_option maxHeartbeats 4000000 in
theorem jSf_told {X : Cx} {l : Launch} {G : Gx} {y : Ly} {a : Nat} (hL : LySf y a ) (hX : Ok X l G prog_1_method_32_code 3 (some .int) "SaltFigures") (v1 : Int32) (μ : Mu) : J X G 3 4 y (emy y) rvI tpT 0 [(0, .ref (G.1 + a)), (1, .int v1)] [] (μ, y) (Sf_told a v1 μ) := by
  unfold Sf_told
  refine J_iload_n (k0 := 1) (pc := 0) 1 hX (by decide +kernel) rfl rfl ?_
  refine J_sipush (pc := 1) (n := 200) (v := 200) hX (by decide +kernel) (by decide +kernel) ?_
  refine J_sipush (pc := 4) (n := 210) (v := 210) hX (by decide +kernel) (by decide +kernel) ?_
  refine J_cSi (pc := 7) (idx := 68) [.int v1, .int 200, .int 210] hX (by decide +kernel) (mq mt_2 148 (by decide +kernel)) mv_Sf_within rfl rfl (Nat.le_of_ble_eq_true rfl) (Nat.le_of_ble_eq_true rfl) (c_Sf_within v1 200 210 μ) (fun x2 μ1 => ?_)
  refine J_if_eq (pc := 10) (off := 16) (tgt := 26) hX (by decide +kernel) (by decide +kernel) (fun _ => ?_) (fun _ => ?_)
  · refine J_aload_n (k0 := 0) (pc := 26) 0 hX (by decide +kernel) rfl rfl ?_
    refine J_gr (pc := 27) hX (by decide +kernel) fl_Sf_43 hL.1 rfl hL.2.2.2.2.1.1 ?_
    refine J_cVi (pc := 30) (idx := 310) [] hX (by decide +kernel) (mq mt_5 120 (by decide +kernel)) mv_Th_tellFirst hL.2.2.2.2.1.2.1 rfl rfl (Nat.le_of_ble_eq_true rfl) (Nat.le_of_ble_eq_true rfl) (c_Th_tellFirst hL.2.2.2.2.1.2 μ1) (fun x4 μ3 => ?_)
    refine J_istore_n (k0 := 2) (pc := 33) [(2, .int x4), (0, .ref (G.1 + a)), (1, .int v1)] hX (by decide +kernel) rfl (by decide) rfl ?_
    refine J_iload_n (k0 := 1) (pc := 34) 2 hX (by decide +kernel) rfl rfl ?_
    refine J_if_ne (pc := 35) (off := 5) (tgt := 40) hX (by decide +kernel) (by decide +kernel) (fun _ => ?_) (fun _ => ?_)
    · refine J_iload_n (k0 := 1) (pc := 40) 2 hX (by decide +kernel) rfl rfl ?_
      refine J_bipush (pc := 41) (n := 100) (v := 100) hX (by decide +kernel) (by decide +kernel) ?_
      refine J_bipush (pc := 43) (n := 99) (v := 99) hX (by decide +kernel) (by decide +kernel) ?_
      refine J_iload_n (k0 := 2) (pc := 45) 0 hX (by decide +kernel) rfl rfl ?_
      refine J_iadd (pc := 46) hX (by decide +kernel) ?_
      refine J_cSi (pc := 47) (idx := 68) [.int v1, .int 100, .int (99 + x4)] hX (by decide +kernel) (mq mt_2 148 (by decide +kernel)) mv_Sf_within rfl rfl (Nat.le_of_ble_eq_true rfl) (Nat.le_of_ble_eq_true rfl) (c_Sf_within v1 100 (99 + x4) μ3) (fun x6 μ5 => ?_)
      refine J_if_eq (pc := 50) (off := 17) (tgt := 67) hX (by decide +kernel) (by decide +kernel) (fun _ => ?_) (fun _ => ?_)
      · refine J_iconst (pc := 67) (n := -1) (v := (-1)) hX (by decide +kernel) (by decide +kernel) ?_
        exact J_iret (pc := 68) hX (by decide +kernel) rfl trivial
      · refine J_aload_n (k0 := 0) (pc := 53) 1 hX (by decide +kernel) rfl rfl ?_
        refine J_gr (pc := 54) hX (by decide +kernel) fl_Sf_43 hL.1 rfl hL.2.2.2.2.1.1 ?_
        refine J_iload_n (k0 := 1) (pc := 57) 2 hX (by decide +kernel) rfl rfl ?_
        refine J_bipush (pc := 58) (n := 100) (v := 100) hX (by decide +kernel) (by decide +kernel) ?_
        refine J_isub (pc := 60) hX (by decide +kernel) ?_
        refine J_cVi (pc := 61) (idx := 313) [.int (v1 - 100)] hX (by decide +kernel) (mq mt_5 124 (by decide +kernel)) mv_Th_tellingAt hL.2.2.2.2.1.2.1 rfl rfl (Nat.le_of_ble_eq_true rfl) (Nat.le_of_ble_eq_true rfl) (c_Th_tellingAt hL.2.2.2.2.1.2 (v1 - 100) μ5) (fun x8 μ7 => ?_)
        refine J_goto (pc := 64) (off := 4) (tgt := 68) hX (by decide +kernel) (by decide +kernel) ?_
        exact J_iret (pc := 68) hX (by decide +kernel) rfl trivial
    · refine J_iload_n (k0 := 2) (pc := 38) 0 hX (by decide +kernel) rfl rfl ?_
      exact J_iret (pc := 39) hX (by decide +kernel) rfl trivial
  · refine J_aload_n (k0 := 0) (pc := 13) 0 hX (by decide +kernel) rfl rfl ?_
    refine J_gr (pc := 14) hX (by decide +kernel) fl_Sf_43 hL.1 rfl hL.2.2.2.2.1.1 ?_
    refine J_iload_n (k0 := 1) (pc := 17) 1 hX (by decide +kernel) rfl rfl ?_
    refine J_sipush (pc := 18) (n := 200) (v := 200) hX (by decide +kernel) (by decide +kernel) ?_
    refine J_isub (pc := 21) hX (by decide +kernel) ?_
    refine J_cVi (pc := 22) (idx := 307) [.int (v1 - 200)] hX (by decide +kernel) (mq mt_5 110 (by decide +kernel)) mv_Th_toldAgain hL.2.2.2.2.1.2.1 rfl rfl (Nat.le_of_ble_eq_true rfl) (Nat.le_of_ble_eq_true rfl) (c_Th_toldAgain hL.2.2.2.2.1.2 (v1 - 200) μ1) (fun x10 μ9 => ?_)
    exact J_iret (pc := 25) hX (by decide +kernel) rfl trivial
set_option maxRecDepth 100000 in
set_option maxHeartbeats 4000000 in
theorem c_Sf_told {l : Launch} {G : Gx} {y : Ly} {a : Nat} (hL : LySf y a ) (v1 : Int32) (μ : Mu) : Cn l G ⟨"SaltFigures", "told", "(I)I"⟩ prog_1_method_32_code 3 (some .int) 4 [.ref (G.1 + a), .int v1] (μ, y) (emy y) rvI tpT (Sf_told a v1 μ) := cn_of (by decide +kernel) (Nat.le_of_ble_eq_true rfl) (fun _ _ _ => ⟨List.prefix_refl _, trivial⟩) (fun X hX _ => jSf_told hL hX v1 μ)

def Sm_fromBehind_4b   (kb4 : Int32 → Int32 → Mu → Option (Int32 × Mu))  (v1 : Int32) (v2 : Int32)  (μ : Mu) : Option (Int32 × Mu) := (if v2 ≤ 0 then some (v1, μ) else kb4 ((v1 * 10) + (jrem v2 10)) (v2 / 10) μ)
def Sm_fromBehind_4    (fu : Nat) : Int32 → Int32 → Mu → Option (Int32 × Mu) := lp (fun kb => Sm_fromBehind_4b   kb ) (fun _ _ _ => none) fu
def Sm_fromBehind  (v0 : Int32) (μ : Mu) : Option (Int32 × Mu) := Sm_fromBehind_4 FU 0 v0 μ
set_option maxRecDepth 100000 in
set_option maxHeartbeats 4000000 in
theorem jSm_fromBehind_4b {X : Cx} {l : Launch} {G : Gx} {y : Ly}   (hX : Ok X l G prog_8_method_9_code 3 (some .int) "SaltFigures$Sums")   {kb4 : Int32 → Int32 → Mu → Option (Int32 × Mu)}  (hk4 : ∀ (v1 : Int32) (v2 : Int32) (μ : Mu), J X G 3 1 y (emy y) rvI tpT 4 [(1, .int v1), (2, .int v2)] [] (μ, y) (kb4 v1 v2 μ)) (v1 : Int32) (v2 : Int32)  (μ : Mu) : J X G 3 1 y (emy y) rvI tpT 4 [(1, .int v1), (2, .int v2)] [] (μ, y) (Sm_fromBehind_4b   kb4  v1 v2  μ) := by
  unfold Sm_fromBehind_4b
  refine J_iload_n (k0 := 2) (pc := 4) 1 hX (by decide +kernel) rfl rfl ?_
  refine J_if_le (pc := 5) (off := 21) (tgt := 26) hX (by decide +kernel) (by decide +kernel) (fun _ => ?_) (fun _ => ?_)
  · refine J_iload_n (k0 := 1) (pc := 26) 0 hX (by decide +kernel) rfl rfl ?_
    exact J_iret (pc := 27) hX (by decide +kernel) rfl trivial
  · refine J_iload_n (k0 := 1) (pc := 8) 0 hX (by decide +kernel) rfl rfl ?_
    refine J_bipush (pc := 9) (n := 10) (v := 10) hX (by decide +kernel) (by decide +kernel) ?_
    refine J_imul (pc := 11) hX (by decide +kernel) ?_
    refine J_iload_n (k0 := 2) (pc := 12) 1 hX (by decide +kernel) rfl rfl ?_
    refine J_bipush (pc := 13) (n := 10) (v := 10) hX (by decide +kernel) (by decide +kernel) ?_
    refine J_iremK (pc := 15) hX (by decide +kernel) (by decide +kernel) ?_
    refine J_iadd (pc := 16) hX (by decide +kernel) ?_
    refine J_istore_n (k0 := 1) (pc := 17) [(1, .int ((v1 * 10) + (jrem v2 10))), (2, .int v2)] hX (by decide +kernel) rfl (by decide) rfl ?_
    refine J_iload_n (k0 := 2) (pc := 18) 1 hX (by decide +kernel) rfl rfl ?_
    refine J_bipush (pc := 19) (n := 10) (v := 10) hX (by decide +kernel) (by decide +kernel) ?_
    refine J_idivK (pc := 21) hX (by decide +kernel) (by decide +kernel) ?_
    refine J_istore_n (k0 := 2) (pc := 22) [(2, .int (v2 / 10)), (1, .int ((v1 * 10) + (jrem v2 10)))] hX (by decide +kernel) rfl (by decide) rfl ?_
    refine J_goto (pc := 23) (off := -19) (tgt := 4) hX (by decide +kernel) (by decide +kernel) ?_
    exact J_sub [1, 0] _ rfl (hk4 ((v1 * 10) + (jrem v2 10)) (v2 / 10) μ)
set_option maxRecDepth 100000 in
set_option maxHeartbeats 4000000 in
theorem jSm_fromBehind_4 {X : Cx} {l : Launch} {G : Gx} {y : Ly}   (hX : Ok X l G prog_8_method_9_code 3 (some .int) "SaltFigures$Sums")    : ∀ (fu : Nat) (v1 : Int32) (v2 : Int32) (μ : Mu), J X G 3 1 y (emy y) rvI tpT 4 [(1, .int v1), (2, .int v2)] [] (μ, y) (Sm_fromBehind_4    fu v1 v2 μ) := by
  intro fu
  induction fu with
  | zero => intros; exact J_none
  | succ fu ih => intro v1 v2 μ; exact jSm_fromBehind_4b  hX   ih v1 v2 μ
set_option maxRecDepth 100000 in
set_option maxHeartbeats 4000000 in
theorem jSm_fromBehind {X : Cx} {l : Launch} {G : Gx} {y : Ly}   (hX : Ok X l G prog_8_method_9_code 3 (some .int) "SaltFigures$Sums") (v0 : Int32) (μ : Mu) : J X G 3 1 y (emy y) rvI tpT 0 [(0, .int v0)] [] (μ, y) (Sm_fromBehind  v0 μ) := by
  unfold Sm_fromBehind
  refine J_iconst (pc := 0) (n := 0) (v := 0) hX (by decide +kernel) (by decide +kernel) ?_
  refine J_istore_n (k0 := 1) (pc := 1) [(1, .int 0), (0, .int v0)] hX (by decide +kernel) rfl (by decide) rfl ?_
  refine J_iload_n (k0 := 0) (pc := 2) 1 hX (by decide +kernel) rfl rfl ?_
  refine J_istore_n (k0 := 2) (pc := 3) [(2, .int v0), (1, .int 0), (0, .int v0)] hX (by decide +kernel) rfl (by decide) rfl ?_
  exact J_sub [1, 0] _ rfl (jSm_fromBehind_4 hX FU 0 v0 μ)
set_option maxRecDepth 100000 in
set_option maxHeartbeats 4000000 in
theorem c_Sm_fromBehind {l : Launch} {G : Gx} {y : Ly}   (v0 : Int32) (μ : Mu) : Cn l G ⟨"SaltFigures$Sums", "fromBehind", "(I)I"⟩ prog_8_method_9_code 3 (some .int) 1 [.int v0] (μ, y) (emy y) rvI tpT (Sm_fromBehind  v0 μ) := cn_of (by decide +kernel) (Nat.le_of_ble_eq_true rfl) (fun _ _ _ => ⟨List.prefix_refl _, trivial⟩) (fun X hX _ => jSm_fromBehind  hX v0 μ)

def Sm_turnAbout_4b   (kb4 : Int32 → Int32 → Mu → Option (Int32 × Mu)) (v1 : Int32) (v2 : Int32) (v3 : Int32)  (μ : Mu) : Option (Int32 × Mu) := (if 20 < v3 then some ((-1), μ) else (if 999999999 < v2 then some ((-1), μ) else cl (Sm_fromBehind v2 μ) (fun x2 μ1 => (if x2 = v2 then (if v1 = 0 then some (v3, μ1) else some (v2, μ1)) else kb4 (v2 + x2) (v3 + 1) μ1))))
def Sm_turnAbout_4   (v1 : Int32) (fu : Nat) : Int32 → Int32 → Mu → Option (Int32 × Mu) := lp (fun kb => Sm_turnAbout_4b   kb v1) (fun _ _ _ => none) fu
def Sm_turnAbout  (v0 : Int32) (v1 : Int32) (μ : Mu) : Option (Int32 × Mu) := Sm_turnAbout_4 v1 FU v0 0 μ
set_option maxRecDepth 100000 in
set_option maxHeartbeats 4000000 in
theorem jSm_turnAbout_4b {X : Cx} {l : Launch} {G : Gx} {y : Ly}   (hX : Ok X l G prog_8_method_8_code 5 (some .int) "SaltFigures$Sums") (v1 : Int32)  {kb4 : Int32 → Int32 → Mu → Option (Int32 × Mu)}  (hk4 : ∀ (v2 : Int32) (v3 : Int32) (μ : Mu), J X G 5 2 y (emy y) rvI tpT 4 [(1, .int v1), (2, .int v2), (3, .int v3)] [] (μ, y) (kb4 v2 v3 μ)) (v2 : Int32) (v3 : Int32)  (μ : Mu) : J X G 5 2 y (emy y) rvI tpT 4 [(1, .int v1), (2, .int v2), (3, .int v3)] [] (μ, y) (Sm_turnAbout_4b   kb4 v1 v2 v3  μ) := by
  unfold Sm_turnAbout_4b
  refine J_iload_n (k0 := 3) (pc := 4) 2 hX (by decide +kernel) rfl rfl ?_
  refine J_bipush (pc := 5) (n := 20) (v := 20) hX (by decide +kernel) (by decide +kernel) ?_
  refine J_icmp_gt (pc := 7) (off := 42) (tgt := 49) hX (by decide +kernel) (by decide +kernel) (fun _ => ?_) (fun _ => ?_)
  · refine J_iconst (pc := 49) (n := -1) (v := (-1)) hX (by decide +kernel) (by decide +kernel) ?_
    exact J_iret (pc := 50) hX (by decide +kernel) rfl trivial
  · refine J_iload_n (k0 := 2) (pc := 10) 1 hX (by decide +kernel) rfl rfl ?_
    refine J_ldc (pc := 11) (idx := 35) (v := 999999999) hX (by decide +kernel) (mq mt_5 10 (by decide +kernel)) ?_
    refine J_icmp_gt (pc := 13) (off := 36) (tgt := 49) hX (by decide +kernel) (by decide +kernel) (fun _ => ?_) (fun _ => ?_)
    · refine J_iconst (pc := 49) (n := -1) (v := (-1)) hX (by decide +kernel) (by decide +kernel) ?_
      exact J_iret (pc := 50) hX (by decide +kernel) rfl trivial
    · refine J_iload_n (k0 := 2) (pc := 16) 1 hX (by decide +kernel) rfl rfl ?_
      refine J_cSi (pc := 17) (idx := 36) [.int v2] hX (by decide +kernel) (mq mt_5 11 (by decide +kernel)) mv_Sm_fromBehind rfl rfl (Nat.le_of_ble_eq_true rfl) (Nat.le_of_ble_eq_true rfl) (c_Sm_fromBehind v2 μ) (fun x2 μ1 => ?_)
      refine J_istore (pc := 20) [(4, .int x2), (1, .int v1), (2, .int v2), (3, .int v3)] hX (by decide +kernel) (by decide) rfl ?_
      refine J_iload (pc := 22) 0 hX (by decide +kernel) rfl ?_
      refine J_iload_n (k0 := 2) (pc := 24) 2 hX (by decide +kernel) rfl rfl ?_
      refine J_icmp_ne (pc := 25) (off := 13) (tgt := 38) hX (by decide +kernel) (by decide +kernel) (fun _ => ?_) (fun _ => ?_)
      · refine J_iload_n (k0 := 2) (pc := 38) 2 hX (by decide +kernel) rfl rfl ?_
        refine J_iload (pc := 39) 0 hX (by decide +kernel) rfl ?_
        refine J_iadd (pc := 41) hX (by decide +kernel) ?_
        refine J_istore_n (k0 := 2) (pc := 42) [(2, .int (v2 + x2)), (4, .int x2), (1, .int v1), (3, .int v3)] hX (by decide +kernel) rfl (by decide) rfl ?_
        refine J_iinc (pc := 43) (n := 1) 3 [(3, .int (v3 + 1)), (2, .int (v2 + x2)), (4, .int x2), (1, .int v1)] hX (by decide +kernel) rfl rfl (by decide) rfl ?_
        refine J_goto (pc := 46) (off := -42) (tgt := 4) hX (by decide +kernel) (by decide +kernel) ?_
        exact J_sub [3, 1, 0] _ rfl (hk4 (v2 + x2) (v3 + 1) μ1)
      · refine J_iload_n (k0 := 1) (pc := 28) 1 hX (by decide +kernel) rfl rfl ?_
        refine J_if_eq (pc := 29) (off := 7) (tgt := 36) hX (by decide +kernel) (by decide +kernel) (fun _ => ?_) (fun _ => ?_)
        · refine J_iload_n (k0 := 3) (pc := 36) 3 hX (by decide +kernel) rfl rfl ?_
          exact J_iret (pc := 37) hX (by decide +kernel) rfl trivial
        · refine J_iload_n (k0 := 2) (pc := 32) 2 hX (by decide +kernel) rfl rfl ?_
          refine J_goto (pc := 33) (off := 4) (tgt := 37) hX (by decide +kernel) (by decide +kernel) ?_
          exact J_iret (pc := 37) hX (by decide +kernel) rfl trivial
set_option maxRecDepth 100000 in
set_option maxHeartbeats 4000000 in
theorem jSm_turnAbout_4 {X : Cx} {l : Launch} {G : Gx} {y : Ly}   (hX : Ok X l G prog_8_method_8_code 5 (some .int) "SaltFigures$Sums") (v1 : Int32)   : ∀ (fu : Nat) (v2 : Int32) (v3 : Int32) (μ : Mu), J X G 5 2 y (emy y) rvI tpT 4 [(1, .int v1), (2, .int v2), (3, .int v3)] [] (μ, y) (Sm_turnAbout_4   v1 fu v2 v3 μ) := by
  intro fu
  induction fu with
  | zero => intros; exact J_none
  | succ fu ih => intro v2 v3 μ; exact jSm_turnAbout_4b  hX v1  ih v2 v3 μ
set_option maxRecDepth 100000 in
set_option maxHeartbeats 4000000 in
theorem jSm_turnAbout {X : Cx} {l : Launch} {G : Gx} {y : Ly}   (hX : Ok X l G prog_8_method_8_code 5 (some .int) "SaltFigures$Sums") (v0 : Int32) (v1 : Int32) (μ : Mu) : J X G 5 2 y (emy y) rvI tpT 0 [(0, .int v0), (1, .int v1)] [] (μ, y) (Sm_turnAbout  v0 v1 μ) := by
  unfold Sm_turnAbout
  refine J_iload_n (k0 := 0) (pc := 0) 0 hX (by decide +kernel) rfl rfl ?_
  refine J_istore_n (k0 := 2) (pc := 1) [(2, .int v0), (0, .int v0), (1, .int v1)] hX (by decide +kernel) rfl (by decide) rfl ?_
  refine J_iconst (pc := 2) (n := 0) (v := 0) hX (by decide +kernel) (by decide +kernel) ?_
  refine J_istore_n (k0 := 3) (pc := 3) [(3, .int 0), (2, .int v0), (0, .int v0), (1, .int v1)] hX (by decide +kernel) rfl (by decide) rfl ?_
  exact J_sub [3, 1, 0] _ rfl (jSm_turnAbout_4 hX v1 FU v0 0 μ)
set_option maxRecDepth 100000 in
set_option maxHeartbeats 4000000 in
theorem c_Sm_turnAbout {l : Launch} {G : Gx} {y : Ly}   (v0 : Int32) (v1 : Int32) (μ : Mu) : Cn l G ⟨"SaltFigures$Sums", "turnAbout", "(IZ)I"⟩ prog_8_method_8_code 5 (some .int) 2 [.int v0, .int v1] (μ, y) (emy y) rvI tpT (Sm_turnAbout  v0 v1 μ) := cn_of (by decide +kernel) (Nat.le_of_ble_eq_true rfl) (fun _ _ _ => ⟨List.prefix_refl _, trivial⟩) (fun X hX _ => jSm_turnAbout  hX v0 v1 μ)

def Sf_turned_31 (a : Nat)    (s0 : Int32) (s1 : Int32) (μ : Mu) : Option (Int32 × Mu) := cl (Sm_turnAbout s1 s0 μ) (fun x2 μ1 => some (x2, μ1))
def Sf_turned (a : Nat) (v1 : Int32) (v2 : Int32) (μ : Mu) : Option (Int32 × Mu) := cl (Sf_within v1 0 99999 μ) (fun x2 μ1 => (if x2 = 0 then some ((-1), μ1) else cl (Sf_within v2 0 1 μ1) (fun x4 μ3 => (if x4 = 0 then some ((-1), μ3) else (if v2 = 1 then Sf_turned_31 a 1 v1 μ3 else Sf_turned_31 a 0 v1 μ3)))))
set_option maxRecDepth 100000 in
set_option maxHeartbeats 4000000 in
theorem jSf_turned_31 {X : Cx} {l : Launch} {G : Gx} {y : Ly} {a : Nat} (hL : LySf y a ) (hX : Ok X l G prog_1_method_23_code 3 (some .int) "SaltFigures")   (s0 : Int32) (s1 : Int32)   (μ : Mu) : J X G 3 3 y (emy y) rvI tpT 31 [] [.int s0, .int s1] (μ, y) (Sf_turned_31 a    s0 s1 μ) := by
  unfold Sf_turned_31
  refine J_cSi (pc := 31) (idx := 267) [.int s1, .int s0] hX (by decide +kernel) (mq mt_5 7 (by decide +kernel)) mv_Sm_turnAbout rfl rfl (Nat.le_of_ble_eq_true rfl) (Nat.le_of_ble_eq_true rfl) (c_Sm_turnAbout s1 s0 μ) (fun x2 μ1 => ?_)
  refine J_goto (pc := 34) (off := 4) (tgt := 38) hX (by decide +kernel) (by decide +kernel) ?_
  exact J_iret (pc := 38) hX (by decide +kernel) rfl trivial
set_option maxRecDepth 100000 in
set_option maxHeartbeats 4000000 in
theorem jSf_turned {X : Cx} {l : Launch} {G : Gx} {y : Ly} {a : Nat} (hL : LySf y a ) (hX : Ok X l G prog_1_method_23_code 3 (some .int) "SaltFigures") (v1 : Int32) (v2 : Int32) (μ : Mu) : J X G 3 3 y (emy y) rvI tpT 0 [(0, .ref (G.1 + a)), (1, .int v1), (2, .int v2)] [] (μ, y) (Sf_turned a v1 v2 μ) := by
  unfold Sf_turned
  refine J_iload_n (k0 := 1) (pc := 0) 1 hX (by decide +kernel) rfl rfl ?_
  refine J_iconst (pc := 1) (n := 0) (v := 0) hX (by decide +kernel) (by decide +kernel) ?_
  refine J_ldcw (pc := 2) (idx := 266) (v := 99999) hX (by decide +kernel) (mq mt_5 6 (by decide +kernel)) ?_
  refine J_cSi (pc := 5) (idx := 68) [.int v1, .int 0, .int 99999] hX (by decide +kernel) (mq mt_2 148 (by decide +kernel)) mv_Sf_within rfl rfl (Nat.le_of_ble_eq_true rfl) (Nat.le_of_ble_eq_true rfl) (c_Sf_within v1 0 99999 μ) (fun x2 μ1 => ?_)
  refine J_if_eq (pc := 8) (off := 29) (tgt := 37) hX (by decide +kernel) (by decide +kernel) (fun _ => ?_) (fun _ => ?_)
  · refine J_iconst (pc := 37) (n := -1) (v := (-1)) hX (by decide +kernel) (by decide +kernel) ?_
    exact J_iret (pc := 38) hX (by decide +kernel) rfl trivial
  · refine J_iload_n (k0 := 2) (pc := 11) 2 hX (by decide +kernel) rfl rfl ?_
    refine J_iconst (pc := 12) (n := 0) (v := 0) hX (by decide +kernel) (by decide +kernel) ?_
    refine J_iconst (pc := 13) (n := 1) (v := 1) hX (by decide +kernel) (by decide +kernel) ?_
    refine J_cSi (pc := 14) (idx := 68) [.int v2, .int 0, .int 1] hX (by decide +kernel) (mq mt_2 148 (by decide +kernel)) mv_Sf_within rfl rfl (Nat.le_of_ble_eq_true rfl) (Nat.le_of_ble_eq_true rfl) (c_Sf_within v2 0 1 μ1) (fun x4 μ3 => ?_)
    refine J_if_eq (pc := 17) (off := 20) (tgt := 37) hX (by decide +kernel) (by decide +kernel) (fun _ => ?_) (fun _ => ?_)
    · refine J_iconst (pc := 37) (n := -1) (v := (-1)) hX (by decide +kernel) (by decide +kernel) ?_
      exact J_iret (pc := 38) hX (by decide +kernel) rfl trivial
    · refine J_iload_n (k0 := 1) (pc := 20) 1 hX (by decide +kernel) rfl rfl ?_
      refine J_iload_n (k0 := 2) (pc := 21) 2 hX (by decide +kernel) rfl rfl ?_
      refine J_iconst (pc := 22) (n := 1) (v := 1) hX (by decide +kernel) (by decide +kernel) ?_
      refine J_icmp_ne (pc := 23) (off := 7) (tgt := 30) hX (by decide +kernel) (by decide +kernel) (fun _ => ?_) (fun _ => ?_)
      · refine J_iconst (pc := 30) (n := 0) (v := 0) hX (by decide +kernel) (by decide +kernel) ?_
        exact J_sub [] _ rfl (jSf_turned_31 hL hX 0 v1 μ3)
      · refine J_iconst (pc := 26) (n := 1) (v := 1) hX (by decide +kernel) (by decide +kernel) ?_
        refine J_goto (pc := 27) (off := 4) (tgt := 31) hX (by decide +kernel) (by decide +kernel) ?_
        exact J_sub [] _ rfl (jSf_turned_31 hL hX 1 v1 μ3)
set_option maxRecDepth 100000 in
set_option maxHeartbeats 4000000 in
theorem c_Sf_turned {l : Launch} {G : Gx} {y : Ly} {a : Nat} (hL : LySf y a ) (v1 : Int32) (v2 : Int32) (μ : Mu) : Cn l G ⟨"SaltFigures", "turned", "(II)I"⟩ prog_1_method_23_code 3 (some .int) 3 [.ref (G.1 + a), .int v1, .int v2] (μ, y) (emy y) rvI tpT (Sf_turned a v1 v2 μ) := cn_of (by decide +kernel) (Nat.le_of_ble_eq_true rfl) (fun _ _ _ => ⟨List.prefix_refl _, trivial⟩) (fun X hX _ => jSf_turned hL hX v1 v2 μ)

def Th_voyageRows_100 (a tt : Nat)   (v1 : Int32)  (μ : Mu) : Option (Int32 × Mu) := (if v1 < 0 then some (0, μ) else (if 361 ≤ v1 then some (0, μ) else ldA μ (a + 1) 361 v1 (fun x1 => some (x1, μ))))
def Th_voyageRows_81 (a tt : Nat) (kb9 : Int32 → Mu → Option (Int32 × Mu)) (kb26 : Int32 → Int32 → Mu → Option (Int32 × Mu))  (v1 : Int32) (v2 : Int32) (v3 : Int32) (v4 : Int32)  (μ : Mu) : Option (Int32 × Mu) := kb26 v3 (v4 + 1) μ
def Th_voyageRows_26b (a tt : Nat) (kb9 : Int32 → Mu → Option (Int32 × Mu)) (kb26 : Int32 → Int32 → Mu → Option (Int32 × Mu)) (v1 : Int32) (v2 : Int32) (v3 : Int32) (v4 : Int32)  (μ : Mu) : Option (Int32 × Mu) := gF μ (tt + 13) 3 (fun x1 => (if x1 ≤ v4 then stA μ (a + 1) 361 v2 v3 (fun μ2 => kb9 (v2 + 1) μ2) else cl (Rw_at (tt + 13) 6 v4 μ) (fun x4 μ3 => (if (v2 - x4) < 0 then Th_voyageRows_81 a tt kb9 kb26 v1 v2 v3 v4 μ3 else (if v2 ≤ (v2 - x4) then Th_voyageRows_81 a tt kb9 kb26 v1 v2 v3 v4 μ3 else ldA μ3 (a + 1) 361 (v2 - x4) (fun x5 => Th_voyageRows_81 a tt kb9 kb26 v1 v2 (jrem (v3 + x5) 1000000007) v4 μ3))))))
def Th_voyageRows_26 (a tt : Nat) (kb9 : Int32 → Mu → Option (Int32 × Mu)) (v1 : Int32) (v2 : Int32) (fu : Nat) : Int32 → Int32 → Mu → Option (Int32 × Mu) := lp (fun kb => Th_voyageRows_26b a tt kb9 kb v1 v2) (fun _ _ _ => none) fu
def Th_voyageRows_9b (a tt : Nat)  (kb9 : Int32 → Mu → Option (Int32 × Mu)) (v1 : Int32) (v2 : Int32)  (μ : Mu) : Option (Int32 × Mu) := (if v1 < v2 then Th_voyageRows_100 a tt v1 μ else (if 361 ≤ v2 then Th_voyageRows_100 a tt v1 μ else Th_voyageRows_26 a tt kb9 v1 v2 FU 0 0 μ))
def Th_voyageRows_9 (a tt : Nat)  (v1 : Int32) (fu : Nat) : Int32 → Mu → Option (Int32 × Mu) := lp (fun kb => Th_voyageRows_9b a tt  kb v1) (fun _ _ => none) fu
def Th_voyageRows (a tt : Nat) (v1 : Int32) (μ : Mu) : Option (Int32 × Mu) := stA μ (a + 1) 361 0 1 (fun μ1 => Th_voyageRows_9 a tt v1 FU 1 μ1)
set_option maxRecDepth 100000 in
set_option maxHeartbeats 4000000 in
theorem jTh_voyageRows_100 {X : Cx} {l : Launch} {G : Gx} {y : Ly} {a tt : Nat} (hL : LyTh y a tt) (hX : Ok X l G prog_10_method_22_code 6 (some .int) "SaltFigures$Thinker")  (v1 : Int32)    (μ : Mu) : J X G 6 2 y (emy y) rvI tpT 100 [(0, .ref (G.1 + a)), (1, .int v1)] [] (μ, y) (Th_voyageRows_100 a tt   v1  μ) := by
  unfold Th_voyageRows_100
  refine J_iload_n (k0 := 1) (pc := 100) 1 hX (by decide +kernel) rfl rfl ?_
  refine J_if_lt (pc := 101) (off := 19) (tgt := 120) hX (by decide +kernel) (by decide +kernel) (fun _ => ?_) (fun _ => ?_)
  · refine J_iconst (pc := 120) (n := 0) (v := 0) hX (by decide +kernel) (by decide +kernel) ?_
    exact J_iret (pc := 121) hX (by decide +kernel) rfl trivial
  · refine J_iload_n (k0 := 1) (pc := 104) 1 hX (by decide +kernel) rfl rfl ?_
    refine J_sipush (pc := 105) (n := 361) (v := 361) hX (by decide +kernel) (by decide +kernel) ?_
    refine J_icmp_ge (pc := 108) (off := 12) (tgt := 120) hX (by decide +kernel) (by decide +kernel) (fun _ => ?_) (fun _ => ?_)
    · refine J_iconst (pc := 120) (n := 0) (v := 0) hX (by decide +kernel) (by decide +kernel) ?_
      exact J_iret (pc := 121) hX (by decide +kernel) rfl trivial
    · refine J_aload_n (k0 := 0) (pc := 111) 0 hX (by decide +kernel) rfl rfl ?_
      refine J_gr (pc := 112) hX (by decide +kernel) fl_Th_11 hL.1 rfl hL.2.2.1.1 ?_
      refine J_iload_n (k0 := 1) (pc := 115) 1 hX (by decide +kernel) rfl rfl ?_
      refine J_ldA (pc := 116) hX (by decide +kernel) hL.2.2.1.2 (fun x1 => ?_)
      refine J_goto (pc := 117) (off := 4) (tgt := 121) hX (by decide +kernel) (by decide +kernel) ?_
      exact J_iret (pc := 121) hX (by decide +kernel) rfl trivial
set_option maxRecDepth 100000 in
set_option maxHeartbeats 4000000 in
theorem jTh_voyageRows_81 {X : Cx} {l : Launch} {G : Gx} {y : Ly} {a tt : Nat} (hL : LyTh y a tt) (hX : Ok X l G prog_10_method_22_code 6 (some .int) "SaltFigures$Thinker")  (v1 : Int32) (v2 : Int32) (v3 : Int32) (v4 : Int32)  {kb9 : Int32 → Mu → Option (Int32 × Mu)} {kb26 : Int32 → Int32 → Mu → Option (Int32 × Mu)} (hk9 : ∀ (v2 : Int32) (μ : Mu), J X G 6 2 y (emy y) rvI tpT 9 [(0, .ref (G.1 + a)), (1, .int v1), (2, .int v2)] [] (μ, y) (kb9 v2 μ)) (hk26 : ∀ (v3 : Int32) (v4 : Int32) (μ : Mu), J X G 6 2 y (emy y) rvI tpT 26 [(0, .ref (G.1 + a)), (1, .int v1), (2, .int v2), (3, .int v3), (4, .int v4)] [] (μ, y) (kb26 v3 v4 μ)) (μ : Mu) : J X G 6 2 y (emy y) rvI tpT 81 [(0, .ref (G.1 + a)), (1, .int v1), (2, .int v2), (3, .int v3), (4, .int v4)] [] (μ, y) (Th_voyageRows_81 a tt kb9 kb26  v1 v2 v3 v4  μ) := by
  unfold Th_voyageRows_81
  refine J_iinc (pc := 81) (n := 1) 4 [(4, .int (v4 + 1)), (0, .ref (G.1 + a)), (1, .int v1), (2, .int v2), (3, .int v3)] hX (by decide +kernel) rfl rfl (by decide) rfl ?_
  refine J_goto (pc := 84) (off := -58) (tgt := 26) hX (by decide +kernel) (by decide +kernel) ?_
  exact J_sub [1, 2, 3, 4, 0] _ rfl (hk26 v3 (v4 + 1) μ)
set_option maxRecDepth 100000 in
set_option maxHeartbeats 4000000 in
theorem jTh_voyageRows_26b {X : Cx} {l : Launch} {G : Gx} {y : Ly} {a tt : Nat} (hL : LyTh y a tt) (hX : Ok X l G prog_10_method_22_code 6 (some .int) "SaltFigures$Thinker") (v1 : Int32) (v2 : Int32) {kb9 : Int32 → Mu → Option (Int32 × Mu)} {kb26 : Int32 → Int32 → Mu → Option (Int32 × Mu)} (hk9 : ∀ (v2 : Int32) (μ : Mu), J X G 6 2 y (emy y) rvI tpT 9 [(0, .ref (G.1 + a)), (1, .int v1), (2, .int v2)] [] (μ, y) (kb9 v2 μ)) (hk26 : ∀ (v3 : Int32) (v4 : Int32) (μ : Mu), J X G 6 2 y (emy y) rvI tpT 26 [(0, .ref (G.1 + a)), (1, .int v1), (2, .int v2), (3, .int v3), (4, .int v4)] [] (μ, y) (kb26 v3 v4 μ)) (v3 : Int32) (v4 : Int32)  (μ : Mu) : J X G 6 2 y (emy y) rvI tpT 26 [(0, .ref (G.1 + a)), (1, .int v1), (2, .int v2), (3, .int v3), (4, .int v4)] [] (μ, y) (Th_voyageRows_26b a tt kb9 kb26 v1 v2 v3 v4  μ) := by
  unfold Th_voyageRows_26b
  refine J_iload (pc := 26) 4 hX (by decide +kernel) rfl ?_
  refine J_aload_n (k0 := 0) (pc := 28) 0 hX (by decide +kernel) rfl rfl ?_
  refine J_gr (pc := 29) hX (by decide +kernel) fl_Th_18 hL.1 rfl hL.2.1.1 ?_
  refine J_gr (pc := 32) hX (by decide +kernel) fl_Th_127 hL.2.1.2.1 rfl hL.2.1.2.2.2.2.2.2.2.2.1.1 ?_
  refine J_gF (pc := 35) hX (by decide +kernel) fl_Th_28 hL.2.1.2.2.2.2.2.2.2.2.1.2.1 rfl (fun x1 => ?_)
  refine J_icmp_ge (pc := 38) (off := 49) (tgt := 87) hX (by decide +kernel) (by decide +kernel) (fun _ => ?_) (fun _ => ?_)
  · refine J_aload_n (k0 := 0) (pc := 87) 0 hX (by decide +kernel) rfl rfl ?_
    refine J_gr (pc := 88) hX (by decide +kernel) fl_Th_11 hL.1 rfl hL.2.2.1.1 ?_
    refine J_iload_n (k0 := 2) (pc := 91) 2 hX (by decide +kernel) rfl rfl ?_
    refine J_iload_n (k0 := 3) (pc := 92) 3 hX (by decide +kernel) rfl rfl ?_
    refine J_stA (pc := 93) hX (by decide +kernel) hL.2.2.1.2 (fun μ2 => ?_)
    refine J_iinc (pc := 94) (n := 1) 2 [(2, .int (v2 + 1)), (0, .ref (G.1 + a)), (1, .int v1), (3, .int v3), (4, .int v4)] hX (by decide +kernel) rfl rfl (by decide) rfl ?_
    refine J_goto (pc := 97) (off := -88) (tgt := 9) hX (by decide +kernel) (by decide +kernel) ?_
    exact J_sub [1, 2, 0] _ rfl (hk9 (v2 + 1) μ2)
  · refine J_iload_n (k0 := 2) (pc := 41) 2 hX (by decide +kernel) rfl rfl ?_
    refine J_aload_n (k0 := 0) (pc := 42) 0 hX (by decide +kernel) rfl rfl ?_
    refine J_gr (pc := 43) hX (by decide +kernel) fl_Th_18 hL.1 rfl hL.2.1.1 ?_
    refine J_gr (pc := 46) hX (by decide +kernel) fl_Th_127 hL.2.1.2.1 rfl hL.2.1.2.2.2.2.2.2.2.2.1.1 ?_
    refine J_iload (pc := 49) 4 hX (by decide +kernel) rfl ?_
    refine J_cVi (pc := 51) (idx := 34) [.int v4] hX (by decide +kernel) (mq mt_4 191 (by decide +kernel)) mv_Rw_at hL.2.1.2.2.2.2.2.2.2.2.1.2.1 rfl rfl (Nat.le_of_ble_eq_true rfl) (Nat.le_of_ble_eq_true rfl) (c_Rw_at hL.2.1.2.2.2.2.2.2.2.2.1.2 v4 μ) (fun x4 μ3 => ?_)
    refine J_isub (pc := 54) hX (by decide +kernel) ?_
    refine J_istore (pc := 55) [(5, .int (v2 - x4)), (0, .ref (G.1 + a)), (1, .int v1), (2, .int v2), (3, .int v3), (4, .int v4)] hX (by decide +kernel) (by decide) rfl ?_
    refine J_iload (pc := 57) 0 hX (by decide +kernel) rfl ?_
    refine J_if_lt (pc := 59) (off := 22) (tgt := 81) hX (by decide +kernel) (by decide +kernel) (fun _ => ?_) (fun _ => ?_)
    · exact J_sub [1, 2, 3, 4, 5] _ rfl (jTh_voyageRows_81 hL hX v1 v2 v3 v4 hk9 hk26 μ3)
    · refine J_iload (pc := 62) 0 hX (by decide +kernel) rfl ?_
      refine J_iload_n (k0 := 2) (pc := 64) 3 hX (by decide +kernel) rfl rfl ?_
      refine J_icmp_ge (pc := 65) (off := 16) (tgt := 81) hX (by decide +kernel) (by decide +kernel) (fun _ => ?_) (fun _ => ?_)
      · exact J_sub [1, 2, 3, 4, 5] _ rfl (jTh_voyageRows_81 hL hX v1 v2 v3 v4 hk9 hk26 μ3)
      · refine J_iload_n (k0 := 3) (pc := 68) 4 hX (by decide +kernel) rfl rfl ?_
        refine J_aload_n (k0 := 0) (pc := 69) 1 hX (by decide +kernel) rfl rfl ?_
        refine J_gr (pc := 70) hX (by decide +kernel) fl_Th_11 hL.1 rfl hL.2.2.1.1 ?_
        refine J_iload (pc := 73) 0 hX (by decide +kernel) rfl ?_
        refine J_ldA (pc := 75) hX (by decide +kernel) hL.2.2.1.2 (fun x5 => ?_)
        refine J_iadd (pc := 76) hX (by decide +kernel) ?_
        refine J_ldc (pc := 77) (idx := 130) (v := 1000000007) hX (by decide +kernel) (mq mt_5 152 (by decide +kernel)) ?_
        refine J_iremK (pc := 79) hX (by decide +kernel) (by decide +kernel) ?_
        refine J_istore_n (k0 := 3) (pc := 80) [(3, .int (jrem (v3 + x5) 1000000007)), (5, .int (v2 - x4)), (0, .ref (G.1 + a)), (1, .int v1), (2, .int v2), (4, .int v4)] hX (by decide +kernel) rfl (by decide) rfl ?_
        exact J_sub [2, 3, 4, 0, 5] _ rfl (jTh_voyageRows_81 hL hX v1 v2 (jrem (v3 + x5) 1000000007) v4 hk9 hk26 μ3)
set_option maxRecDepth 100000 in
set_option maxHeartbeats 4000000 in
theorem jTh_voyageRows_26 {X : Cx} {l : Launch} {G : Gx} {y : Ly} {a tt : Nat} (hL : LyTh y a tt) (hX : Ok X l G prog_10_method_22_code 6 (some .int) "SaltFigures$Thinker") (v1 : Int32) (v2 : Int32) {kb9 : Int32 → Mu → Option (Int32 × Mu)} (hk9 : ∀ (v2 : Int32) (μ : Mu), J X G 6 2 y (emy y) rvI tpT 9 [(0, .ref (G.1 + a)), (1, .int v1), (2, .int v2)] [] (μ, y) (kb9 v2 μ)) : ∀ (fu : Nat) (v3 : Int32) (v4 : Int32) (μ : Mu), J X G 6 2 y (emy y) rvI tpT 26 [(0, .ref (G.1 + a)), (1, .int v1), (2, .int v2), (3, .int v3), (4, .int v4)] [] (μ, y) (Th_voyageRows_26 a tt kb9 v1 v2 fu v3 v4 μ) := by
  intro fu
  induction fu with
  | zero => intros; exact J_none
  | succ fu ih => intro v3 v4 μ; exact jTh_voyageRows_26b hL hX v1 v2 hk9 ih v3 v4 μ
set_option maxRecDepth 100000 in
set_option maxHeartbeats 4000000 in
theorem jTh_voyageRows_9b {X : Cx} {l : Launch} {G : Gx} {y : Ly} {a tt : Nat} (hL : LyTh y a tt) (hX : Ok X l G prog_10_method_22_code 6 (some .int) "SaltFigures$Thinker") (v1 : Int32)  {kb9 : Int32 → Mu → Option (Int32 × Mu)}  (hk9 : ∀ (v2 : Int32) (μ : Mu), J X G 6 2 y (emy y) rvI tpT 9 [(0, .ref (G.1 + a)), (1, .int v1), (2, .int v2)] [] (μ, y) (kb9 v2 μ)) (v2 : Int32)  (μ : Mu) : J X G 6 2 y (emy y) rvI tpT 9 [(0, .ref (G.1 + a)), (1, .int v1), (2, .int v2)] [] (μ, y) (Th_voyageRows_9b a tt  kb9 v1 v2  μ) := by
  unfold Th_voyageRows_9b
  refine J_iload_n (k0 := 2) (pc := 9) 2 hX (by decide +kernel) rfl rfl ?_
  refine J_iload_n (k0 := 1) (pc := 10) 1 hX (by decide +kernel) rfl rfl ?_
  refine J_icmp_gt (pc := 11) (off := 89) (tgt := 100) hX (by decide +kernel) (by decide +kernel) (fun _ => ?_) (fun _ => ?_)
  · exact J_sub [0, 1] _ rfl (jTh_voyageRows_100 hL hX v1 μ)
  · refine J_iload_n (k0 := 2) (pc := 14) 2 hX (by decide +kernel) rfl rfl ?_
    refine J_sipush (pc := 15) (n := 361) (v := 361) hX (by decide +kernel) (by decide +kernel) ?_
    refine J_icmp_ge (pc := 18) (off := 82) (tgt := 100) hX (by decide +kernel) (by decide +kernel) (fun _ => ?_) (fun _ => ?_)
    · exact J_sub [0, 1] _ rfl (jTh_voyageRows_100 hL hX v1 μ)
    · refine J_iconst (pc := 21) (n := 0) (v := 0) hX (by decide +kernel) (by decide +kernel) ?_
      refine J_istore_n (k0 := 3) (pc := 22) [(3, .int 0), (0, .ref (G.1 + a)), (1, .int v1), (2, .int v2)] hX (by decide +kernel) rfl (by decide) rfl ?_
      refine J_iconst (pc := 23) (n := 0) (v := 0) hX (by decide +kernel) (by decide +kernel) ?_
      refine J_istore (pc := 24) [(4, .int 0), (3, .int 0), (0, .ref (G.1 + a)), (1, .int v1), (2, .int v2)] hX (by decide +kernel) (by decide) rfl ?_
      exact J_sub [2, 3, 4, 1, 0] _ rfl (jTh_voyageRows_26 hL hX v1 v2 hk9 FU 0 0 μ)
set_option maxRecDepth 100000 in
set_option maxHeartbeats 4000000 in
theorem jTh_voyageRows_9 {X : Cx} {l : Launch} {G : Gx} {y : Ly} {a tt : Nat} (hL : LyTh y a tt) (hX : Ok X l G prog_10_method_22_code 6 (some .int) "SaltFigures$Thinker") (v1 : Int32)   : ∀ (fu : Nat) (v2 : Int32) (μ : Mu), J X G 6 2 y (emy y) rvI tpT 9 [(0, .ref (G.1 + a)), (1, .int v1), (2, .int v2)] [] (μ, y) (Th_voyageRows_9 a tt  v1 fu v2 μ) := by
  intro fu
  induction fu with
  | zero => intros; exact J_none
  | succ fu ih => intro v2 μ; exact jTh_voyageRows_9b hL hX v1  ih v2 μ
set_option maxRecDepth 100000 in
set_option maxHeartbeats 4000000 in
theorem jTh_voyageRows {X : Cx} {l : Launch} {G : Gx} {y : Ly} {a tt : Nat} (hL : LyTh y a tt) (hX : Ok X l G prog_10_method_22_code 6 (some .int) "SaltFigures$Thinker") (v1 : Int32) (μ : Mu) : J X G 6 2 y (emy y) rvI tpT 0 [(0, .ref (G.1 + a)), (1, .int v1)] [] (μ, y) (Th_voyageRows a tt v1 μ) := by
  unfold Th_voyageRows
  refine J_aload_n (k0 := 0) (pc := 0) 0 hX (by decide +kernel) rfl rfl ?_
  refine J_gr (pc := 1) hX (by decide +kernel) fl_Th_11 hL.1 rfl hL.2.2.1.1 ?_
  refine J_iconst (pc := 4) (n := 0) (v := 0) hX (by decide +kernel) (by decide +kernel) ?_
  refine J_iconst (pc := 5) (n := 1) (v := 1) hX (by decide +kernel) (by decide +kernel) ?_
  refine J_stA (pc := 6) hX (by decide +kernel) hL.2.2.1.2 (fun μ1 => ?_)
  refine J_iconst (pc := 7) (n := 1) (v := 1) hX (by decide +kernel) (by decide +kernel) ?_
  refine J_istore_n (k0 := 2) (pc := 8) [(2, .int 1), (0, .ref (G.1 + a)), (1, .int v1)] hX (by decide +kernel) rfl (by decide) rfl ?_
  exact J_sub [1, 2, 0] _ rfl (jTh_voyageRows_9 hL hX v1 FU 1 μ1)
set_option maxRecDepth 100000 in
set_option maxHeartbeats 4000000 in
theorem c_Th_voyageRows {l : Launch} {G : Gx} {y : Ly} {a tt : Nat} (hL : LyTh y a tt) (v1 : Int32) (μ : Mu) : Cn l G ⟨"SaltFigures$Thinker", "voyageRows", "(I)I"⟩ prog_10_method_22_code 6 (some .int) 2 [.ref (G.1 + a), .int v1] (μ, y) (emy y) rvI tpT (Th_voyageRows a tt v1 μ) := cn_of (by decide +kernel) (Nat.le_of_ble_eq_true rfl) (fun _ _ _ => ⟨List.prefix_refl _, trivial⟩) (fun X hX _ => jTh_voyageRows hL hX v1 μ)

def Th_fewestStages_138 (a tt : Nat)   (v1 : Int32)  (μ : Mu) : Option (Int32 × Mu) := (if v1 < 0 then some ((-1), μ) else (if 361 ≤ v1 then some ((-1), μ) else ldA μ (a + 1) 361 v1 (fun x1 => some (x1, μ))))
def Th_fewestStages_119 (a tt : Nat) (kb9 : Int32 → Mu → Option (Int32 × Mu)) (kb26 : Int32 → Int32 → Mu → Option (Int32 × Mu))  (v1 : Int32) (v2 : Int32) (v3 : Int32) (v4 : Int32)  (μ : Mu) : Option (Int32 × Mu) := kb26 v3 (v4 + 1) μ
def Th_fewestStages_109 (a tt : Nat) (kb9 : Int32 → Mu → Option (Int32 × Mu)) (kb26 : Int32 → Int32 → Mu → Option (Int32 × Mu))  (v1 : Int32) (v2 : Int32) (v4 : Int32) (v5 : Int32)  (μ : Mu) : Option (Int32 × Mu) := ldA μ (a + 1) 361 v5 (fun x1 => Th_fewestStages_119 a tt kb9 kb26 v1 v2 (x1 + 1) v4 μ)
def Th_fewestStages_84 (a tt : Nat) (kb9 : Int32 → Mu → Option (Int32 × Mu)) (kb26 : Int32 → Int32 → Mu → Option (Int32 × Mu))  (v1 : Int32) (v2 : Int32) (v3 : Int32) (v4 : Int32) (v5 : Int32) (s0 : Int32) (μ : Mu) : Option (Int32 × Mu) := (if s0 = 0 then Th_fewestStages_119 a tt kb9 kb26 v1 v2 v3 v4 μ else (if v3 = ((-1)) then Th_fewestStages_109 a tt kb9 kb26 v1 v2 v4 v5 μ else ldA μ (a + 1) 361 v5 (fun x1 => (if v3 ≤ (x1 + 1) then Th_fewestStages_119 a tt kb9 kb26 v1 v2 v3 v4 μ else Th_fewestStages_109 a tt kb9 kb26 v1 v2 v4 v5 μ))))
def Th_fewestStages_83 (a tt : Nat) (kb9 : Int32 → Mu → Option (Int32 × Mu)) (kb26 : Int32 → Int32 → Mu → Option (Int32 × Mu))  (v1 : Int32) (v2 : Int32) (v3 : Int32) (v4 : Int32) (v5 : Int32)  (μ : Mu) : Option (Int32 × Mu) := Th_fewestStages_84 a tt kb9 kb26 v1 v2 v3 v4 v5 0 μ
def Th_fewestStages_26b (a tt : Nat) (kb9 : Int32 → Mu → Option (Int32 × Mu)) (kb26 : Int32 → Int32 → Mu → Option (Int32 × Mu)) (v1 : Int32) (v2 : Int32) (v3 : Int32) (v4 : Int32)  (μ : Mu) : Option (Int32 × Mu) := gF μ (tt + 13) 3 (fun x1 => (if x1 ≤ v4 then stA μ (a + 1) 361 v2 v3 (fun μ2 => kb9 (v2 + 1) μ2) else cl (Rw_at (tt + 13) 6 v4 μ) (fun x4 μ3 => (if (v2 - x4) < 0 then Th_fewestStages_83 a tt kb9 kb26 v1 v2 v3 v4 (v2 - x4) μ3 else (if v2 ≤ (v2 - x4) then Th_fewestStages_83 a tt kb9 kb26 v1 v2 v3 v4 (v2 - x4) μ3 else ldA μ3 (a + 1) 361 (v2 - x4) (fun x5 => (if x5 = ((-1)) then Th_fewestStages_83 a tt kb9 kb26 v1 v2 v3 v4 (v2 - x4) μ3 else Th_fewestStages_84 a tt kb9 kb26 v1 v2 v3 v4 (v2 - x4) 1 μ3)))))))
def Th_fewestStages_26 (a tt : Nat) (kb9 : Int32 → Mu → Option (Int32 × Mu)) (v1 : Int32) (v2 : Int32) (fu : Nat) : Int32 → Int32 → Mu → Option (Int32 × Mu) := lp (fun kb => Th_fewestStages_26b a tt kb9 kb v1 v2) (fun _ _ _ => none) fu
def Th_fewestStages_9b (a tt : Nat)  (kb9 : Int32 → Mu → Option (Int32 × Mu)) (v1 : Int32) (v2 : Int32)  (μ : Mu) : Option (Int32 × Mu) := (if v1 < v2 then Th_fewestStages_138 a tt v1 μ else (if 361 ≤ v2 then Th_fewestStages_138 a tt v1 μ else Th_fewestStages_26 a tt kb9 v1 v2 FU ((-1)) 0 μ))
def Th_fewestStages_9 (a tt : Nat)  (v1 : Int32) (fu : Nat) : Int32 → Mu → Option (Int32 × Mu) := lp (fun kb => Th_fewestStages_9b a tt  kb v1) (fun _ _ => none) fu
def Th_fewestStages (a tt : Nat) (v1 : Int32) (μ : Mu) : Option (Int32 × Mu) := stA μ (a + 1) 361 0 0 (fun μ1 => Th_fewestStages_9 a tt v1 FU 1 μ1)
set_option maxRecDepth 100000 in
set_option maxHeartbeats 4000000 in
theorem jTh_fewestStages_138 {X : Cx} {l : Launch} {G : Gx} {y : Ly} {a tt : Nat} (hL : LyTh y a tt) (hX : Ok X l G prog_10_method_23_code 7 (some .int) "SaltFigures$Thinker")  (v1 : Int32)    (μ : Mu) : J X G 7 2 y (emy y) rvI tpT 138 [(0, .ref (G.1 + a)), (1, .int v1)] [] (μ, y) (Th_fewestStages_138 a tt   v1  μ) := by
  unfold Th_fewestStages_138
  refine J_iload_n (k0 := 1) (pc := 138) 1 hX (by decide +kernel) rfl rfl ?_
  refine J_if_lt (pc := 139) (off := 19) (tgt := 158) hX (by decide +kernel) (by decide +kernel) (fun _ => ?_) (fun _ => ?_)
  · refine J_iconst (pc := 158) (n := -1) (v := (-1)) hX (by decide +kernel) (by decide +kernel) ?_
    exact J_iret (pc := 159) hX (by decide +kernel) rfl trivial
  · refine J_iload_n (k0 := 1) (pc := 142) 1 hX (by decide +kernel) rfl rfl ?_
    refine J_sipush (pc := 143) (n := 361) (v := 361) hX (by decide +kernel) (by decide +kernel) ?_
    refine J_icmp_ge (pc := 146) (off := 12) (tgt := 158) hX (by decide +kernel) (by decide +kernel) (fun _ => ?_) (fun _ => ?_)
    · refine J_iconst (pc := 158) (n := -1) (v := (-1)) hX (by decide +kernel) (by decide +kernel) ?_
      exact J_iret (pc := 159) hX (by decide +kernel) rfl trivial
    · refine J_aload_n (k0 := 0) (pc := 149) 0 hX (by decide +kernel) rfl rfl ?_
      refine J_gr (pc := 150) hX (by decide +kernel) fl_Th_11 hL.1 rfl hL.2.2.1.1 ?_
      refine J_iload_n (k0 := 1) (pc := 153) 1 hX (by decide +kernel) rfl rfl ?_
      refine J_ldA (pc := 154) hX (by decide +kernel) hL.2.2.1.2 (fun x1 => ?_)
      refine J_goto (pc := 155) (off := 4) (tgt := 159) hX (by decide +kernel) (by decide +kernel) ?_
      exact J_iret (pc := 159) hX (by decide +kernel) rfl trivial
set_option maxRecDepth 100000 in
set_option maxHeartbeats 4000000 in
theorem jTh_fewestStages_119 {X : Cx} {l : Launch} {G : Gx} {y : Ly} {a tt : Nat} (hL : LyTh y a tt) (hX : Ok X l G prog_10_method_23_code 7 (some .int) "SaltFigures$Thinker")  (v1 : Int32) (v2 : Int32) (v3 : Int32) (v4 : Int32)  {kb9 : Int32 → Mu → Option (Int32 × Mu)} {kb26 : Int32 → Int32 → Mu → Option (Int32 × Mu)} (hk9 : ∀ (v2 : Int32) (μ : Mu), J X G 7 2 y (emy y) rvI tpT 9 [(0, .ref (G.1 + a)), (1, .int v1), (2, .int v2)] [] (μ, y) (kb9 v2 μ)) (hk26 : ∀ (v3 : Int32) (v4 : Int32) (μ : Mu), J X G 7 2 y (emy y) rvI tpT 26 [(0, .ref (G.1 + a)), (1, .int v1), (2, .int v2), (3, .int v3), (4, .int v4)] [] (μ, y) (kb26 v3 v4 μ)) (μ : Mu) : J X G 7 2 y (emy y) rvI tpT 119 [(0, .ref (G.1 + a)), (1, .int v1), (2, .int v2), (3, .int v3), (4, .int v4)] [] (μ, y) (Th_fewestStages_119 a tt kb9 kb26  v1 v2 v3 v4  μ) := by
  unfold Th_fewestStages_119
  refine J_iinc (pc := 119) (n := 1) 4 [(4, .int (v4 + 1)), (0, .ref (G.1 + a)), (1, .int v1), (2, .int v2), (3, .int v3)] hX (by decide +kernel) rfl rfl (by decide) rfl ?_
  refine J_goto (pc := 122) (off := -96) (tgt := 26) hX (by decide +kernel) (by decide +kernel) ?_
  exact J_sub [1, 2, 3, 4, 0] _ rfl (hk26 v3 (v4 + 1) μ)
set_option maxRecDepth 100000 in
set_option maxHeartbeats 4000000 in
theorem jTh_fewestStages_109 {X : Cx} {l : Launch} {G : Gx} {y : Ly} {a tt : Nat} (hL : LyTh y a tt) (hX : Ok X l G prog_10_method_23_code 7 (some .int) "SaltFigures$Thinker")  (v1 : Int32) (v2 : Int32) (v4 : Int32) (v5 : Int32)  {kb9 : Int32 → Mu → Option (Int32 × Mu)} {kb26 : Int32 → Int32 → Mu → Option (Int32 × Mu)} (hk9 : ∀ (v2 : Int32) (μ : Mu), J X G 7 2 y (emy y) rvI tpT 9 [(0, .ref (G.1 + a)), (1, .int v1), (2, .int v2)] [] (μ, y) (kb9 v2 μ)) (hk26 : ∀ (v3 : Int32) (v4 : Int32) (μ : Mu), J X G 7 2 y (emy y) rvI tpT 26 [(0, .ref (G.1 + a)), (1, .int v1), (2, .int v2), (3, .int v3), (4, .int v4)] [] (μ, y) (kb26 v3 v4 μ)) (μ : Mu) : J X G 7 2 y (emy y) rvI tpT 109 [(0, .ref (G.1 + a)), (1, .int v1), (2, .int v2), (4, .int v4), (5, .int v5)] [] (μ, y) (Th_fewestStages_109 a tt kb9 kb26  v1 v2 v4 v5  μ) := by
  unfold Th_fewestStages_109
  refine J_aload_n (k0 := 0) (pc := 109) 0 hX (by decide +kernel) rfl rfl ?_
  refine J_gr (pc := 110) hX (by decide +kernel) fl_Th_11 hL.1 rfl hL.2.2.1.1 ?_
  refine J_iload (pc := 113) 4 hX (by decide +kernel) rfl ?_
  refine J_ldA (pc := 115) hX (by decide +kernel) hL.2.2.1.2 (fun x1 => ?_)
  refine J_iconst (pc := 116) (n := 1) (v := 1) hX (by decide +kernel) (by decide +kernel) ?_
  refine J_iadd (pc := 117) hX (by decide +kernel) ?_
  refine J_istore_n (k0 := 3) (pc := 118) [(3, .int (x1 + 1)), (0, .ref (G.1 + a)), (1, .int v1), (2, .int v2), (4, .int v4), (5, .int v5)] hX (by decide +kernel) rfl (by decide) rfl ?_
  exact J_sub [1, 2, 3, 0, 4] _ rfl (jTh_fewestStages_119 hL hX v1 v2 (x1 + 1) v4 hk9 hk26 μ)
set_option maxRecDepth 100000 in
set_option maxHeartbeats 4000000 in
theorem jTh_fewestStages_84 {X : Cx} {l : Launch} {G : Gx} {y : Ly} {a tt : Nat} (hL : LyTh y a tt) (hX : Ok X l G prog_10_method_23_code 7 (some .int) "SaltFigures$Thinker")  (v1 : Int32) (v2 : Int32) (v3 : Int32) (v4 : Int32) (v5 : Int32) (s0 : Int32) {kb9 : Int32 → Mu → Option (Int32 × Mu)} {kb26 : Int32 → Int32 → Mu → Option (Int32 × Mu)} (hk9 : ∀ (v2 : Int32) (μ : Mu), J X G 7 2 y (emy y) rvI tpT 9 [(0, .ref (G.1 + a)), (1, .int v1), (2, .int v2)] [] (μ, y) (kb9 v2 μ)) (hk26 : ∀ (v3 : Int32) (v4 : Int32) (μ : Mu), J X G 7 2 y (emy y) rvI tpT 26 [(0, .ref (G.1 + a)), (1, .int v1), (2, .int v2), (3, .int v3), (4, .int v4)] [] (μ, y) (kb26 v3 v4 μ)) (μ : Mu) : J X G 7 2 y (emy y) rvI tpT 84 [(0, .ref (G.1 + a)), (1, .int v1), (2, .int v2), (3, .int v3), (4, .int v4), (5, .int v5)] [.int s0] (μ, y) (Th_fewestStages_84 a tt kb9 kb26  v1 v2 v3 v4 v5 s0 μ) := by
  unfold Th_fewestStages_84
  refine J_istore (pc := 84) [(6, .int s0), (0, .ref (G.1 + a)), (1, .int v1), (2, .int v2), (3, .int v3), (4, .int v4), (5, .int v5)] hX (by decide +kernel) (by decide) rfl ?_
  refine J_iload (pc := 86) 0 hX (by decide +kernel) rfl ?_
  refine J_if_eq (pc := 88) (off := 31) (tgt := 119) hX (by decide +kernel) (by decide +kernel) (fun _ => ?_) (fun _ => ?_)
  · exact J_sub [1, 2, 3, 4, 5] _ rfl (jTh_fewestStages_119 hL hX v1 v2 v3 v4 hk9 hk26 μ)
  · refine J_iload_n (k0 := 3) (pc := 91) 4 hX (by decide +kernel) rfl rfl ?_
    refine J_iconst (pc := 92) (n := -1) (v := (-1)) hX (by decide +kernel) (by decide +kernel) ?_
    refine J_icmp_eq (pc := 93) (off := 16) (tgt := 109) hX (by decide +kernel) (by decide +kernel) (fun _ => ?_) (fun _ => ?_)
    · exact J_sub [1, 2, 3, 5, 6] _ rfl (jTh_fewestStages_109 hL hX v1 v2 v4 v5 hk9 hk26 μ)
    · refine J_aload_n (k0 := 0) (pc := 96) 1 hX (by decide +kernel) rfl rfl ?_
      refine J_gr (pc := 97) hX (by decide +kernel) fl_Th_11 hL.1 rfl hL.2.2.1.1 ?_
      refine J_iload (pc := 100) 6 hX (by decide +kernel) rfl ?_
      refine J_ldA (pc := 102) hX (by decide +kernel) hL.2.2.1.2 (fun x1 => ?_)
      refine J_iconst (pc := 103) (n := 1) (v := 1) hX (by decide +kernel) (by decide +kernel) ?_
      refine J_iadd (pc := 104) hX (by decide +kernel) ?_
      refine J_iload_n (k0 := 3) (pc := 105) 4 hX (by decide +kernel) rfl rfl ?_
      refine J_icmp_ge (pc := 106) (off := 13) (tgt := 119) hX (by decide +kernel) (by decide +kernel) (fun _ => ?_) (fun _ => ?_)
      · exact J_sub [1, 2, 3, 4, 5] _ rfl (jTh_fewestStages_119 hL hX v1 v2 v3 v4 hk9 hk26 μ)
      · exact J_sub [1, 2, 3, 5, 6] _ rfl (jTh_fewestStages_109 hL hX v1 v2 v4 v5 hk9 hk26 μ)
set_option maxRecDepth 100000 in
set_option maxHeartbeats 4000000 in
theorem jTh_fewestStages_83 {X : Cx} {l : Launch} {G : Gx} {y : Ly} {a tt : Nat} (hL : LyTh y a tt) (hX : Ok X l G prog_10_method_23_code 7 (some .int) "SaltFigures$Thinker")  (v1 : Int32) (v2 : Int32) (v3 : Int32) (v4 : Int32) (v5 : Int32)  {kb9 : Int32 → Mu → Option (Int32 × Mu)} {kb26 : Int32 → Int32 → Mu → Option (Int32 × Mu)} (hk9 : ∀ (v2 : Int32) (μ : Mu), J X G 7 2 y (emy y) rvI tpT 9 [(0, .ref (G.1 + a)), (1, .int v1), (2, .int v2)] [] (μ, y) (kb9 v2 μ)) (hk26 : ∀ (v3 : Int32) (v4 : Int32) (μ : Mu), J X G 7 2 y (emy y) rvI tpT 26 [(0, .ref (G.1 + a)), (1, .int v1), (2, .int v2), (3, .int v3), (4, .int v4)] [] (μ, y) (kb26 v3 v4 μ)) (μ : Mu) : J X G 7 2 y (emy y) rvI tpT 83 [(0, .ref (G.1 + a)), (1, .int v1), (2, .int v2), (3, .int v3), (4, .int v4), (5, .int v5)] [] (μ, y) (Th_fewestStages_83 a tt kb9 kb26  v1 v2 v3 v4 v5  μ) := by
  unfold Th_fewestStages_83
  refine J_iconst (pc := 83) (n := 0) (v := 0) hX (by decide +kernel) (by decide +kernel) ?_
  exact J_sub [0, 1, 2, 3, 4, 5] _ rfl (jTh_fewestStages_84 hL hX v1 v2 v3 v4 v5 0 hk9 hk26 μ)
set_option maxRecDepth 100000 in
set_option maxHeartbeats 4000000 in
theorem jTh_fewestStages_26b {X : Cx} {l : Launch} {G : Gx} {y : Ly} {a tt : Nat} (hL : LyTh y a tt) (hX : Ok X l G prog_10_method_23_code 7 (some .int) "SaltFigures$Thinker") (v1 : Int32) (v2 : Int32) {kb9 : Int32 → Mu → Option (Int32 × Mu)} {kb26 : Int32 → Int32 → Mu → Option (Int32 × Mu)} (hk9 : ∀ (v2 : Int32) (μ : Mu), J X G 7 2 y (emy y) rvI tpT 9 [(0, .ref (G.1 + a)), (1, .int v1), (2, .int v2)] [] (μ, y) (kb9 v2 μ)) (hk26 : ∀ (v3 : Int32) (v4 : Int32) (μ : Mu), J X G 7 2 y (emy y) rvI tpT 26 [(0, .ref (G.1 + a)), (1, .int v1), (2, .int v2), (3, .int v3), (4, .int v4)] [] (μ, y) (kb26 v3 v4 μ)) (v3 : Int32) (v4 : Int32)  (μ : Mu) : J X G 7 2 y (emy y) rvI tpT 26 [(0, .ref (G.1 + a)), (1, .int v1), (2, .int v2), (3, .int v3), (4, .int v4)] [] (μ, y) (Th_fewestStages_26b a tt kb9 kb26 v1 v2 v3 v4  μ) := by
  unfold Th_fewestStages_26b
  refine J_iload (pc := 26) 4 hX (by decide +kernel) rfl ?_
  refine J_aload_n (k0 := 0) (pc := 28) 0 hX (by decide +kernel) rfl rfl ?_
  refine J_gr (pc := 29) hX (by decide +kernel) fl_Th_18 hL.1 rfl hL.2.1.1 ?_
  refine J_gr (pc := 32) hX (by decide +kernel) fl_Th_127 hL.2.1.2.1 rfl hL.2.1.2.2.2.2.2.2.2.2.1.1 ?_
  refine J_gF (pc := 35) hX (by decide +kernel) fl_Th_28 hL.2.1.2.2.2.2.2.2.2.2.1.2.1 rfl (fun x1 => ?_)
  refine J_icmp_ge (pc := 38) (off := 87) (tgt := 125) hX (by decide +kernel) (by decide +kernel) (fun _ => ?_) (fun _ => ?_)
  · refine J_aload_n (k0 := 0) (pc := 125) 0 hX (by decide +kernel) rfl rfl ?_
    refine J_gr (pc := 126) hX (by decide +kernel) fl_Th_11 hL.1 rfl hL.2.2.1.1 ?_
    refine J_iload_n (k0 := 2) (pc := 129) 2 hX (by decide +kernel) rfl rfl ?_
    refine J_iload_n (k0 := 3) (pc := 130) 3 hX (by decide +kernel) rfl rfl ?_
    refine J_stA (pc := 131) hX (by decide +kernel) hL.2.2.1.2 (fun μ2 => ?_)
    refine J_iinc (pc := 132) (n := 1) 2 [(2, .int (v2 + 1)), (0, .ref (G.1 + a)), (1, .int v1), (3, .int v3), (4, .int v4)] hX (by decide +kernel) rfl rfl (by decide) rfl ?_
    refine J_goto (pc := 135) (off := -126) (tgt := 9) hX (by decide +kernel) (by decide +kernel) ?_
    exact J_sub [1, 2, 0] _ rfl (hk9 (v2 + 1) μ2)
  · refine J_iload_n (k0 := 2) (pc := 41) 2 hX (by decide +kernel) rfl rfl ?_
    refine J_aload_n (k0 := 0) (pc := 42) 0 hX (by decide +kernel) rfl rfl ?_
    refine J_gr (pc := 43) hX (by decide +kernel) fl_Th_18 hL.1 rfl hL.2.1.1 ?_
    refine J_gr (pc := 46) hX (by decide +kernel) fl_Th_127 hL.2.1.2.1 rfl hL.2.1.2.2.2.2.2.2.2.2.1.1 ?_
    refine J_iload (pc := 49) 4 hX (by decide +kernel) rfl ?_
    refine J_cVi (pc := 51) (idx := 34) [.int v4] hX (by decide +kernel) (mq mt_4 191 (by decide +kernel)) mv_Rw_at hL.2.1.2.2.2.2.2.2.2.2.1.2.1 rfl rfl (Nat.le_of_ble_eq_true rfl) (Nat.le_of_ble_eq_true rfl) (c_Rw_at hL.2.1.2.2.2.2.2.2.2.2.1.2 v4 μ) (fun x4 μ3 => ?_)
    refine J_isub (pc := 54) hX (by decide +kernel) ?_
    refine J_istore (pc := 55) [(5, .int (v2 - x4)), (0, .ref (G.1 + a)), (1, .int v1), (2, .int v2), (3, .int v3), (4, .int v4)] hX (by decide +kernel) (by decide) rfl ?_
    refine J_iload (pc := 57) 0 hX (by decide +kernel) rfl ?_
    refine J_if_lt (pc := 59) (off := 24) (tgt := 83) hX (by decide +kernel) (by decide +kernel) (fun _ => ?_) (fun _ => ?_)
    · exact J_sub [1, 2, 3, 4, 5, 0] _ rfl (jTh_fewestStages_83 hL hX v1 v2 v3 v4 (v2 - x4) hk9 hk26 μ3)
    · refine J_iload (pc := 62) 0 hX (by decide +kernel) rfl ?_
      refine J_iload_n (k0 := 2) (pc := 64) 3 hX (by decide +kernel) rfl rfl ?_
      refine J_icmp_ge (pc := 65) (off := 18) (tgt := 83) hX (by decide +kernel) (by decide +kernel) (fun _ => ?_) (fun _ => ?_)
      · exact J_sub [1, 2, 3, 4, 5, 0] _ rfl (jTh_fewestStages_83 hL hX v1 v2 v3 v4 (v2 - x4) hk9 hk26 μ3)
      · refine J_aload_n (k0 := 0) (pc := 68) 1 hX (by decide +kernel) rfl rfl ?_
        refine J_gr (pc := 69) hX (by decide +kernel) fl_Th_11 hL.1 rfl hL.2.2.1.1 ?_
        refine J_iload (pc := 72) 0 hX (by decide +kernel) rfl ?_
        refine J_ldA (pc := 74) hX (by decide +kernel) hL.2.2.1.2 (fun x5 => ?_)
        refine J_iconst (pc := 75) (n := -1) (v := (-1)) hX (by decide +kernel) (by decide +kernel) ?_
        refine J_icmp_eq (pc := 76) (off := 7) (tgt := 83) hX (by decide +kernel) (by decide +kernel) (fun _ => ?_) (fun _ => ?_)
        · exact J_sub [1, 2, 3, 4, 5, 0] _ rfl (jTh_fewestStages_83 hL hX v1 v2 v3 v4 (v2 - x4) hk9 hk26 μ3)
        · refine J_iconst (pc := 79) (n := 1) (v := 1) hX (by decide +kernel) (by decide +kernel) ?_
          refine J_goto (pc := 80) (off := 4) (tgt := 84) hX (by decide +kernel) (by decide +kernel) ?_
          exact J_sub [1, 2, 3, 4, 5, 0] _ rfl (jTh_fewestStages_84 hL hX v1 v2 v3 v4 (v2 - x4) 1 hk9 hk26 μ3)
set_option maxRecDepth 100000 in
set_option maxHeartbeats 4000000 in
theorem jTh_fewestStages_26 {X : Cx} {l : Launch} {G : Gx} {y : Ly} {a tt : Nat} (hL : LyTh y a tt) (hX : Ok X l G prog_10_method_23_code 7 (some .int) "SaltFigures$Thinker") (v1 : Int32) (v2 : Int32) {kb9 : Int32 → Mu → Option (Int32 × Mu)} (hk9 : ∀ (v2 : Int32) (μ : Mu), J X G 7 2 y (emy y) rvI tpT 9 [(0, .ref (G.1 + a)), (1, .int v1), (2, .int v2)] [] (μ, y) (kb9 v2 μ)) : ∀ (fu : Nat) (v3 : Int32) (v4 : Int32) (μ : Mu), J X G 7 2 y (emy y) rvI tpT 26 [(0, .ref (G.1 + a)), (1, .int v1), (2, .int v2), (3, .int v3), (4, .int v4)] [] (μ, y) (Th_fewestStages_26 a tt kb9 v1 v2 fu v3 v4 μ) := by
  intro fu
  induction fu with
  | zero => intros; exact J_none
  | succ fu ih => intro v3 v4 μ; exact jTh_fewestStages_26b hL hX v1 v2 hk9 ih v3 v4 μ
set_option maxRecDepth 100000 in
set_option maxHeartbeats 4000000 in
theorem jTh_fewestStages_9b {X : Cx} {l : Launch} {G : Gx} {y : Ly} {a tt : Nat} (hL : LyTh y a tt) (hX : Ok X l G prog_10_method_23_code 7 (some .int) "SaltFigures$Thinker") (v1 : Int32)  {kb9 : Int32 → Mu → Option (Int32 × Mu)}  (hk9 : ∀ (v2 : Int32) (μ : Mu), J X G 7 2 y (emy y) rvI tpT 9 [(0, .ref (G.1 + a)), (1, .int v1), (2, .int v2)] [] (μ, y) (kb9 v2 μ)) (v2 : Int32)  (μ : Mu) : J X G 7 2 y (emy y) rvI tpT 9 [(0, .ref (G.1 + a)), (1, .int v1), (2, .int v2)] [] (μ, y) (Th_fewestStages_9b a tt  kb9 v1 v2  μ) := by
  unfold Th_fewestStages_9b
  refine J_iload_n (k0 := 2) (pc := 9) 2 hX (by decide +kernel) rfl rfl ?_
  refine J_iload_n (k0 := 1) (pc := 10) 1 hX (by decide +kernel) rfl rfl ?_
  refine J_icmp_gt (pc := 11) (off := 127) (tgt := 138) hX (by decide +kernel) (by decide +kernel) (fun _ => ?_) (fun _ => ?_)
  · exact J_sub [0, 1] _ rfl (jTh_fewestStages_138 hL hX v1 μ)
  · refine J_iload_n (k0 := 2) (pc := 14) 2 hX (by decide +kernel) rfl rfl ?_
    refine J_sipush (pc := 15) (n := 361) (v := 361) hX (by decide +kernel) (by decide +kernel) ?_
    refine J_icmp_ge (pc := 18) (off := 120) (tgt := 138) hX (by decide +kernel) (by decide +kernel) (fun _ => ?_) (fun _ => ?_)
    · exact J_sub [0, 1] _ rfl (jTh_fewestStages_138 hL hX v1 μ)
    · refine J_iconst (pc := 21) (n := -1) (v := (-1)) hX (by decide +kernel) (by decide +kernel) ?_
      refine J_istore_n (k0 := 3) (pc := 22) [(3, .int ((-1))), (0, .ref (G.1 + a)), (1, .int v1), (2, .int v2)] hX (by decide +kernel) rfl (by decide) rfl ?_
      refine J_iconst (pc := 23) (n := 0) (v := 0) hX (by decide +kernel) (by decide +kernel) ?_
      refine J_istore (pc := 24) [(4, .int 0), (3, .int ((-1))), (0, .ref (G.1 + a)), (1, .int v1), (2, .int v2)] hX (by decide +kernel) (by decide) rfl ?_
      exact J_sub [2, 3, 4, 1, 0] _ rfl (jTh_fewestStages_26 hL hX v1 v2 hk9 FU ((-1)) 0 μ)
set_option maxRecDepth 100000 in
set_option maxHeartbeats 4000000 in
theorem jTh_fewestStages_9 {X : Cx} {l : Launch} {G : Gx} {y : Ly} {a tt : Nat} (hL : LyTh y a tt) (hX : Ok X l G prog_10_method_23_code 7 (some .int) "SaltFigures$Thinker") (v1 : Int32)   : ∀ (fu : Nat) (v2 : Int32) (μ : Mu), J X G 7 2 y (emy y) rvI tpT 9 [(0, .ref (G.1 + a)), (1, .int v1), (2, .int v2)] [] (μ, y) (Th_fewestStages_9 a tt  v1 fu v2 μ) := by
  intro fu
  induction fu with
  | zero => intros; exact J_none
  | succ fu ih => intro v2 μ; exact jTh_fewestStages_9b hL hX v1  ih v2 μ
set_option maxRecDepth 100000 in
set_option maxHeartbeats 4000000 in
theorem jTh_fewestStages {X : Cx} {l : Launch} {G : Gx} {y : Ly} {a tt : Nat} (hL : LyTh y a tt) (hX : Ok X l G prog_10_method_23_code 7 (some .int) "SaltFigures$Thinker") (v1 : Int32) (μ : Mu) : J X G 7 2 y (emy y) rvI tpT 0 [(0, .ref (G.1 + a)), (1, .int v1)] [] (μ, y) (Th_fewestStages a tt v1 μ) := by
  unfold Th_fewestStages
  refine J_aload_n (k0 := 0) (pc := 0) 0 hX (by decide +kernel) rfl rfl ?_
  refine J_gr (pc := 1) hX (by decide +kernel) fl_Th_11 hL.1 rfl hL.2.2.1.1 ?_
  refine J_iconst (pc := 4) (n := 0) (v := 0) hX (by decide +kernel) (by decide +kernel) ?_
  refine J_iconst (pc := 5) (n := 0) (v := 0) hX (by decide +kernel) (by decide +kernel) ?_
  refine J_stA (pc := 6) hX (by decide +kernel) hL.2.2.1.2 (fun μ1 => ?_)
  refine J_iconst (pc := 7) (n := 1) (v := 1) hX (by decide +kernel) (by decide +kernel) ?_
  refine J_istore_n (k0 := 2) (pc := 8) [(2, .int 1), (0, .ref (G.1 + a)), (1, .int v1)] hX (by decide +kernel) rfl (by decide) rfl ?_
  exact J_sub [1, 2, 0] _ rfl (jTh_fewestStages_9 hL hX v1 FU 1 μ1)
set_option maxRecDepth 100000 in
set_option maxHeartbeats 4000000 in
theorem c_Th_fewestStages {l : Launch} {G : Gx} {y : Ly} {a tt : Nat} (hL : LyTh y a tt) (v1 : Int32) (μ : Mu) : Cn l G ⟨"SaltFigures$Thinker", "fewestStages", "(I)I"⟩ prog_10_method_23_code 7 (some .int) 2 [.ref (G.1 + a), .int v1] (μ, y) (emy y) rvI tpT (Th_fewestStages a tt v1 μ) := cn_of (by decide +kernel) (Nat.le_of_ble_eq_true rfl) (fun _ _ _ => ⟨List.prefix_refl _, trivial⟩) (fun X hX _ => jTh_fewestStages hL hX v1 μ)
