/-! THE CLASS: models and their rows (by program) -/
def Sf_coins_30 (a : Nat)    (s0 : Int32) (s1 : Int32) (μ : Mu) : Option (Int32 × Mu) := cl (Sm_fewestWeighings s1 s0 μ) (fun x2 μ1 => some (x2, μ1))
def Sf_coins (a : Nat) (v1 : Int32) (v2 : Int32) (μ : Mu) : Option (Int32 × Mu) := cl (Sf_within v1 1 100 μ) (fun x2 μ1 => (if x2 = 0 then some ((-1), μ1) else cl (Sf_within v2 0 1 μ1) (fun x4 μ3 => (if x4 = 0 then some ((-1), μ3) else (if v2 = 1 then Sf_coins_30 a 1 v1 μ3 else Sf_coins_30 a 0 v1 μ3)))))
set_option maxRecDepth 100000 in
set_option maxHeartbeats 4000000 in
theorem jSf_coins_30 {X : Cx} {l : Launch} {G : Gx} {y : Ly} {a : Nat} (hL : LySf y a ) (hX : Ok X l G prog_1_method_26_code 3 (some .int) "SaltFigures")   (s0 : Int32) (s1 : Int32)   (μ : Mu) : J X G 3 2 y (emy y) rvI tpT 30 [] [.int s0, .int s1] (μ, y) (Sf_coins_30 a    s0 s1 μ) := by
  unfold Sf_coins_30
  refine J_cSi (pc := 30) (idx := 283) [.int s1, .int s0] hX (by decide +kernel) (mq mt_5 49 (by decide +kernel)) mv_Sm_fewestWeighings rfl rfl (Nat.le_of_ble_eq_true rfl) (Nat.le_of_ble_eq_true rfl) (c_Sm_fewestWeighings s1 s0 μ) (fun x2 μ1 => ?_)
  refine J_goto (pc := 33) (off := 4) (tgt := 37) hX (by decide +kernel) (by decide +kernel) ?_
  exact J_iret (pc := 37) hX (by decide +kernel) rfl trivial
set_option maxRecDepth 100000 in
set_option maxHeartbeats 4000000 in
theorem jSf_coins {X : Cx} {l : Launch} {G : Gx} {y : Ly} {a : Nat} (hL : LySf y a ) (hX : Ok X l G prog_1_method_26_code 3 (some .int) "SaltFigures") (v1 : Int32) (v2 : Int32) (μ : Mu) : J X G 3 2 y (emy y) rvI tpT 0 [(0, .ref (G.1 + a)), (1, .int v1), (2, .int v2)] [] (μ, y) (Sf_coins a v1 v2 μ) := by
  unfold Sf_coins
  refine J_iload_n (k0 := 1) (pc := 0) 1 hX (by decide +kernel) rfl rfl ?_
  refine J_iconst (pc := 1) (n := 1) (v := 1) hX (by decide +kernel) (by decide +kernel) ?_
  refine J_bipush (pc := 2) (n := 100) (v := 100) hX (by decide +kernel) (by decide +kernel) ?_
  refine J_cSi (pc := 4) (idx := 68) [.int v1, .int 1, .int 100] hX (by decide +kernel) (mq mt_2 148 (by decide +kernel)) mv_Sf_within rfl rfl (Nat.le_of_ble_eq_true rfl) (Nat.le_of_ble_eq_true rfl) (c_Sf_within v1 1 100 μ) (fun x2 μ1 => ?_)
  refine J_if_eq (pc := 7) (off := 29) (tgt := 36) hX (by decide +kernel) (by decide +kernel) (fun _ => ?_) (fun _ => ?_)
  · refine J_iconst (pc := 36) (n := -1) (v := (-1)) hX (by decide +kernel) (by decide +kernel) ?_
    exact J_iret (pc := 37) hX (by decide +kernel) rfl trivial
  · refine J_iload_n (k0 := 2) (pc := 10) 2 hX (by decide +kernel) rfl rfl ?_
    refine J_iconst (pc := 11) (n := 0) (v := 0) hX (by decide +kernel) (by decide +kernel) ?_
    refine J_iconst (pc := 12) (n := 1) (v := 1) hX (by decide +kernel) (by decide +kernel) ?_
    refine J_cSi (pc := 13) (idx := 68) [.int v2, .int 0, .int 1] hX (by decide +kernel) (mq mt_2 148 (by decide +kernel)) mv_Sf_within rfl rfl (Nat.le_of_ble_eq_true rfl) (Nat.le_of_ble_eq_true rfl) (c_Sf_within v2 0 1 μ1) (fun x4 μ3 => ?_)
    refine J_if_eq (pc := 16) (off := 20) (tgt := 36) hX (by decide +kernel) (by decide +kernel) (fun _ => ?_) (fun _ => ?_)
    · refine J_iconst (pc := 36) (n := -1) (v := (-1)) hX (by decide +kernel) (by decide +kernel) ?_
      exact J_iret (pc := 37) hX (by decide +kernel) rfl trivial
    · refine J_iload_n (k0 := 1) (pc := 19) 1 hX (by decide +kernel) rfl rfl ?_
      refine J_iload_n (k0 := 2) (pc := 20) 2 hX (by decide +kernel) rfl rfl ?_
      refine J_iconst (pc := 21) (n := 1) (v := 1) hX (by decide +kernel) (by decide +kernel) ?_
      refine J_icmp_ne (pc := 22) (off := 7) (tgt := 29) hX (by decide +kernel) (by decide +kernel) (fun _ => ?_) (fun _ => ?_)
      · refine J_iconst (pc := 29) (n := 0) (v := 0) hX (by decide +kernel) (by decide +kernel) ?_
        exact J_sub [] _ rfl (jSf_coins_30 hL hX 0 v1 μ3)
      · refine J_iconst (pc := 25) (n := 1) (v := 1) hX (by decide +kernel) (by decide +kernel) ?_
        refine J_goto (pc := 26) (off := 4) (tgt := 30) hX (by decide +kernel) (by decide +kernel) ?_
        exact J_sub [] _ rfl (jSf_coins_30 hL hX 1 v1 μ3)
set_option maxRecDepth 100000 in
set_option maxHeartbeats 4000000 in
theorem c_Sf_coins {l : Launch} {G : Gx} {y : Ly} {a : Nat} (hL : LySf y a ) (v1 : Int32) (v2 : Int32) (μ : Mu) : Cn l G ⟨"SaltFigures", "coins", "(II)I"⟩ prog_1_method_26_code 3 (some .int) 2 [.ref (G.1 + a), .int v1, .int v2] (μ, y) (emy y) rvI tpT (Sf_coins a v1 v2 μ) := cn_of (by decide +kernel) (Nat.le_of_ble_eq_true rfl) (fun _ _ _ => ⟨List.prefix_refl _, trivial⟩) (fun X hX _ => jSf_coins hL hX v1 v2 μ)

def Sm_monthLength_56    (v1 : Int32)  (μ : Mu) : Option (Int32 × Mu) := ldZ monL (v1 - 1) (fun x1 => some (x1, μ))
def Sm_monthLength_41    (v1 : Int32) (s0 : Int32) (μ : Mu) : Option (Int32 × Mu) := (if v1 = 2 then (if s0 = 0 then Sm_monthLength_56 v1 μ else some (29, μ)) else Sm_monthLength_56 v1 μ)
def Sm_monthLength_40    (v1 : Int32)  (μ : Mu) : Option (Int32 × Mu) := Sm_monthLength_41 v1 0 μ
def Sm_monthLength_36    (v1 : Int32)  (μ : Mu) : Option (Int32 × Mu) := Sm_monthLength_41 v1 1 μ
def Sm_monthLength  (v0 : Int32) (v1 : Int32) (μ : Mu) : Option (Int32 × Mu) := (if v1 < 1 then some (0, μ) else (if v1 ≤ 12 then (if (jrem v0 4) = 0 then (if (jrem v0 100) = 0 then (if (jrem v0 400) = 0 then Sm_monthLength_36 v1 μ else Sm_monthLength_40 v1 μ) else Sm_monthLength_36 v1 μ) else Sm_monthLength_40 v1 μ) else some (0, μ)))
set_option maxRecDepth 100000 in
set_option maxHeartbeats 4000000 in
theorem jSm_monthLength_56 {X : Cx} {l : Launch} {G : Gx} {y : Ly}   (hX : Ok X l G prog_8_method_3_code 3 (some .int) "SaltFigures$Sums")  (v1 : Int32)    (μ : Mu) : J X G 3 1 y (emy y) rvI tpT 56 [(1, .int v1)] [] (μ, y) (Sm_monthLength_56    v1  μ) := by
  unfold Sm_monthLength_56
  refine J_getsN (pc := 56) (v := .ref (G.2.2.2.2.2 4)) (idx := 15) (host := "SaltFigures") hX (by decide +kernel) (mq mt_4 155 (by decide +kernel)) (fun _ h => h.2.2.2.2.2.2.1) ?_
  refine J_iload_n (k0 := 1) (pc := 59) 0 hX (by decide +kernel) rfl rfl ?_
  refine J_iconst (pc := 60) (n := 1) (v := 1) hX (by decide +kernel) (by decide +kernel) ?_
  refine J_isub (pc := 61) hX (by decide +kernel) ?_
  refine J_moA (pc := 62) hX (by decide +kernel) (fun x1 => ?_)
  exact J_iret (pc := 63) hX (by decide +kernel) rfl trivial
set_option maxRecDepth 100000 in
set_option maxHeartbeats 4000000 in
theorem jSm_monthLength_41 {X : Cx} {l : Launch} {G : Gx} {y : Ly}   (hX : Ok X l G prog_8_method_3_code 3 (some .int) "SaltFigures$Sums")  (v1 : Int32) (s0 : Int32)   (μ : Mu) : J X G 3 1 y (emy y) rvI tpT 41 [(1, .int v1)] [.int s0] (μ, y) (Sm_monthLength_41    v1 s0 μ) := by
  unfold Sm_monthLength_41
  refine J_istore_n (k0 := 2) (pc := 41) [(2, .int s0), (1, .int v1)] hX (by decide +kernel) rfl (by decide) rfl ?_
  refine J_iload_n (k0 := 1) (pc := 42) 1 hX (by decide +kernel) rfl rfl ?_
  refine J_iconst (pc := 43) (n := 2) (v := 2) hX (by decide +kernel) (by decide +kernel) ?_
  refine J_icmp_ne (pc := 44) (off := 12) (tgt := 56) hX (by decide +kernel) (by decide +kernel) (fun _ => ?_) (fun _ => ?_)
  · exact J_sub [1] _ rfl (jSm_monthLength_56 hX v1 μ)
  · refine J_iload_n (k0 := 2) (pc := 47) 0 hX (by decide +kernel) rfl rfl ?_
    refine J_if_eq (pc := 48) (off := 8) (tgt := 56) hX (by decide +kernel) (by decide +kernel) (fun _ => ?_) (fun _ => ?_)
    · exact J_sub [1] _ rfl (jSm_monthLength_56 hX v1 μ)
    · refine J_bipush (pc := 51) (n := 29) (v := 29) hX (by decide +kernel) (by decide +kernel) ?_
      refine J_goto (pc := 53) (off := 10) (tgt := 63) hX (by decide +kernel) (by decide +kernel) ?_
      exact J_iret (pc := 63) hX (by decide +kernel) rfl trivial
set_option maxRecDepth 100000 in
set_option maxHeartbeats 4000000 in
theorem jSm_monthLength_40 {X : Cx} {l : Launch} {G : Gx} {y : Ly}   (hX : Ok X l G prog_8_method_3_code 3 (some .int) "SaltFigures$Sums")  (v1 : Int32)    (μ : Mu) : J X G 3 1 y (emy y) rvI tpT 40 [(1, .int v1)] [] (μ, y) (Sm_monthLength_40    v1  μ) := by
  unfold Sm_monthLength_40
  refine J_iconst (pc := 40) (n := 0) (v := 0) hX (by decide +kernel) (by decide +kernel) ?_
  exact J_sub [0] _ rfl (jSm_monthLength_41 hX v1 0 μ)
set_option maxRecDepth 100000 in
set_option maxHeartbeats 4000000 in
theorem jSm_monthLength_36 {X : Cx} {l : Launch} {G : Gx} {y : Ly}   (hX : Ok X l G prog_8_method_3_code 3 (some .int) "SaltFigures$Sums")  (v1 : Int32)    (μ : Mu) : J X G 3 1 y (emy y) rvI tpT 36 [(1, .int v1)] [] (μ, y) (Sm_monthLength_36    v1  μ) := by
  unfold Sm_monthLength_36
  refine J_iconst (pc := 36) (n := 1) (v := 1) hX (by decide +kernel) (by decide +kernel) ?_
  refine J_goto (pc := 37) (off := 4) (tgt := 41) hX (by decide +kernel) (by decide +kernel) ?_
  exact J_sub [0] _ rfl (jSm_monthLength_41 hX v1 1 μ)
set_option maxRecDepth 100000 in
set_option maxHeartbeats 4000000 in
theorem jSm_monthLength {X : Cx} {l : Launch} {G : Gx} {y : Ly}   (hX : Ok X l G prog_8_method_3_code 3 (some .int) "SaltFigures$Sums") (v0 : Int32) (v1 : Int32) (μ : Mu) : J X G 3 1 y (emy y) rvI tpT 0 [(0, .int v0), (1, .int v1)] [] (μ, y) (Sm_monthLength  v0 v1 μ) := by
  unfold Sm_monthLength
  refine J_iload_n (k0 := 1) (pc := 0) 1 hX (by decide +kernel) rfl rfl ?_
  refine J_iconst (pc := 1) (n := 1) (v := 1) hX (by decide +kernel) (by decide +kernel) ?_
  refine J_icmp_lt (pc := 2) (off := 11) (tgt := 13) hX (by decide +kernel) (by decide +kernel) (fun _ => ?_) (fun _ => ?_)
  · refine J_iconst (pc := 13) (n := 0) (v := 0) hX (by decide +kernel) (by decide +kernel) ?_
    exact J_iret (pc := 14) hX (by decide +kernel) rfl trivial
  · refine J_iload_n (k0 := 1) (pc := 5) 1 hX (by decide +kernel) rfl rfl ?_
    refine J_getsN (pc := 6) (v := .ref (G.2.2.2.2.2 4)) (idx := 15) (host := "SaltFigures") hX (by decide +kernel) (mq mt_4 155 (by decide +kernel)) (fun _ h => h.2.2.2.2.2.2.1) ?_
    refine J_moL (pc := 9) hX (by decide +kernel) ?_
    refine J_icmp_le (pc := 10) (off := 5) (tgt := 15) hX (by decide +kernel) (by decide +kernel) (fun _ => ?_) (fun _ => ?_)
    · refine J_iload_n (k0 := 0) (pc := 15) 0 hX (by decide +kernel) rfl rfl ?_
      refine J_iconst (pc := 16) (n := 4) (v := 4) hX (by decide +kernel) (by decide +kernel) ?_
      refine J_iremK (pc := 17) hX (by decide +kernel) (by decide +kernel) ?_
      refine J_if_ne (pc := 18) (off := 22) (tgt := 40) hX (by decide +kernel) (by decide +kernel) (fun _ => ?_) (fun _ => ?_)
      · exact J_sub [1] _ rfl (jSm_monthLength_40 hX v1 μ)
      · refine J_iload_n (k0 := 0) (pc := 21) 0 hX (by decide +kernel) rfl rfl ?_
        refine J_bipush (pc := 22) (n := 100) (v := 100) hX (by decide +kernel) (by decide +kernel) ?_
        refine J_iremK (pc := 24) hX (by decide +kernel) (by decide +kernel) ?_
        refine J_if_ne (pc := 25) (off := 11) (tgt := 36) hX (by decide +kernel) (by decide +kernel) (fun _ => ?_) (fun _ => ?_)
        · exact J_sub [1] _ rfl (jSm_monthLength_36 hX v1 μ)
        · refine J_iload_n (k0 := 0) (pc := 28) 0 hX (by decide +kernel) rfl rfl ?_
          refine J_sipush (pc := 29) (n := 400) (v := 400) hX (by decide +kernel) (by decide +kernel) ?_
          refine J_iremK (pc := 32) hX (by decide +kernel) (by decide +kernel) ?_
          refine J_if_ne (pc := 33) (off := 7) (tgt := 40) hX (by decide +kernel) (by decide +kernel) (fun _ => ?_) (fun _ => ?_)
          · exact J_sub [1] _ rfl (jSm_monthLength_40 hX v1 μ)
          · exact J_sub [1] _ rfl (jSm_monthLength_36 hX v1 μ)
    · refine J_iconst (pc := 13) (n := 0) (v := 0) hX (by decide +kernel) (by decide +kernel) ?_
      exact J_iret (pc := 14) hX (by decide +kernel) rfl trivial
set_option maxRecDepth 100000 in
set_option maxHeartbeats 4000000 in
theorem c_Sm_monthLength {l : Launch} {G : Gx} {y : Ly}   (v0 : Int32) (v1 : Int32) (μ : Mu) : Cn l G ⟨"SaltFigures$Sums", "monthLength", "(II)I"⟩ prog_8_method_3_code 3 (some .int) 1 [.int v0, .int v1] (μ, y) (emy y) rvI tpT (Sm_monthLength  v0 v1 μ) := cn_of (by decide +kernel) (Nat.le_of_ble_eq_true rfl) (fun _ _ _ => ⟨List.prefix_refl _, trivial⟩) (fun X hX _ => jSm_monthLength  hX v0 v1 μ)

def Sm_isDate  (v0 : Int32) (v1 : Int32) (v2 : Int32) (μ : Mu) : Option (Int32 × Mu) := (if v0 < 1600 then some (0, μ) else (if 2400 < v0 then some (0, μ) else (if v2 < 1 then some (0, μ) else cl (Sm_monthLength v0 v1 μ) (fun x2 μ1 => (if x2 < v2 then some (0, μ1) else some (1, μ1))))))
set_option maxRecDepth 100000 in
set_option maxHeartbeats 4000000 in
theorem jSm_isDate {X : Cx} {l : Launch} {G : Gx} {y : Ly}   (hX : Ok X l G prog_8_method_2_code 3 (some .boolean) "SaltFigures$Sums") (v0 : Int32) (v1 : Int32) (v2 : Int32) (μ : Mu) : J X G 3 2 y (emy y) rvI tpT 0 [(0, .int v0), (1, .int v1), (2, .int v2)] [] (μ, y) (Sm_isDate  v0 v1 v2 μ) := by
  unfold Sm_isDate
  refine J_iload_n (k0 := 0) (pc := 0) 0 hX (by decide +kernel) rfl rfl ?_
  refine J_sipush (pc := 1) (n := 1600) (v := 1600) hX (by decide +kernel) (by decide +kernel) ?_
  refine J_icmp_lt (pc := 4) (off := 28) (tgt := 32) hX (by decide +kernel) (by decide +kernel) (fun _ => ?_) (fun _ => ?_)
  · refine J_iconst (pc := 32) (n := 0) (v := 0) hX (by decide +kernel) (by decide +kernel) ?_
    exact J_zret (pc := 33) hX (by decide +kernel) rfl (by decide +kernel) trivial
  · refine J_iload_n (k0 := 0) (pc := 7) 0 hX (by decide +kernel) rfl rfl ?_
    refine J_sipush (pc := 8) (n := 2400) (v := 2400) hX (by decide +kernel) (by decide +kernel) ?_
    refine J_icmp_gt (pc := 11) (off := 21) (tgt := 32) hX (by decide +kernel) (by decide +kernel) (fun _ => ?_) (fun _ => ?_)
    · refine J_iconst (pc := 32) (n := 0) (v := 0) hX (by decide +kernel) (by decide +kernel) ?_
      exact J_zret (pc := 33) hX (by decide +kernel) rfl (by decide +kernel) trivial
    · refine J_iload_n (k0 := 2) (pc := 14) 2 hX (by decide +kernel) rfl rfl ?_
      refine J_iconst (pc := 15) (n := 1) (v := 1) hX (by decide +kernel) (by decide +kernel) ?_
      refine J_icmp_lt (pc := 16) (off := 16) (tgt := 32) hX (by decide +kernel) (by decide +kernel) (fun _ => ?_) (fun _ => ?_)
      · refine J_iconst (pc := 32) (n := 0) (v := 0) hX (by decide +kernel) (by decide +kernel) ?_
        exact J_zret (pc := 33) hX (by decide +kernel) rfl (by decide +kernel) trivial
      · refine J_iload_n (k0 := 2) (pc := 19) 2 hX (by decide +kernel) rfl rfl ?_
        refine J_iload_n (k0 := 0) (pc := 20) 0 hX (by decide +kernel) rfl rfl ?_
        refine J_iload_n (k0 := 1) (pc := 21) 1 hX (by decide +kernel) rfl rfl ?_
        refine J_cSi (pc := 22) (idx := 11) [.int v0, .int v1] hX (by decide +kernel) (mq mt_4 152 (by decide +kernel)) mv_Sm_monthLength rfl rfl (Nat.le_of_ble_eq_true rfl) (Nat.le_of_ble_eq_true rfl) (c_Sm_monthLength v0 v1 μ) (fun x2 μ1 => ?_)
        refine J_icmp_gt (pc := 25) (off := 7) (tgt := 32) hX (by decide +kernel) (by decide +kernel) (fun _ => ?_) (fun _ => ?_)
        · refine J_iconst (pc := 32) (n := 0) (v := 0) hX (by decide +kernel) (by decide +kernel) ?_
          exact J_zret (pc := 33) hX (by decide +kernel) rfl (by decide +kernel) trivial
        · refine J_iconst (pc := 28) (n := 1) (v := 1) hX (by decide +kernel) (by decide +kernel) ?_
          refine J_goto (pc := 29) (off := 4) (tgt := 33) hX (by decide +kernel) (by decide +kernel) ?_
          exact J_zret (pc := 33) hX (by decide +kernel) rfl (by decide +kernel) trivial
set_option maxRecDepth 100000 in
set_option maxHeartbeats 4000000 in
theorem c_Sm_isDate {l : Launch} {G : Gx} {y : Ly}   (v0 : Int32) (v1 : Int32) (v2 : Int32) (μ : Mu) : Cn l G ⟨"SaltFigures$Sums", "isDate", "(III)Z"⟩ prog_8_method_2_code 3 (some .boolean) 2 [.int v0, .int v1, .int v2] (μ, y) (emy y) rvI tpT (Sm_isDate  v0 v1 v2 μ) := cn_of (by decide +kernel) (Nat.le_of_ble_eq_true rfl) (fun _ _ _ => ⟨List.prefix_refl _, trivial⟩) (fun X hX _ => jSm_isDate  hX v0 v1 v2 μ)

def Sm_leapYearsTo  (v0 : Int32) (μ : Mu) : Option (Int32 × Mu) := some (((v0 / 4) - (v0 / 100)) + (v0 / 400), μ)
set_option maxRecDepth 100000 in
set_option maxHeartbeats 4000000 in
theorem jSm_leapYearsTo {X : Cx} {l : Launch} {G : Gx} {y : Ly}   (hX : Ok X l G prog_8_method_5_code 1 (some .int) "SaltFigures$Sums") (v0 : Int32) (μ : Mu) : J X G 1 1 y (emy y) rvI tpT 0 [(0, .int v0)] [] (μ, y) (Sm_leapYearsTo  v0 μ) := by
  unfold Sm_leapYearsTo
  refine J_iload_n (k0 := 0) (pc := 0) 0 hX (by decide +kernel) rfl rfl ?_
  refine J_iconst (pc := 1) (n := 4) (v := 4) hX (by decide +kernel) (by decide +kernel) ?_
  refine J_idivK (pc := 2) hX (by decide +kernel) (by decide +kernel) ?_
  refine J_iload_n (k0 := 0) (pc := 3) 0 hX (by decide +kernel) rfl rfl ?_
  refine J_bipush (pc := 4) (n := 100) (v := 100) hX (by decide +kernel) (by decide +kernel) ?_
  refine J_idivK (pc := 6) hX (by decide +kernel) (by decide +kernel) ?_
  refine J_isub (pc := 7) hX (by decide +kernel) ?_
  refine J_iload_n (k0 := 0) (pc := 8) 0 hX (by decide +kernel) rfl rfl ?_
  refine J_sipush (pc := 9) (n := 400) (v := 400) hX (by decide +kernel) (by decide +kernel) ?_
  refine J_idivK (pc := 12) hX (by decide +kernel) (by decide +kernel) ?_
  refine J_iadd (pc := 13) hX (by decide +kernel) ?_
  exact J_iret (pc := 14) hX (by decide +kernel) rfl trivial
set_option maxRecDepth 100000 in
set_option maxHeartbeats 4000000 in
theorem c_Sm_leapYearsTo {l : Launch} {G : Gx} {y : Ly}   (v0 : Int32) (μ : Mu) : Cn l G ⟨"SaltFigures$Sums", "leapYearsTo", "(I)I"⟩ prog_8_method_5_code 1 (some .int) 1 [.int v0] (μ, y) (emy y) rvI tpT (Sm_leapYearsTo  v0 μ) := cn_of (by decide +kernel) (Nat.le_of_ble_eq_true rfl) (fun _ _ _ => ⟨List.prefix_refl _, trivial⟩) (fun X hX _ => jSm_leapYearsTo  hX v0 μ)

def Sm_dayNumber_37    (v0 : Int32) (v3 : Int32)  (μ : Mu) : Option (Int32 × Mu) := cl (Sm_leapYearsTo (v0 - 1) μ) (fun x2 μ1 => cl (Sm_leapYearsTo 1599 μ1) (fun x4 μ3 => some (((v3 + (365 * (v0 - 1600))) + x2) - x4, μ3)))
def Sm_dayNumber_7b   (kb7 : Int32 → Int32 → Mu → Option (Int32 × Mu)) (v0 : Int32) (v1 : Int32) (v3 : Int32) (v4 : Int32)  (μ : Mu) : Option (Int32 × Mu) := (if v1 ≤ v4 then Sm_dayNumber_37 v0 v3 μ else (if 12 < v4 then Sm_dayNumber_37 v0 v3 μ else cl (Sm_monthLength v0 v4 μ) (fun x2 μ1 => kb7 (v3 + x2) (v4 + 1) μ1)))
def Sm_dayNumber_7   (v0 : Int32) (v1 : Int32) (fu : Nat) : Int32 → Int32 → Mu → Option (Int32 × Mu) := lp (fun kb => Sm_dayNumber_7b   kb v0 v1) (fun _ _ _ => none) fu
def Sm_dayNumber  (v0 : Int32) (v1 : Int32) (v2 : Int32) (μ : Mu) : Option (Int32 × Mu) := Sm_dayNumber_7 v0 v1 FU (v2 - 1) 1 μ
set_option maxRecDepth 100000 in
set_option maxHeartbeats 4000000 in
theorem jSm_dayNumber_37 {X : Cx} {l : Launch} {G : Gx} {y : Ly}   (hX : Ok X l G prog_8_method_4_code 5 (some .int) "SaltFigures$Sums")  (v0 : Int32) (v3 : Int32)    (μ : Mu) : J X G 5 2 y (emy y) rvI tpT 37 [(0, .int v0), (3, .int v3)] [] (μ, y) (Sm_dayNumber_37    v0 v3  μ) := by
  unfold Sm_dayNumber_37
  refine J_iload_n (k0 := 3) (pc := 37) 1 hX (by decide +kernel) rfl rfl ?_
  refine J_sipush (pc := 38) (n := 365) (v := 365) hX (by decide +kernel) (by decide +kernel) ?_
  refine J_iload_n (k0 := 0) (pc := 41) 0 hX (by decide +kernel) rfl rfl ?_
  refine J_sipush (pc := 42) (n := 1600) (v := 1600) hX (by decide +kernel) (by decide +kernel) ?_
  refine J_isub (pc := 45) hX (by decide +kernel) ?_
  refine J_imul (pc := 46) hX (by decide +kernel) ?_
  refine J_iadd (pc := 47) hX (by decide +kernel) ?_
  refine J_iload_n (k0 := 0) (pc := 48) 0 hX (by decide +kernel) rfl rfl ?_
  refine J_iconst (pc := 49) (n := 1) (v := 1) hX (by decide +kernel) (by decide +kernel) ?_
  refine J_isub (pc := 50) hX (by decide +kernel) ?_
  refine J_cSi (pc := 51) (idx := 19) [.int (v0 - 1)] hX (by decide +kernel) (mq mt_4 160 (by decide +kernel)) mv_Sm_leapYearsTo rfl rfl (Nat.le_of_ble_eq_true rfl) (Nat.le_of_ble_eq_true rfl) (c_Sm_leapYearsTo (v0 - 1) μ) (fun x2 μ1 => ?_)
  refine J_iadd (pc := 54) hX (by decide +kernel) ?_
  refine J_sipush (pc := 55) (n := 1599) (v := 1599) hX (by decide +kernel) (by decide +kernel) ?_
  refine J_cSi (pc := 58) (idx := 19) [.int 1599] hX (by decide +kernel) (mq mt_4 160 (by decide +kernel)) mv_Sm_leapYearsTo rfl rfl (Nat.le_of_ble_eq_true rfl) (Nat.le_of_ble_eq_true rfl) (c_Sm_leapYearsTo 1599 μ1) (fun x4 μ3 => ?_)
  refine J_isub (pc := 61) hX (by decide +kernel) ?_
  exact J_iret (pc := 62) hX (by decide +kernel) rfl trivial
set_option maxRecDepth 100000 in
set_option maxHeartbeats 4000000 in
theorem jSm_dayNumber_7b {X : Cx} {l : Launch} {G : Gx} {y : Ly}   (hX : Ok X l G prog_8_method_4_code 5 (some .int) "SaltFigures$Sums") (v0 : Int32) (v1 : Int32)  {kb7 : Int32 → Int32 → Mu → Option (Int32 × Mu)}  (hk7 : ∀ (v3 : Int32) (v4 : Int32) (μ : Mu), J X G 5 2 y (emy y) rvI tpT 7 [(0, .int v0), (1, .int v1), (3, .int v3), (4, .int v4)] [] (μ, y) (kb7 v3 v4 μ)) (v3 : Int32) (v4 : Int32)  (μ : Mu) : J X G 5 2 y (emy y) rvI tpT 7 [(0, .int v0), (1, .int v1), (3, .int v3), (4, .int v4)] [] (μ, y) (Sm_dayNumber_7b   kb7 v0 v1 v3 v4  μ) := by
  unfold Sm_dayNumber_7b
  refine J_iload (pc := 7) 3 hX (by decide +kernel) rfl ?_
  refine J_iload_n (k0 := 1) (pc := 9) 1 hX (by decide +kernel) rfl rfl ?_
  refine J_icmp_ge (pc := 10) (off := 27) (tgt := 37) hX (by decide +kernel) (by decide +kernel) (fun _ => ?_) (fun _ => ?_)
  · exact J_sub [0, 2] _ rfl (jSm_dayNumber_37 hX v0 v3 μ)
  · refine J_iload (pc := 13) 3 hX (by decide +kernel) rfl ?_
    refine J_getsN (pc := 15) (v := .ref (G.2.2.2.2.2 4)) (idx := 15) (host := "SaltFigures") hX (by decide +kernel) (mq mt_4 155 (by decide +kernel)) (fun _ h => h.2.2.2.2.2.2.1) ?_
    refine J_moL (pc := 18) hX (by decide +kernel) ?_
    refine J_icmp_gt (pc := 19) (off := 18) (tgt := 37) hX (by decide +kernel) (by decide +kernel) (fun _ => ?_) (fun _ => ?_)
    · exact J_sub [0, 2] _ rfl (jSm_dayNumber_37 hX v0 v3 μ)
    · refine J_iload_n (k0 := 3) (pc := 22) 2 hX (by decide +kernel) rfl rfl ?_
      refine J_iload_n (k0 := 0) (pc := 23) 0 hX (by decide +kernel) rfl rfl ?_
      refine J_iload (pc := 24) 3 hX (by decide +kernel) rfl ?_
      refine J_cSi (pc := 26) (idx := 11) [.int v0, .int v4] hX (by decide +kernel) (mq mt_4 152 (by decide +kernel)) mv_Sm_monthLength rfl rfl (Nat.le_of_ble_eq_true rfl) (Nat.le_of_ble_eq_true rfl) (c_Sm_monthLength v0 v4 μ) (fun x2 μ1 => ?_)
      refine J_iadd (pc := 29) hX (by decide +kernel) ?_
      refine J_istore_n (k0 := 3) (pc := 30) [(3, .int (v3 + x2)), (0, .int v0), (1, .int v1), (4, .int v4)] hX (by decide +kernel) rfl (by decide) rfl ?_
      refine J_iinc (pc := 31) (n := 1) 3 [(4, .int (v4 + 1)), (3, .int (v3 + x2)), (0, .int v0), (1, .int v1)] hX (by decide +kernel) rfl rfl (by decide) rfl ?_
      refine J_goto (pc := 34) (off := -27) (tgt := 7) hX (by decide +kernel) (by decide +kernel) ?_
      exact J_sub [2, 3, 1, 0] _ rfl (hk7 (v3 + x2) (v4 + 1) μ1)
set_option maxRecDepth 100000 in
set_option maxHeartbeats 4000000 in
theorem jSm_dayNumber_7 {X : Cx} {l : Launch} {G : Gx} {y : Ly}   (hX : Ok X l G prog_8_method_4_code 5 (some .int) "SaltFigures$Sums") (v0 : Int32) (v1 : Int32)   : ∀ (fu : Nat) (v3 : Int32) (v4 : Int32) (μ : Mu), J X G 5 2 y (emy y) rvI tpT 7 [(0, .int v0), (1, .int v1), (3, .int v3), (4, .int v4)] [] (μ, y) (Sm_dayNumber_7   v0 v1 fu v3 v4 μ) := by
  intro fu
  induction fu with
  | zero => intros; exact J_none
  | succ fu ih => intro v3 v4 μ; exact jSm_dayNumber_7b  hX v0 v1  ih v3 v4 μ
set_option maxRecDepth 100000 in
set_option maxHeartbeats 4000000 in
theorem jSm_dayNumber {X : Cx} {l : Launch} {G : Gx} {y : Ly}   (hX : Ok X l G prog_8_method_4_code 5 (some .int) "SaltFigures$Sums") (v0 : Int32) (v1 : Int32) (v2 : Int32) (μ : Mu) : J X G 5 2 y (emy y) rvI tpT 0 [(0, .int v0), (1, .int v1), (2, .int v2)] [] (μ, y) (Sm_dayNumber  v0 v1 v2 μ) := by
  unfold Sm_dayNumber
  refine J_iload_n (k0 := 2) (pc := 0) 2 hX (by decide +kernel) rfl rfl ?_
  refine J_iconst (pc := 1) (n := 1) (v := 1) hX (by decide +kernel) (by decide +kernel) ?_
  refine J_isub (pc := 2) hX (by decide +kernel) ?_
  refine J_istore_n (k0 := 3) (pc := 3) [(3, .int (v2 - 1)), (0, .int v0), (1, .int v1), (2, .int v2)] hX (by decide +kernel) rfl (by decide) rfl ?_
  refine J_iconst (pc := 4) (n := 1) (v := 1) hX (by decide +kernel) (by decide +kernel) ?_
  refine J_istore (pc := 5) [(4, .int 1), (3, .int (v2 - 1)), (0, .int v0), (1, .int v1), (2, .int v2)] hX (by decide +kernel) (by decide) rfl ?_
  exact J_sub [2, 3, 1, 0] _ rfl (jSm_dayNumber_7 hX v0 v1 FU (v2 - 1) 1 μ)
set_option maxRecDepth 100000 in
set_option maxHeartbeats 4000000 in
theorem c_Sm_dayNumber {l : Launch} {G : Gx} {y : Ly}   (v0 : Int32) (v1 : Int32) (v2 : Int32) (μ : Mu) : Cn l G ⟨"SaltFigures$Sums", "dayNumber", "(III)I"⟩ prog_8_method_4_code 5 (some .int) 2 [.int v0, .int v1, .int v2] (μ, y) (emy y) rvI tpT (Sm_dayNumber  v0 v1 v2 μ) := cn_of (by decide +kernel) (Nat.le_of_ble_eq_true rfl) (fun _ _ _ => ⟨List.prefix_refl _, trivial⟩) (fun X hX _ => jSm_dayNumber  hX v0 v1 v2 μ)

def Sf_date (a : Nat) (v1 : Int32) (v2 : Int32) (v3 : Int32) (μ : Mu) : Option (Int32 × Mu) := cl (Sm_isDate v1 v2 v3 μ) (fun x2 μ1 => (if x2 = 0 then some (0, μ1) else cl (Sm_dayNumber v1 v2 v3 μ1) (fun x4 μ3 => pF μ3 (a + 1 + 17) 0 x4 (fun μ5 => some (1, μ5)))))
set_option maxRecDepth 100000 in
set_option maxHeartbeats 4000000 in
theorem jSf_date {X : Cx} {l : Launch} {G : Gx} {y : Ly} {a : Nat} (hL : LySf y a ) (hX : Ok X l G prog_1_method_18_code 4 (some .boolean) "SaltFigures") (v1 : Int32) (v2 : Int32) (v3 : Int32) (μ : Mu) : J X G 4 3 y (emy y) rvI tpT 0 [(0, .ref (G.1 + a)), (1, .int v1), (2, .int v2), (3, .int v3)] [] (μ, y) (Sf_date a v1 v2 v3 μ) := by
  unfold Sf_date
  refine J_iload_n (k0 := 1) (pc := 0) 1 hX (by decide +kernel) rfl rfl ?_
  refine J_iload_n (k0 := 2) (pc := 1) 2 hX (by decide +kernel) rfl rfl ?_
  refine J_iload_n (k0 := 3) (pc := 2) 3 hX (by decide +kernel) rfl rfl ?_
  refine J_cSi (pc := 3) (idx := 214) [.int v1, .int v2, .int v3] hX (by decide +kernel) (mq mt_4 149 (by decide +kernel)) mv_Sm_isDate rfl rfl (Nat.le_of_ble_eq_true rfl) (Nat.le_of_ble_eq_true rfl) (c_Sm_isDate v1 v2 v3 μ) (fun x2 μ1 => ?_)
  refine J_if_ne (pc := 6) (off := 5) (tgt := 11) hX (by decide +kernel) (by decide +kernel) (fun _ => ?_) (fun _ => ?_)
  · refine J_aload_n (k0 := 0) (pc := 11) 0 hX (by decide +kernel) rfl rfl ?_
    refine J_gr (pc := 12) hX (by decide +kernel) fl_Sf_12 hL.1 rfl hL.2.1.1 ?_
    refine J_gr (pc := 15) hX (by decide +kernel) fl_Sf_36 hL.2.1.2.1 rfl hL.2.1.2.2.2.2.2.1.1 ?_
    refine J_iload_n (k0 := 1) (pc := 18) 1 hX (by decide +kernel) rfl rfl ?_
    refine J_iload_n (k0 := 2) (pc := 19) 2 hX (by decide +kernel) rfl rfl ?_
    refine J_iload_n (k0 := 3) (pc := 20) 3 hX (by decide +kernel) rfl rfl ?_
    refine J_cSi (pc := 21) (idx := 219) [.int v1, .int v2, .int v3] hX (by decide +kernel) (mq mt_4 157 (by decide +kernel)) mv_Sm_dayNumber rfl rfl (Nat.le_of_ble_eq_true rfl) (Nat.le_of_ble_eq_true rfl) (c_Sm_dayNumber v1 v2 v3 μ1) (fun x4 μ3 => ?_)
    refine J_pF (pc := 24) hX (by decide +kernel) fl_Sf_223 hL.2.1.2.2.2.2.2.1.2.1 rfl (fun μ5 => ?_)
    refine J_iconst (pc := 27) (n := 1) (v := 1) hX (by decide +kernel) (by decide +kernel) ?_
    exact J_zret (pc := 28) hX (by decide +kernel) rfl (by decide +kernel) trivial
  · refine J_iconst (pc := 9) (n := 0) (v := 0) hX (by decide +kernel) (by decide +kernel) ?_
    exact J_zret (pc := 10) hX (by decide +kernel) rfl (by decide +kernel) trivial
set_option maxRecDepth 100000 in
set_option maxHeartbeats 4000000 in
theorem c_Sf_date {l : Launch} {G : Gx} {y : Ly} {a : Nat} (hL : LySf y a ) (v1 : Int32) (v2 : Int32) (v3 : Int32) (μ : Mu) : Cn l G ⟨"SaltFigures", "date", "(III)Z"⟩ prog_1_method_18_code 4 (some .boolean) 3 [.ref (G.1 + a), .int v1, .int v2, .int v3] (μ, y) (emy y) rvI tpT (Sf_date a v1 v2 v3 μ) := cn_of (by decide +kernel) (Nat.le_of_ble_eq_true rfl) (fun _ _ _ => ⟨List.prefix_refl _, trivial⟩) (fun X hX _ => jSf_date hL hX v1 v2 v3 μ)

def Tx_linesOf (a : Nat) (v1 : Int32) (μ : Mu) : Option (Int32 × Mu) := (if v1 < 0 then some ((-1), μ) else (if 4 ≤ v1 then some ((-1), μ) else ldA μ (a + 11) 4 v1 (fun x1 => some (x1, μ))))
set_option maxRecDepth 100000 in
set_option maxHeartbeats 4000000 in
theorem jTx_linesOf {X : Cx} {l : Launch} {G : Gx} {y : Ly} {a : Nat} (hL : LyTx y a ) (hX : Ok X l G prog_9_method_6_code 2 (some .int) "SaltFigures$Texts") (v1 : Int32) (μ : Mu) : J X G 2 1 y (emy y) rvI tpT 0 [(0, .ref (G.1 + a)), (1, .int v1)] [] (μ, y) (Tx_linesOf a v1 μ) := by
  unfold Tx_linesOf
  refine J_iload_n (k0 := 1) (pc := 0) 1 hX (by decide +kernel) rfl rfl ?_
  refine J_if_lt (pc := 1) (off := 21) (tgt := 22) hX (by decide +kernel) (by decide +kernel) (fun _ => ?_) (fun _ => ?_)
  · refine J_iconst (pc := 22) (n := -1) (v := (-1)) hX (by decide +kernel) (by decide +kernel) ?_
    exact J_iret (pc := 23) hX (by decide +kernel) rfl trivial
  · refine J_iload_n (k0 := 1) (pc := 4) 1 hX (by decide +kernel) rfl rfl ?_
    refine J_aload_n (k0 := 0) (pc := 5) 0 hX (by decide +kernel) rfl rfl ?_
    refine J_gr (pc := 6) hX (by decide +kernel) fl_Tx_28 hL.1 rfl hL.2.2.2.2.2.1.1 ?_
    refine J_alen (pc := 9) hX (by decide +kernel) hL.2.2.2.2.2.1.2 (v := 4) (by decide +kernel) ?_
    refine J_icmp_ge (pc := 10) (off := 12) (tgt := 22) hX (by decide +kernel) (by decide +kernel) (fun _ => ?_) (fun _ => ?_)
    · refine J_iconst (pc := 22) (n := -1) (v := (-1)) hX (by decide +kernel) (by decide +kernel) ?_
      exact J_iret (pc := 23) hX (by decide +kernel) rfl trivial
    · refine J_aload_n (k0 := 0) (pc := 13) 0 hX (by decide +kernel) rfl rfl ?_
      refine J_gr (pc := 14) hX (by decide +kernel) fl_Tx_28 hL.1 rfl hL.2.2.2.2.2.1.1 ?_
      refine J_iload_n (k0 := 1) (pc := 17) 1 hX (by decide +kernel) rfl rfl ?_
      refine J_ldA (pc := 18) hX (by decide +kernel) hL.2.2.2.2.2.1.2 (fun x1 => ?_)
      refine J_goto (pc := 19) (off := 4) (tgt := 23) hX (by decide +kernel) (by decide +kernel) ?_
      exact J_iret (pc := 23) hX (by decide +kernel) rfl trivial
set_option maxRecDepth 100000 in
set_option maxHeartbeats 4000000 in
theorem c_Tx_linesOf {l : Launch} {G : Gx} {y : Ly} {a : Nat} (hL : LyTx y a ) (v1 : Int32) (μ : Mu) : Cn l G ⟨"SaltFigures$Texts", "linesOf", "(I)I"⟩ prog_9_method_6_code 2 (some .int) 1 [.ref (G.1 + a), .int v1] (μ, y) (emy y) rvI tpT (Tx_linesOf a v1 μ) := cn_of (by decide +kernel) (Nat.le_of_ble_eq_true rfl) (fun _ _ _ => ⟨List.prefix_refl _, trivial⟩) (fun X hX _ => jTx_linesOf hL hX v1 μ)

def Tx_weatherAt (a : Nat) (v1 : Int32) (v2 : Int32) (μ : Mu) : Option (Int32 × Mu) := (if ((v1 * 4) + v2) < 0 then some ((-1), μ) else (if 64 ≤ ((v1 * 4) + v2) then some ((-1), μ) else ldA μ (a + 8) 64 ((v1 * 4) + v2) (fun x1 => some (x1, μ))))
set_option maxRecDepth 100000 in
set_option maxHeartbeats 4000000 in
theorem jTx_weatherAt {X : Cx} {l : Launch} {G : Gx} {y : Ly} {a : Nat} (hL : LyTx y a ) (hX : Ok X l G prog_9_method_7_code 4 (some .int) "SaltFigures$Texts") (v1 : Int32) (v2 : Int32) (μ : Mu) : J X G 4 1 y (emy y) rvI tpT 0 [(0, .ref (G.1 + a)), (1, .int v1), (2, .int v2)] [] (μ, y) (Tx_weatherAt a v1 v2 μ) := by
  unfold Tx_weatherAt
  refine J_iload_n (k0 := 1) (pc := 0) 1 hX (by decide +kernel) rfl rfl ?_
  refine J_iconst (pc := 1) (n := 4) (v := 4) hX (by decide +kernel) (by decide +kernel) ?_
  refine J_imul (pc := 2) hX (by decide +kernel) ?_
  refine J_iload_n (k0 := 2) (pc := 3) 2 hX (by decide +kernel) rfl rfl ?_
  refine J_iadd (pc := 4) hX (by decide +kernel) ?_
  refine J_istore_n (k0 := 3) (pc := 5) [(3, .int ((v1 * 4) + v2)), (0, .ref (G.1 + a)), (1, .int v1), (2, .int v2)] hX (by decide +kernel) rfl (by decide) rfl ?_
  refine J_iload_n (k0 := 3) (pc := 6) 0 hX (by decide +kernel) rfl rfl ?_
  refine J_if_lt (pc := 7) (off := 21) (tgt := 28) hX (by decide +kernel) (by decide +kernel) (fun _ => ?_) (fun _ => ?_)
  · refine J_iconst (pc := 28) (n := -1) (v := (-1)) hX (by decide +kernel) (by decide +kernel) ?_
    exact J_iret (pc := 29) hX (by decide +kernel) rfl trivial
  · refine J_iload_n (k0 := 3) (pc := 10) 0 hX (by decide +kernel) rfl rfl ?_
    refine J_aload_n (k0 := 0) (pc := 11) 1 hX (by decide +kernel) rfl rfl ?_
    refine J_gr (pc := 12) hX (by decide +kernel) fl_Tx_18 hL.1 rfl hL.2.2.1.1 ?_
    refine J_alen (pc := 15) hX (by decide +kernel) hL.2.2.1.2 (v := 64) (by decide +kernel) ?_
    refine J_icmp_ge (pc := 16) (off := 12) (tgt := 28) hX (by decide +kernel) (by decide +kernel) (fun _ => ?_) (fun _ => ?_)
    · refine J_iconst (pc := 28) (n := -1) (v := (-1)) hX (by decide +kernel) (by decide +kernel) ?_
      exact J_iret (pc := 29) hX (by decide +kernel) rfl trivial
    · refine J_aload_n (k0 := 0) (pc := 19) 1 hX (by decide +kernel) rfl rfl ?_
      refine J_gr (pc := 20) hX (by decide +kernel) fl_Tx_18 hL.1 rfl hL.2.2.1.1 ?_
      refine J_iload_n (k0 := 3) (pc := 23) 0 hX (by decide +kernel) rfl rfl ?_
      refine J_ldA (pc := 24) hX (by decide +kernel) hL.2.2.1.2 (fun x1 => ?_)
      refine J_goto (pc := 25) (off := 4) (tgt := 29) hX (by decide +kernel) (by decide +kernel) ?_
      exact J_iret (pc := 29) hX (by decide +kernel) rfl trivial
set_option maxRecDepth 100000 in
set_option maxHeartbeats 4000000 in
theorem c_Tx_weatherAt {l : Launch} {G : Gx} {y : Ly} {a : Nat} (hL : LyTx y a ) (v1 : Int32) (v2 : Int32) (μ : Mu) : Cn l G ⟨"SaltFigures$Texts", "weatherAt", "(II)I"⟩ prog_9_method_7_code 4 (some .int) 1 [.ref (G.1 + a), .int v1, .int v2] (μ, y) (emy y) rvI tpT (Tx_weatherAt a v1 v2 μ) := cn_of (by decide +kernel) (Nat.le_of_ble_eq_true rfl) (fun _ _ _ => ⟨List.prefix_refl _, trivial⟩) (fun X hX _ => jTx_weatherAt hL hX v1 v2 μ)

def Fg_tallest_33 (a : Nat) (kb6 : Int32 → Int32 → Int32 → Mu → Option (Int32 × Mu))  (v1 : Int32) (v2 : Int32) (v3 : Int32)  (μ : Mu) : Option (Int32 × Mu) := kb6 v1 v2 (v3 + 1) μ
def Fg_tallest_6b (a : Nat)  (kb6 : Int32 → Int32 → Int32 → Mu → Option (Int32 × Mu))  (v1 : Int32) (v2 : Int32) (v3 : Int32)  (μ : Mu) : Option (Int32 × Mu) := gF μ a 3 (fun x1 => (if x1 ≤ v3 then some (v1, μ) else cl (Fg_get a v3 1 μ) (fun x3 μ2 => (if x3 ≤ v2 then Fg_tallest_33 a kb6 v1 v2 v3 μ2 else cl (Fg_get a v3 1 μ2) (fun x5 μ4 => Fg_tallest_33 a kb6 v3 x5 v3 μ4)))))
def Fg_tallest_6 (a : Nat)   (fu : Nat) : Int32 → Int32 → Int32 → Mu → Option (Int32 × Mu) := lp (fun kb => Fg_tallest_6b a  kb ) (fun _ _ _ _ => none) fu
def Fg_tallest (a : Nat)  (μ : Mu) : Option (Int32 × Mu) := Fg_tallest_6 a FU ((-1)) 0 0 μ
set_option maxRecDepth 100000 in
set_option maxHeartbeats 4000000 in
theorem jFg_tallest_33 {X : Cx} {l : Launch} {G : Gx} {y : Ly} {a : Nat} (hL : LyFg y a ) (hX : Ok X l G prog_3_method_17_code 4 (some .int) "SaltFigures$Figures")  (v1 : Int32) (v2 : Int32) (v3 : Int32)  {kb6 : Int32 → Int32 → Int32 → Mu → Option (Int32 × Mu)} (hk6 : ∀ (v1 : Int32) (v2 : Int32) (v3 : Int32) (μ : Mu), J X G 4 2 y (emy y) rvI tpT 6 [(0, .ref (G.1 + a)), (1, .int v1), (2, .int v2), (3, .int v3)] [] (μ, y) (kb6 v1 v2 v3 μ)) (μ : Mu) : J X G 4 2 y (emy y) rvI tpT 33 [(0, .ref (G.1 + a)), (1, .int v1), (2, .int v2), (3, .int v3)] [] (μ, y) (Fg_tallest_33 a kb6  v1 v2 v3  μ) := by
  unfold Fg_tallest_33
  refine J_iinc (pc := 33) (n := 1) 3 [(3, .int (v3 + 1)), (0, .ref (G.1 + a)), (1, .int v1), (2, .int v2)] hX (by decide +kernel) rfl rfl (by decide) rfl ?_
  refine J_goto (pc := 36) (off := -30) (tgt := 6) hX (by decide +kernel) (by decide +kernel) ?_
  exact J_sub [1, 2, 3, 0] _ rfl (hk6 v1 v2 (v3 + 1) μ)
set_option maxRecDepth 100000 in
set_option maxHeartbeats 4000000 in
theorem jFg_tallest_6b {X : Cx} {l : Launch} {G : Gx} {y : Ly} {a : Nat} (hL : LyFg y a ) (hX : Ok X l G prog_3_method_17_code 4 (some .int) "SaltFigures$Figures")   {kb6 : Int32 → Int32 → Int32 → Mu → Option (Int32 × Mu)}  (hk6 : ∀ (v1 : Int32) (v2 : Int32) (v3 : Int32) (μ : Mu), J X G 4 2 y (emy y) rvI tpT 6 [(0, .ref (G.1 + a)), (1, .int v1), (2, .int v2), (3, .int v3)] [] (μ, y) (kb6 v1 v2 v3 μ)) (v1 : Int32) (v2 : Int32) (v3 : Int32)  (μ : Mu) : J X G 4 2 y (emy y) rvI tpT 6 [(0, .ref (G.1 + a)), (1, .int v1), (2, .int v2), (3, .int v3)] [] (μ, y) (Fg_tallest_6b a  kb6  v1 v2 v3  μ) := by
  unfold Fg_tallest_6b
  refine J_iload_n (k0 := 3) (pc := 6) 3 hX (by decide +kernel) rfl rfl ?_
  refine J_aload_n (k0 := 0) (pc := 7) 0 hX (by decide +kernel) rfl rfl ?_
  refine J_gF (pc := 8) hX (by decide +kernel) fl_Fg_34 hL.1 rfl (fun x1 => ?_)
  refine J_icmp_ge (pc := 11) (off := 28) (tgt := 39) hX (by decide +kernel) (by decide +kernel) (fun _ => ?_) (fun _ => ?_)
  · refine J_iload_n (k0 := 1) (pc := 39) 1 hX (by decide +kernel) rfl rfl ?_
    exact J_iret (pc := 40) hX (by decide +kernel) rfl trivial
  · refine J_aload_n (k0 := 0) (pc := 14) 0 hX (by decide +kernel) rfl rfl ?_
    refine J_iload_n (k0 := 3) (pc := 15) 3 hX (by decide +kernel) rfl rfl ?_
    refine J_iconst (pc := 16) (n := 1) (v := 1) hX (by decide +kernel) (by decide +kernel) ?_
    refine J_cVi (pc := 17) (idx := 60) [.int v3, .int 1] hX (by decide +kernel) (mq mt_2 167 (by decide +kernel)) mv_Fg_get hL.1 rfl rfl (Nat.le_of_ble_eq_true rfl) (Nat.le_of_ble_eq_true rfl) (c_Fg_get hL v3 1 μ) (fun x3 μ2 => ?_)
    refine J_iload_n (k0 := 2) (pc := 20) 2 hX (by decide +kernel) rfl rfl ?_
    refine J_icmp_le (pc := 21) (off := 12) (tgt := 33) hX (by decide +kernel) (by decide +kernel) (fun _ => ?_) (fun _ => ?_)
    · exact J_sub [0, 1, 2, 3] _ rfl (jFg_tallest_33 hL hX v1 v2 v3 hk6 μ2)
    · refine J_iload_n (k0 := 3) (pc := 24) 3 hX (by decide +kernel) rfl rfl ?_
      refine J_istore_n (k0 := 1) (pc := 25) [(1, .int v3), (0, .ref (G.1 + a)), (2, .int v2), (3, .int v3)] hX (by decide +kernel) rfl (by decide) rfl ?_
      refine J_aload_n (k0 := 0) (pc := 26) 1 hX (by decide +kernel) rfl rfl ?_
      refine J_iload_n (k0 := 3) (pc := 27) 3 hX (by decide +kernel) rfl rfl ?_
      refine J_iconst (pc := 28) (n := 1) (v := 1) hX (by decide +kernel) (by decide +kernel) ?_
      refine J_cVi (pc := 29) (idx := 60) [.int v3, .int 1] hX (by decide +kernel) (mq mt_2 167 (by decide +kernel)) mv_Fg_get hL.1 rfl rfl (Nat.le_of_ble_eq_true rfl) (Nat.le_of_ble_eq_true rfl) (c_Fg_get hL v3 1 μ2) (fun x5 μ4 => ?_)
      refine J_istore_n (k0 := 2) (pc := 32) [(2, .int x5), (1, .int v3), (0, .ref (G.1 + a)), (3, .int v3)] hX (by decide +kernel) rfl (by decide) rfl ?_
      exact J_sub [2, 1, 0, 3] _ rfl (jFg_tallest_33 hL hX v3 x5 v3 hk6 μ4)
set_option maxRecDepth 100000 in
set_option maxHeartbeats 4000000 in
theorem jFg_tallest_6 {X : Cx} {l : Launch} {G : Gx} {y : Ly} {a : Nat} (hL : LyFg y a ) (hX : Ok X l G prog_3_method_17_code 4 (some .int) "SaltFigures$Figures")    : ∀ (fu : Nat) (v1 : Int32) (v2 : Int32) (v3 : Int32) (μ : Mu), J X G 4 2 y (emy y) rvI tpT 6 [(0, .ref (G.1 + a)), (1, .int v1), (2, .int v2), (3, .int v3)] [] (μ, y) (Fg_tallest_6 a   fu v1 v2 v3 μ) := by
  intro fu
  induction fu with
  | zero => intros; exact J_none
  | succ fu ih => intro v1 v2 v3 μ; exact jFg_tallest_6b hL hX   ih v1 v2 v3 μ
set_option maxRecDepth 100000 in
set_option maxHeartbeats 4000000 in
theorem jFg_tallest {X : Cx} {l : Launch} {G : Gx} {y : Ly} {a : Nat} (hL : LyFg y a ) (hX : Ok X l G prog_3_method_17_code 4 (some .int) "SaltFigures$Figures")  (μ : Mu) : J X G 4 2 y (emy y) rvI tpT 0 [(0, .ref (G.1 + a))] [] (μ, y) (Fg_tallest a  μ) := by
  unfold Fg_tallest
  refine J_iconst (pc := 0) (n := -1) (v := (-1)) hX (by decide +kernel) (by decide +kernel) ?_
  refine J_istore_n (k0 := 1) (pc := 1) [(1, .int ((-1))), (0, .ref (G.1 + a))] hX (by decide +kernel) rfl (by decide) rfl ?_
  refine J_iconst (pc := 2) (n := 0) (v := 0) hX (by decide +kernel) (by decide +kernel) ?_
  refine J_istore_n (k0 := 2) (pc := 3) [(2, .int 0), (1, .int ((-1))), (0, .ref (G.1 + a))] hX (by decide +kernel) rfl (by decide) rfl ?_
  refine J_iconst (pc := 4) (n := 0) (v := 0) hX (by decide +kernel) (by decide +kernel) ?_
  refine J_istore_n (k0 := 3) (pc := 5) [(3, .int 0), (2, .int 0), (1, .int ((-1))), (0, .ref (G.1 + a))] hX (by decide +kernel) rfl (by decide) rfl ?_
  exact J_sub [3, 2, 1, 0] _ rfl (jFg_tallest_6 hL hX FU ((-1)) 0 0 μ)
set_option maxRecDepth 100000 in
set_option maxHeartbeats 4000000 in
theorem c_Fg_tallest {l : Launch} {G : Gx} {y : Ly} {a : Nat} (hL : LyFg y a )  (μ : Mu) : Cn l G ⟨"SaltFigures$Figures", "tallest", "()I"⟩ prog_3_method_17_code 4 (some .int) 2 [.ref (G.1 + a)] (μ, y) (emy y) rvI tpT (Fg_tallest a  μ) := cn_of (by decide +kernel) (Nat.le_of_ble_eq_true rfl) (fun _ _ _ => ⟨List.prefix_refl _, trivial⟩) (fun X hX _ => jFg_tallest hL hX  μ)

def Fg_howMany_28 (a : Nat) (kb5 : Int32 → Int32 → Mu → Option (Int32 × Mu))  (v1 : Int32) (v2 : Int32) (v3 : Int32) (v4 : Int32)  (μ : Mu) : Option (Int32 × Mu) := kb5 v3 (v4 + 1) μ
def Fg_howMany_5b (a : Nat)  (kb5 : Int32 → Int32 → Mu → Option (Int32 × Mu)) (v1 : Int32) (v2 : Int32) (v3 : Int32) (v4 : Int32)  (μ : Mu) : Option (Int32 × Mu) := gF μ a 3 (fun x1 => (if x1 ≤ v4 then some (v3, μ) else cl (Fg_get a v4 v1 μ) (fun x3 μ2 => (if x3 = v2 then Fg_howMany_28 a kb5 v1 v2 (v3 + 1) v4 μ2 else Fg_howMany_28 a kb5 v1 v2 v3 v4 μ2))))
def Fg_howMany_5 (a : Nat)  (v1 : Int32) (v2 : Int32) (fu : Nat) : Int32 → Int32 → Mu → Option (Int32 × Mu) := lp (fun kb => Fg_howMany_5b a  kb v1 v2) (fun _ _ _ => none) fu
def Fg_howMany (a : Nat) (v1 : Int32) (v2 : Int32) (μ : Mu) : Option (Int32 × Mu) := Fg_howMany_5 a v1 v2 FU 0 0 μ
set_option maxRecDepth 100000 in
set_option maxHeartbeats 4000000 in
theorem jFg_howMany_28 {X : Cx} {l : Launch} {G : Gx} {y : Ly} {a : Nat} (hL : LyFg y a ) (hX : Ok X l G prog_3_method_19_code 5 (some .int) "SaltFigures$Figures")  (v1 : Int32) (v2 : Int32) (v3 : Int32) (v4 : Int32)  {kb5 : Int32 → Int32 → Mu → Option (Int32 × Mu)} (hk5 : ∀ (v3 : Int32) (v4 : Int32) (μ : Mu), J X G 5 2 y (emy y) rvI tpT 5 [(0, .ref (G.1 + a)), (1, .int v1), (2, .int v2), (3, .int v3), (4, .int v4)] [] (μ, y) (kb5 v3 v4 μ)) (μ : Mu) : J X G 5 2 y (emy y) rvI tpT 28 [(0, .ref (G.1 + a)), (1, .int v1), (2, .int v2), (3, .int v3), (4, .int v4)] [] (μ, y) (Fg_howMany_28 a kb5  v1 v2 v3 v4  μ) := by
  unfold Fg_howMany_28
  refine J_iinc (pc := 28) (n := 1) 4 [(4, .int (v4 + 1)), (0, .ref (G.1 + a)), (1, .int v1), (2, .int v2), (3, .int v3)] hX (by decide +kernel) rfl rfl (by decide) rfl ?_
  refine J_goto (pc := 31) (off := -26) (tgt := 5) hX (by decide +kernel) (by decide +kernel) ?_
  exact J_sub [1, 2, 3, 4, 0] _ rfl (hk5 v3 (v4 + 1) μ)
set_option maxRecDepth 100000 in
set_option maxHeartbeats 4000000 in
theorem jFg_howMany_5b {X : Cx} {l : Launch} {G : Gx} {y : Ly} {a : Nat} (hL : LyFg y a ) (hX : Ok X l G prog_3_method_19_code 5 (some .int) "SaltFigures$Figures") (v1 : Int32) (v2 : Int32)  {kb5 : Int32 → Int32 → Mu → Option (Int32 × Mu)}  (hk5 : ∀ (v3 : Int32) (v4 : Int32) (μ : Mu), J X G 5 2 y (emy y) rvI tpT 5 [(0, .ref (G.1 + a)), (1, .int v1), (2, .int v2), (3, .int v3), (4, .int v4)] [] (μ, y) (kb5 v3 v4 μ)) (v3 : Int32) (v4 : Int32)  (μ : Mu) : J X G 5 2 y (emy y) rvI tpT 5 [(0, .ref (G.1 + a)), (1, .int v1), (2, .int v2), (3, .int v3), (4, .int v4)] [] (μ, y) (Fg_howMany_5b a  kb5 v1 v2 v3 v4  μ) := by
  unfold Fg_howMany_5b
  refine J_iload (pc := 5) 4 hX (by decide +kernel) rfl ?_
  refine J_aload_n (k0 := 0) (pc := 7) 0 hX (by decide +kernel) rfl rfl ?_
  refine J_gF (pc := 8) hX (by decide +kernel) fl_Fg_34 hL.1 rfl (fun x1 => ?_)
  refine J_icmp_ge (pc := 11) (off := 23) (tgt := 34) hX (by decide +kernel) (by decide +kernel) (fun _ => ?_) (fun _ => ?_)
  · refine J_iload_n (k0 := 3) (pc := 34) 3 hX (by decide +kernel) rfl rfl ?_
    exact J_iret (pc := 35) hX (by decide +kernel) rfl trivial
  · refine J_aload_n (k0 := 0) (pc := 14) 0 hX (by decide +kernel) rfl rfl ?_
    refine J_iload (pc := 15) 4 hX (by decide +kernel) rfl ?_
    refine J_iload_n (k0 := 1) (pc := 17) 1 hX (by decide +kernel) rfl rfl ?_
    refine J_cVi (pc := 18) (idx := 60) [.int v4, .int v1] hX (by decide +kernel) (mq mt_2 167 (by decide +kernel)) mv_Fg_get hL.1 rfl rfl (Nat.le_of_ble_eq_true rfl) (Nat.le_of_ble_eq_true rfl) (c_Fg_get hL v4 v1 μ) (fun x3 μ2 => ?_)
    refine J_iload_n (k0 := 2) (pc := 21) 2 hX (by decide +kernel) rfl rfl ?_
    refine J_icmp_ne (pc := 22) (off := 6) (tgt := 28) hX (by decide +kernel) (by decide +kernel) (fun _ => ?_) (fun _ => ?_)
    · exact J_sub [0, 1, 2, 3, 4] _ rfl (jFg_howMany_28 hL hX v1 v2 v3 v4 hk5 μ2)
    · refine J_iinc (pc := 25) (n := 1) 3 [(3, .int (v3 + 1)), (0, .ref (G.1 + a)), (1, .int v1), (2, .int v2), (4, .int v4)] hX (by decide +kernel) rfl rfl (by decide) rfl ?_
      exact J_sub [1, 2, 3, 0, 4] _ rfl (jFg_howMany_28 hL hX v1 v2 (v3 + 1) v4 hk5 μ2)
set_option maxRecDepth 100000 in
set_option maxHeartbeats 4000000 in
theorem jFg_howMany_5 {X : Cx} {l : Launch} {G : Gx} {y : Ly} {a : Nat} (hL : LyFg y a ) (hX : Ok X l G prog_3_method_19_code 5 (some .int) "SaltFigures$Figures") (v1 : Int32) (v2 : Int32)   : ∀ (fu : Nat) (v3 : Int32) (v4 : Int32) (μ : Mu), J X G 5 2 y (emy y) rvI tpT 5 [(0, .ref (G.1 + a)), (1, .int v1), (2, .int v2), (3, .int v3), (4, .int v4)] [] (μ, y) (Fg_howMany_5 a  v1 v2 fu v3 v4 μ) := by
  intro fu
  induction fu with
  | zero => intros; exact J_none
  | succ fu ih => intro v3 v4 μ; exact jFg_howMany_5b hL hX v1 v2  ih v3 v4 μ
set_option maxRecDepth 100000 in
set_option maxHeartbeats 4000000 in
theorem jFg_howMany {X : Cx} {l : Launch} {G : Gx} {y : Ly} {a : Nat} (hL : LyFg y a ) (hX : Ok X l G prog_3_method_19_code 5 (some .int) "SaltFigures$Figures") (v1 : Int32) (v2 : Int32) (μ : Mu) : J X G 5 2 y (emy y) rvI tpT 0 [(0, .ref (G.1 + a)), (1, .int v1), (2, .int v2)] [] (μ, y) (Fg_howMany a v1 v2 μ) := by
  unfold Fg_howMany
  refine J_iconst (pc := 0) (n := 0) (v := 0) hX (by decide +kernel) (by decide +kernel) ?_
  refine J_istore_n (k0 := 3) (pc := 1) [(3, .int 0), (0, .ref (G.1 + a)), (1, .int v1), (2, .int v2)] hX (by decide +kernel) rfl (by decide) rfl ?_
  refine J_iconst (pc := 2) (n := 0) (v := 0) hX (by decide +kernel) (by decide +kernel) ?_
  refine J_istore (pc := 3) [(4, .int 0), (3, .int 0), (0, .ref (G.1 + a)), (1, .int v1), (2, .int v2)] hX (by decide +kernel) (by decide) rfl ?_
  exact J_sub [2, 3, 4, 1, 0] _ rfl (jFg_howMany_5 hL hX v1 v2 FU 0 0 μ)
set_option maxRecDepth 100000 in
set_option maxHeartbeats 4000000 in
theorem c_Fg_howMany {l : Launch} {G : Gx} {y : Ly} {a : Nat} (hL : LyFg y a ) (v1 : Int32) (v2 : Int32) (μ : Mu) : Cn l G ⟨"SaltFigures$Figures", "howMany", "(II)I"⟩ prog_3_method_19_code 5 (some .int) 2 [.ref (G.1 + a), .int v1, .int v2] (μ, y) (emy y) rvI tpT (Fg_howMany a v1 v2 μ) := cn_of (by decide +kernel) (Nat.le_of_ble_eq_true rfl) (fun _ _ _ => ⟨List.prefix_refl _, trivial⟩) (fun X hX _ => jFg_howMany hL hX v1 v2 μ)

def Fg_mostBelow_35 (a : Nat) (kb4 : Int32 → Int32 → Mu → Option (Int32 × Mu))  (v1 : Int32) (v2 : Int32) (v3 : Int32)  (μ : Mu) : Option (Int32 × Mu) := kb4 v2 (v3 + 1) μ
def Fg_mostBelow_4b (a : Nat)  (kb4 : Int32 → Int32 → Mu → Option (Int32 × Mu)) (v1 : Int32) (v2 : Int32) (v3 : Int32)  (μ : Mu) : Option (Int32 × Mu) := gF μ a 3 (fun x1 => (if x1 ≤ v3 then some (v2, μ) else cl (Fg_get a v3 1 μ) (fun x3 μ2 => (if v1 ≤ x3 then Fg_mostBelow_35 a kb4 v1 v2 v3 μ2 else (if x3 ≤ v2 then Fg_mostBelow_35 a kb4 v1 v2 v3 μ2 else Fg_mostBelow_35 a kb4 v1 x3 v3 μ2)))))
def Fg_mostBelow_4 (a : Nat)  (v1 : Int32) (fu : Nat) : Int32 → Int32 → Mu → Option (Int32 × Mu) := lp (fun kb => Fg_mostBelow_4b a  kb v1) (fun _ _ _ => none) fu
def Fg_mostBelow (a : Nat) (v1 : Int32) (μ : Mu) : Option (Int32 × Mu) := Fg_mostBelow_4 a v1 FU 0 0 μ
set_option maxRecDepth 100000 in
set_option maxHeartbeats 4000000 in
theorem jFg_mostBelow_35 {X : Cx} {l : Launch} {G : Gx} {y : Ly} {a : Nat} (hL : LyFg y a ) (hX : Ok X l G prog_3_method_18_code 5 (some .int) "SaltFigures$Figures")  (v1 : Int32) (v2 : Int32) (v3 : Int32)  {kb4 : Int32 → Int32 → Mu → Option (Int32 × Mu)} (hk4 : ∀ (v2 : Int32) (v3 : Int32) (μ : Mu), J X G 5 2 y (emy y) rvI tpT 4 [(0, .ref (G.1 + a)), (1, .int v1), (2, .int v2), (3, .int v3)] [] (μ, y) (kb4 v2 v3 μ)) (μ : Mu) : J X G 5 2 y (emy y) rvI tpT 35 [(0, .ref (G.1 + a)), (1, .int v1), (2, .int v2), (3, .int v3)] [] (μ, y) (Fg_mostBelow_35 a kb4  v1 v2 v3  μ) := by
  unfold Fg_mostBelow_35
  refine J_iinc (pc := 35) (n := 1) 3 [(3, .int (v3 + 1)), (0, .ref (G.1 + a)), (1, .int v1), (2, .int v2)] hX (by decide +kernel) rfl rfl (by decide) rfl ?_
  refine J_goto (pc := 38) (off := -34) (tgt := 4) hX (by decide +kernel) (by decide +kernel) ?_
  exact J_sub [1, 2, 3, 0] _ rfl (hk4 v2 (v3 + 1) μ)
set_option maxRecDepth 100000 in
set_option maxHeartbeats 4000000 in
theorem jFg_mostBelow_4b {X : Cx} {l : Launch} {G : Gx} {y : Ly} {a : Nat} (hL : LyFg y a ) (hX : Ok X l G prog_3_method_18_code 5 (some .int) "SaltFigures$Figures") (v1 : Int32)  {kb4 : Int32 → Int32 → Mu → Option (Int32 × Mu)}  (hk4 : ∀ (v2 : Int32) (v3 : Int32) (μ : Mu), J X G 5 2 y (emy y) rvI tpT 4 [(0, .ref (G.1 + a)), (1, .int v1), (2, .int v2), (3, .int v3)] [] (μ, y) (kb4 v2 v3 μ)) (v2 : Int32) (v3 : Int32)  (μ : Mu) : J X G 5 2 y (emy y) rvI tpT 4 [(0, .ref (G.1 + a)), (1, .int v1), (2, .int v2), (3, .int v3)] [] (μ, y) (Fg_mostBelow_4b a  kb4 v1 v2 v3  μ) := by
  unfold Fg_mostBelow_4b
  refine J_iload_n (k0 := 3) (pc := 4) 3 hX (by decide +kernel) rfl rfl ?_
  refine J_aload_n (k0 := 0) (pc := 5) 0 hX (by decide +kernel) rfl rfl ?_
  refine J_gF (pc := 6) hX (by decide +kernel) fl_Fg_34 hL.1 rfl (fun x1 => ?_)
  refine J_icmp_ge (pc := 9) (off := 32) (tgt := 41) hX (by decide +kernel) (by decide +kernel) (fun _ => ?_) (fun _ => ?_)
  · refine J_iload_n (k0 := 2) (pc := 41) 2 hX (by decide +kernel) rfl rfl ?_
    exact J_iret (pc := 42) hX (by decide +kernel) rfl trivial
  · refine J_aload_n (k0 := 0) (pc := 12) 0 hX (by decide +kernel) rfl rfl ?_
    refine J_iload_n (k0 := 3) (pc := 13) 3 hX (by decide +kernel) rfl rfl ?_
    refine J_iconst (pc := 14) (n := 1) (v := 1) hX (by decide +kernel) (by decide +kernel) ?_
    refine J_cVi (pc := 15) (idx := 60) [.int v3, .int 1] hX (by decide +kernel) (mq mt_2 167 (by decide +kernel)) mv_Fg_get hL.1 rfl rfl (Nat.le_of_ble_eq_true rfl) (Nat.le_of_ble_eq_true rfl) (c_Fg_get hL v3 1 μ) (fun x3 μ2 => ?_)
    refine J_istore (pc := 18) [(4, .int x3), (0, .ref (G.1 + a)), (1, .int v1), (2, .int v2), (3, .int v3)] hX (by decide +kernel) (by decide) rfl ?_
    refine J_iload (pc := 20) 0 hX (by decide +kernel) rfl ?_
    refine J_iload_n (k0 := 1) (pc := 22) 2 hX (by decide +kernel) rfl rfl ?_
    refine J_icmp_ge (pc := 23) (off := 12) (tgt := 35) hX (by decide +kernel) (by decide +kernel) (fun _ => ?_) (fun _ => ?_)
    · exact J_sub [1, 2, 3, 4] _ rfl (jFg_mostBelow_35 hL hX v1 v2 v3 hk4 μ2)
    · refine J_iload (pc := 26) 0 hX (by decide +kernel) rfl ?_
      refine J_iload_n (k0 := 2) (pc := 28) 3 hX (by decide +kernel) rfl rfl ?_
      refine J_icmp_le (pc := 29) (off := 6) (tgt := 35) hX (by decide +kernel) (by decide +kernel) (fun _ => ?_) (fun _ => ?_)
      · exact J_sub [1, 2, 3, 4] _ rfl (jFg_mostBelow_35 hL hX v1 v2 v3 hk4 μ2)
      · refine J_iload (pc := 32) 0 hX (by decide +kernel) rfl ?_
        refine J_istore_n (k0 := 2) (pc := 34) [(2, .int x3), (4, .int x3), (0, .ref (G.1 + a)), (1, .int v1), (3, .int v3)] hX (by decide +kernel) rfl (by decide) rfl ?_
        exact J_sub [2, 3, 0, 4] _ rfl (jFg_mostBelow_35 hL hX v1 x3 v3 hk4 μ2)
set_option maxRecDepth 100000 in
set_option maxHeartbeats 4000000 in
theorem jFg_mostBelow_4 {X : Cx} {l : Launch} {G : Gx} {y : Ly} {a : Nat} (hL : LyFg y a ) (hX : Ok X l G prog_3_method_18_code 5 (some .int) "SaltFigures$Figures") (v1 : Int32)   : ∀ (fu : Nat) (v2 : Int32) (v3 : Int32) (μ : Mu), J X G 5 2 y (emy y) rvI tpT 4 [(0, .ref (G.1 + a)), (1, .int v1), (2, .int v2), (3, .int v3)] [] (μ, y) (Fg_mostBelow_4 a  v1 fu v2 v3 μ) := by
  intro fu
  induction fu with
  | zero => intros; exact J_none
  | succ fu ih => intro v2 v3 μ; exact jFg_mostBelow_4b hL hX v1  ih v2 v3 μ
set_option maxRecDepth 100000 in
set_option maxHeartbeats 4000000 in
theorem jFg_mostBelow {X : Cx} {l : Launch} {G : Gx} {y : Ly} {a : Nat} (hL : LyFg y a ) (hX : Ok X l G prog_3_method_18_code 5 (some .int) "SaltFigures$Figures") (v1 : Int32) (μ : Mu) : J X G 5 2 y (emy y) rvI tpT 0 [(0, .ref (G.1 + a)), (1, .int v1)] [] (μ, y) (Fg_mostBelow a v1 μ) := by
  unfold Fg_mostBelow
  refine J_iconst (pc := 0) (n := 0) (v := 0) hX (by decide +kernel) (by decide +kernel) ?_
  refine J_istore_n (k0 := 2) (pc := 1) [(2, .int 0), (0, .ref (G.1 + a)), (1, .int v1)] hX (by decide +kernel) rfl (by decide) rfl ?_
  refine J_iconst (pc := 2) (n := 0) (v := 0) hX (by decide +kernel) (by decide +kernel) ?_
  refine J_istore_n (k0 := 3) (pc := 3) [(3, .int 0), (2, .int 0), (0, .ref (G.1 + a)), (1, .int v1)] hX (by decide +kernel) rfl (by decide) rfl ?_
  exact J_sub [2, 3, 1, 0] _ rfl (jFg_mostBelow_4 hL hX v1 FU 0 0 μ)
set_option maxRecDepth 100000 in
set_option maxHeartbeats 4000000 in
theorem c_Fg_mostBelow {l : Launch} {G : Gx} {y : Ly} {a : Nat} (hL : LyFg y a ) (v1 : Int32) (μ : Mu) : Cn l G ⟨"SaltFigures$Figures", "mostBelow", "(I)I"⟩ prog_3_method_18_code 5 (some .int) 2 [.ref (G.1 + a), .int v1] (μ, y) (emy y) rvI tpT (Fg_mostBelow a v1 μ) := cn_of (by decide +kernel) (Nat.le_of_ble_eq_true rfl) (fun _ _ _ => ⟨List.prefix_refl _, trivial⟩) (fun X hX _ => jFg_mostBelow hL hX v1 μ)

def Dy_lick_103 (f0 : Nat) (kb57 : Int32 → Int32 → Mu → Option (Int32 × Mu))  (v2 : Int32) (v4 : Int32) (v5 : Int32) (v6 : Int32) (v7 : Int32)  (μ : Mu) : Option (Int32 × Mu) := kb57 v6 (v7 + 1) μ
def Dy_lick_97 (f0 : Nat) (kb57 : Int32 → Int32 → Mu → Option (Int32 × Mu))  (v2 : Int32) (v4 : Int32) (v5 : Int32) (v6 : Int32) (v7 : Int32) (s0 : Int32) (s1 : Int32) (s2 : Int32) (μ : Mu) : Option (Int32 × Mu) := cl (Fg_add f0 s2 s1 s0 μ) (fun _ μ1 => Dy_lick_103 f0 kb57 v2 v4 v5 (v6 + (-1)) v7 μ1)
def Dy_lick_57b (f0 : Nat)  (kb57 : Int32 → Int32 → Mu → Option (Int32 × Mu)) (v2 : Int32) (v4 : Int32) (v5 : Int32) (v6 : Int32) (v7 : Int32)  (μ : Mu) : Option (Int32 × Mu) := gF μ f0 3 (fun x1 => (if x1 ≤ v7 then some (v4, μ) else cl (Fg_get f0 v7 1 μ) (fun x3 μ2 => (if x3 = v2 then (if v6 ≤ 0 then Dy_lick_97 f0 kb57 v2 v4 v5 v6 v7 (-v5) 1 v7 μ2 else Dy_lick_97 f0 kb57 v2 v4 v5 v6 v7 ((-v5) - 1) 1 v7 μ2) else Dy_lick_103 f0 kb57 v2 v4 v5 v6 v7 μ2))))
def Dy_lick_57 (f0 : Nat)  (v2 : Int32) (v4 : Int32) (v5 : Int32) (fu : Nat) : Int32 → Int32 → Mu → Option (Int32 × Mu) := lp (fun kb => Dy_lick_57b f0  kb v2 v4 v5) (fun _ _ _ => none) fu
def Dy_lick (f0 : Nat) (v1 : Int32) (μ : Mu) : Option (Int32 × Mu) := cl (Fg_tallest f0 μ) (fun x2 μ1 => cl (Fg_get f0 x2 1 μ1) (fun x4 μ3 => cl (Fg_howMany f0 1 x4 μ3) (fun x6 μ5 => (if x4 ≤ 0 then some (v1, μ5) else (if 0 < x6 then cl (Fg_mostBelow f0 x4 μ5) (fun x8 μ7 => nz x6 (nz x6 (Dy_lick_57 f0 x4 (jmin v1 (x6 * (x4 - x8))) ((jmin v1 (x6 * (x4 - x8))) / x6) FU (jrem (jmin v1 (x6 * (x4 - x8))) x6) 0 μ7))) else some (v1, μ5))))))
set_option maxRecDepth 100000 in
set_option maxHeartbeats 4000000 in
theorem jDy_lick_103 {X : Cx} {l : Launch} {G : Gx} {y : Ly} {f0 : Nat} (hf0 : LyFg y f0 ) (hX : Ok X l G prog_2_method_9_code 8 (some .int) "SaltFigures$Days")  (v2 : Int32) (v4 : Int32) (v5 : Int32) (v6 : Int32) (v7 : Int32)  {kb57 : Int32 → Int32 → Mu → Option (Int32 × Mu)} (hk57 : ∀ (v6 : Int32) (v7 : Int32) (μ : Mu), J X G 8 3 y (emy y) rvI tpT 57 [(0, .ref (G.1 + f0)), (2, .int v2), (4, .int v4), (5, .int v5), (6, .int v6), (7, .int v7)] [] (μ, y) (kb57 v6 v7 μ)) (μ : Mu) : J X G 8 3 y (emy y) rvI tpT 103 [(0, .ref (G.1 + f0)), (2, .int v2), (4, .int v4), (5, .int v5), (6, .int v6), (7, .int v7)] [] (μ, y) (Dy_lick_103 f0 kb57  v2 v4 v5 v6 v7  μ) := by
  unfold Dy_lick_103
  refine J_iinc (pc := 103) (n := 1) 5 [(7, .int (v7 + 1)), (0, .ref (G.1 + f0)), (2, .int v2), (4, .int v4), (5, .int v5), (6, .int v6)] hX (by decide +kernel) rfl rfl (by decide) rfl ?_
  refine J_goto (pc := 106) (off := -49) (tgt := 57) hX (by decide +kernel) (by decide +kernel) ?_
  exact J_sub [1, 2, 3, 4, 5, 0] _ rfl (hk57 v6 (v7 + 1) μ)
set_option maxRecDepth 100000 in
set_option maxHeartbeats 4000000 in
theorem jDy_lick_97 {X : Cx} {l : Launch} {G : Gx} {y : Ly} {f0 : Nat} (hf0 : LyFg y f0 ) (hX : Ok X l G prog_2_method_9_code 8 (some .int) "SaltFigures$Days")  (v2 : Int32) (v4 : Int32) (v5 : Int32) (v6 : Int32) (v7 : Int32) (s0 : Int32) (s1 : Int32) (s2 : Int32) {kb57 : Int32 → Int32 → Mu → Option (Int32 × Mu)} (hk57 : ∀ (v6 : Int32) (v7 : Int32) (μ : Mu), J X G 8 3 y (emy y) rvI tpT 57 [(0, .ref (G.1 + f0)), (2, .int v2), (4, .int v4), (5, .int v5), (6, .int v6), (7, .int v7)] [] (μ, y) (kb57 v6 v7 μ)) (μ : Mu) : J X G 8 3 y (emy y) rvI tpT 97 [(0, .ref (G.1 + f0)), (2, .int v2), (4, .int v4), (5, .int v5), (6, .int v6), (7, .int v7)] [.int s0, .int s1, .int s2, .ref (G.1 + f0)] (μ, y) (Dy_lick_97 f0 kb57  v2 v4 v5 v6 v7 s0 s1 s2 μ) := by
  unfold Dy_lick_97
  refine J_cVv (pc := 97) (idx := 94) [.int s2, .int s1, .int s0] hX (by decide +kernel) (mq mt_2 207 (by decide +kernel)) mv_Fg_add hf0.1 rfl rfl (Nat.le_of_ble_eq_true rfl) (Nat.le_of_ble_eq_true rfl) (c_Fg_add hf0 s2 s1 s0 μ) (fun μ1 => ?_)
  refine J_iinc (pc := 100) (n := -1) 4 [(6, .int (v6 + (-1))), (0, .ref (G.1 + f0)), (2, .int v2), (4, .int v4), (5, .int v5), (7, .int v7)] hX (by decide +kernel) rfl rfl (by decide) rfl ?_
  exact J_sub [1, 2, 3, 4, 0, 5] _ rfl (jDy_lick_103 hf0 hX v2 v4 v5 (v6 + (-1)) v7 hk57 μ1)
set_option maxRecDepth 100000 in
set_option maxHeartbeats 4000000 in
theorem jDy_lick_57b {X : Cx} {l : Launch} {G : Gx} {y : Ly} {f0 : Nat} (hf0 : LyFg y f0 ) (hX : Ok X l G prog_2_method_9_code 8 (some .int) "SaltFigures$Days") (v2 : Int32) (v4 : Int32) (v5 : Int32)  {kb57 : Int32 → Int32 → Mu → Option (Int32 × Mu)}  (hk57 : ∀ (v6 : Int32) (v7 : Int32) (μ : Mu), J X G 8 3 y (emy y) rvI tpT 57 [(0, .ref (G.1 + f0)), (2, .int v2), (4, .int v4), (5, .int v5), (6, .int v6), (7, .int v7)] [] (μ, y) (kb57 v6 v7 μ)) (v6 : Int32) (v7 : Int32)  (μ : Mu) : J X G 8 3 y (emy y) rvI tpT 57 [(0, .ref (G.1 + f0)), (2, .int v2), (4, .int v4), (5, .int v5), (6, .int v6), (7, .int v7)] [] (μ, y) (Dy_lick_57b f0  kb57 v2 v4 v5 v6 v7  μ) := by
  unfold Dy_lick_57b
  refine J_iload (pc := 57) 5 hX (by decide +kernel) rfl ?_
  refine J_aload_n (k0 := 0) (pc := 59) 0 hX (by decide +kernel) rfl rfl ?_
  refine J_gF (pc := 60) hX (by decide +kernel) fl_Dy_33 hf0.1 rfl (fun x1 => ?_)
  refine J_icmp_ge (pc := 63) (off := 46) (tgt := 109) hX (by decide +kernel) (by decide +kernel) (fun _ => ?_) (fun _ => ?_)
  · refine J_iload (pc := 109) 2 hX (by decide +kernel) rfl ?_
    exact J_iret (pc := 111) hX (by decide +kernel) rfl trivial
  · refine J_aload_n (k0 := 0) (pc := 66) 0 hX (by decide +kernel) rfl rfl ?_
    refine J_iload (pc := 67) 5 hX (by decide +kernel) rfl ?_
    refine J_iconst (pc := 69) (n := 1) (v := 1) hX (by decide +kernel) (by decide +kernel) ?_
    refine J_cVi (pc := 70) (idx := 84) [.int v7, .int 1] hX (by decide +kernel) (mq mt_2 219 (by decide +kernel)) mv_Fg_get hf0.1 rfl rfl (Nat.le_of_ble_eq_true rfl) (Nat.le_of_ble_eq_true rfl) (c_Fg_get hf0 v7 1 μ) (fun x3 μ2 => ?_)
    refine J_iload_n (k0 := 2) (pc := 73) 1 hX (by decide +kernel) rfl rfl ?_
    refine J_icmp_ne (pc := 74) (off := 29) (tgt := 103) hX (by decide +kernel) (by decide +kernel) (fun _ => ?_) (fun _ => ?_)
    · exact J_sub [0, 1, 2, 3, 4, 5] _ rfl (jDy_lick_103 hf0 hX v2 v4 v5 v6 v7 hk57 μ2)
    · refine J_aload_n (k0 := 0) (pc := 77) 0 hX (by decide +kernel) rfl rfl ?_
      refine J_iload (pc := 78) 5 hX (by decide +kernel) rfl ?_
      refine J_iconst (pc := 80) (n := 1) (v := 1) hX (by decide +kernel) (by decide +kernel) ?_
      refine J_iload (pc := 81) 4 hX (by decide +kernel) rfl ?_
      refine J_if_le (pc := 83) (off := 11) (tgt := 94) hX (by decide +kernel) (by decide +kernel) (fun _ => ?_) (fun _ => ?_)
      · refine J_iload (pc := 94) 3 hX (by decide +kernel) rfl ?_
        refine J_ineg (pc := 96) hX (by decide +kernel) ?_
        exact J_sub [0, 1, 2, 3, 4, 5] _ rfl (jDy_lick_97 hf0 hX v2 v4 v5 v6 v7 (-v5) 1 v7 hk57 μ2)
      · refine J_iload (pc := 86) 3 hX (by decide +kernel) rfl ?_
        refine J_ineg (pc := 88) hX (by decide +kernel) ?_
        refine J_iconst (pc := 89) (n := 1) (v := 1) hX (by decide +kernel) (by decide +kernel) ?_
        refine J_isub (pc := 90) hX (by decide +kernel) ?_
        refine J_goto (pc := 91) (off := 6) (tgt := 97) hX (by decide +kernel) (by decide +kernel) ?_
        exact J_sub [0, 1, 2, 3, 4, 5] _ rfl (jDy_lick_97 hf0 hX v2 v4 v5 v6 v7 ((-v5) - 1) 1 v7 hk57 μ2)
set_option maxRecDepth 100000 in
set_option maxHeartbeats 4000000 in
theorem jDy_lick_57 {X : Cx} {l : Launch} {G : Gx} {y : Ly} {f0 : Nat} (hf0 : LyFg y f0 ) (hX : Ok X l G prog_2_method_9_code 8 (some .int) "SaltFigures$Days") (v2 : Int32) (v4 : Int32) (v5 : Int32)   : ∀ (fu : Nat) (v6 : Int32) (v7 : Int32) (μ : Mu), J X G 8 3 y (emy y) rvI tpT 57 [(0, .ref (G.1 + f0)), (2, .int v2), (4, .int v4), (5, .int v5), (6, .int v6), (7, .int v7)] [] (μ, y) (Dy_lick_57 f0  v2 v4 v5 fu v6 v7 μ) := by
  intro fu
  induction fu with
  | zero => intros; exact J_none
  | succ fu ih => intro v6 v7 μ; exact jDy_lick_57b hf0 hX v2 v4 v5  ih v6 v7 μ
set_option maxRecDepth 100000 in
set_option maxHeartbeats 4000000 in
theorem jDy_lick {X : Cx} {l : Launch} {G : Gx} {y : Ly} {f0 : Nat} (hf0 : LyFg y f0 ) (hX : Ok X l G prog_2_method_9_code 8 (some .int) "SaltFigures$Days") (v1 : Int32) (μ : Mu) : J X G 8 3 y (emy y) rvI tpT 0 [(0, .ref (G.1 + f0)), (1, .int v1)] [] (μ, y) (Dy_lick f0 v1 μ) := by
  unfold Dy_lick
  refine J_aload_n (k0 := 0) (pc := 0) 0 hX (by decide +kernel) rfl rfl ?_
  refine J_aload_n (k0 := 0) (pc := 1) 0 hX (by decide +kernel) rfl rfl ?_
  refine J_cVi (pc := 2) (idx := 118) [] hX (by decide +kernel) (mq mt_3 62 (by decide +kernel)) mv_Fg_tallest hf0.1 rfl rfl (Nat.le_of_ble_eq_true rfl) (Nat.le_of_ble_eq_true rfl) (c_Fg_tallest hf0 μ) (fun x2 μ1 => ?_)
  refine J_iconst (pc := 5) (n := 1) (v := 1) hX (by decide +kernel) (by decide +kernel) ?_
  refine J_cVi (pc := 6) (idx := 84) [.int x2, .int 1] hX (by decide +kernel) (mq mt_2 219 (by decide +kernel)) mv_Fg_get hf0.1 rfl rfl (Nat.le_of_ble_eq_true rfl) (Nat.le_of_ble_eq_true rfl) (c_Fg_get hf0 x2 1 μ1) (fun x4 μ3 => ?_)
  refine J_istore_n (k0 := 2) (pc := 9) [(2, .int x4), (0, .ref (G.1 + f0)), (1, .int v1)] hX (by decide +kernel) rfl (by decide) rfl ?_
  refine J_aload_n (k0 := 0) (pc := 10) 1 hX (by decide +kernel) rfl rfl ?_
  refine J_iconst (pc := 11) (n := 1) (v := 1) hX (by decide +kernel) (by decide +kernel) ?_
  refine J_iload_n (k0 := 2) (pc := 12) 0 hX (by decide +kernel) rfl rfl ?_
  refine J_cVi (pc := 13) (idx := 122) [.int 1, .int x4] hX (by decide +kernel) (mq mt_3 66 (by decide +kernel)) mv_Fg_howMany hf0.1 rfl rfl (Nat.le_of_ble_eq_true rfl) (Nat.le_of_ble_eq_true rfl) (c_Fg_howMany hf0 1 x4 μ3) (fun x6 μ5 => ?_)
  refine J_istore_n (k0 := 3) (pc := 16) [(3, .int x6), (2, .int x4), (0, .ref (G.1 + f0)), (1, .int v1)] hX (by decide +kernel) rfl (by decide) rfl ?_
  refine J_iload_n (k0 := 2) (pc := 17) 1 hX (by decide +kernel) rfl rfl ?_
  refine J_if_le (pc := 18) (off := 7) (tgt := 25) hX (by decide +kernel) (by decide +kernel) (fun _ => ?_) (fun _ => ?_)
  · refine J_iload_n (k0 := 1) (pc := 25) 3 hX (by decide +kernel) rfl rfl ?_
    exact J_iret (pc := 26) hX (by decide +kernel) rfl trivial
  · refine J_iload_n (k0 := 3) (pc := 21) 0 hX (by decide +kernel) rfl rfl ?_
    refine J_if_gt (pc := 22) (off := 5) (tgt := 27) hX (by decide +kernel) (by decide +kernel) (fun _ => ?_) (fun _ => ?_)
    · refine J_iload_n (k0 := 1) (pc := 27) 3 hX (by decide +kernel) rfl rfl ?_
      refine J_iload_n (k0 := 3) (pc := 28) 0 hX (by decide +kernel) rfl rfl ?_
      refine J_iload_n (k0 := 2) (pc := 29) 1 hX (by decide +kernel) rfl rfl ?_
      refine J_aload_n (k0 := 0) (pc := 30) 2 hX (by decide +kernel) rfl rfl ?_
      refine J_iload_n (k0 := 2) (pc := 31) 1 hX (by decide +kernel) rfl rfl ?_
      refine J_cVi (pc := 32) (idx := 125) [.int x4] hX (by decide +kernel) (mq mt_3 70 (by decide +kernel)) mv_Fg_mostBelow hf0.1 rfl rfl (Nat.le_of_ble_eq_true rfl) (Nat.le_of_ble_eq_true rfl) (c_Fg_mostBelow hf0 x4 μ5) (fun x8 μ7 => ?_)
      refine J_isub (pc := 35) hX (by decide +kernel) ?_
      refine J_imul (pc := 36) hX (by decide +kernel) ?_
      refine J_mmin (pc := 37) (idx := 128) hX (by decide +kernel) (mq mt_3 0 (by decide +kernel)) (Nat.le_of_ble_eq_true rfl) (Nat.le_of_ble_eq_true rfl) ?_
      refine J_istore (pc := 40) [(4, .int (jmin v1 (x6 * (x4 - x8)))), (3, .int x6), (2, .int x4), (0, .ref (G.1 + f0)), (1, .int v1)] hX (by decide +kernel) (by decide) rfl ?_
      refine J_iload (pc := 42) 0 hX (by decide +kernel) rfl ?_
      refine J_iload_n (k0 := 3) (pc := 44) 1 hX (by decide +kernel) rfl rfl ?_
      refine J_idiv (pc := 45) hX (by decide +kernel) (fun _ => ?_)
      refine J_istore (pc := 46) [(5, .int ((jmin v1 (x6 * (x4 - x8))) / x6)), (4, .int (jmin v1 (x6 * (x4 - x8)))), (3, .int x6), (2, .int x4), (0, .ref (G.1 + f0)), (1, .int v1)] hX (by decide +kernel) (by decide) rfl ?_
      refine J_iload (pc := 48) 1 hX (by decide +kernel) rfl ?_
      refine J_iload_n (k0 := 3) (pc := 50) 2 hX (by decide +kernel) rfl rfl ?_
      refine J_irem (pc := 51) hX (by decide +kernel) (fun _ => ?_)
      refine J_istore (pc := 52) [(6, .int (jrem (jmin v1 (x6 * (x4 - x8))) x6)), (5, .int ((jmin v1 (x6 * (x4 - x8))) / x6)), (4, .int (jmin v1 (x6 * (x4 - x8)))), (3, .int x6), (2, .int x4), (0, .ref (G.1 + f0)), (1, .int v1)] hX (by decide +kernel) (by decide) rfl ?_
      refine J_iconst (pc := 54) (n := 0) (v := 0) hX (by decide +kernel) (by decide +kernel) ?_
      refine J_istore (pc := 55) [(7, .int 0), (6, .int (jrem (jmin v1 (x6 * (x4 - x8))) x6)), (5, .int ((jmin v1 (x6 * (x4 - x8))) / x6)), (4, .int (jmin v1 (x6 * (x4 - x8)))), (3, .int x6), (2, .int x4), (0, .ref (G.1 + f0)), (1, .int v1)] hX (by decide +kernel) (by decide) rfl ?_
      exact J_sub [6, 5, 3, 2, 1, 0] _ rfl (jDy_lick_57 hf0 hX x4 (jmin v1 (x6 * (x4 - x8))) ((jmin v1 (x6 * (x4 - x8))) / x6) FU (jrem (jmin v1 (x6 * (x4 - x8))) x6) 0 μ7)
    · refine J_iload_n (k0 := 1) (pc := 25) 3 hX (by decide +kernel) rfl rfl ?_
      exact J_iret (pc := 26) hX (by decide +kernel) rfl trivial
set_option maxRecDepth 100000 in
set_option maxHeartbeats 4000000 in
theorem c_Dy_lick {l : Launch} {G : Gx} {y : Ly} {f0 : Nat} (hf0 : LyFg y f0 ) (v1 : Int32) (μ : Mu) : Cn l G ⟨"SaltFigures$Days", "lick", "(LSaltFigures$Figures;I)I"⟩ prog_2_method_9_code 8 (some .int) 3 [.ref (G.1 + f0), .int v1] (μ, y) (emy y) rvI tpT (Dy_lick f0 v1 μ) := cn_of (by decide +kernel) (Nat.le_of_ble_eq_true rfl) (fun _ _ _ => ⟨List.prefix_refl _, trivial⟩) (fun X hX _ => jDy_lick hf0 hX v1 μ)

def Dy_cattleCome_119 (a pt f1 : Nat) (kb59 : Int32 → Mu → Option (Unit × Mu))  (v4 : Int32)  (μ : Mu) : Option (Unit × Mu) := kb59 (v4 + 1) μ
def Dy_cattleCome_59b (a pt f1 : Nat)  (kb59 : Int32 → Mu → Option (Unit × Mu))  (v4 : Int32)  (μ : Mu) : Option (Unit × Mu) := gF μ f1 3 (fun x1 => (if x1 ≤ v4 then some ((), μ) else (if 16 ≤ v4 then some ((), μ) else ldA μ (a + 2) 16 v4 (fun x2 => cl (Fg_get f1 v4 1 μ) (fun x4 μ3 => (if (x2 - x4) ≤ 0 then Dy_cattleCome_119 a pt f1 kb59 v4 μ3 else cl (Fg_add f1 v4 4 (x2 - x4) μ3) (fun _ μ5 => cl (Pt_note pt f1 2 v4 (x2 - x4) μ5) (fun _ μ6 => Dy_cattleCome_119 a pt f1 kb59 v4 μ6))))))))
def Dy_cattleCome_59 (a pt f1 : Nat)   (fu : Nat) : Int32 → Mu → Option (Unit × Mu) := lp (fun kb => Dy_cattleCome_59b a pt f1  kb ) (fun _ _ => none) fu
def Dy_cattleCome_56 (a pt f1 : Nat)     (μ : Mu) : Option (Unit × Mu) := Dy_cattleCome_59 a pt f1 FU 0 μ
def Dy_cattleCome_31b (a pt f1 : Nat)  (kb31 : Int32 → Int32 → Mu → Option (Unit × Mu))  (v3 : Int32) (v4 : Int32)  (μ : Mu) : Option (Unit × Mu) := (if 16 < v4 then Dy_cattleCome_56 a pt f1 μ else (if v3 ≤ 0 then Dy_cattleCome_56 a pt f1 μ else cl (Dy_lick f1 v3 μ) (fun x2 μ1 => kb31 (v3 - x2) (v4 + 1) μ1)))
def Dy_cattleCome_31 (a pt f1 : Nat)   (fu : Nat) : Int32 → Int32 → Mu → Option (Unit × Mu) := lp (fun kb => Dy_cattleCome_31b a pt f1  kb ) (fun _ _ _ => none) fu
def Dy_cattleCome_2b (a pt f1 : Nat)  (kb2 : Int32 → Mu → Option (Unit × Mu)) (v2 : Int32) (v3 : Int32)  (μ : Mu) : Option (Unit × Mu) := (if 16 ≤ v3 then Dy_cattleCome_31 a pt f1 FU v2 0 μ else cl (Fg_get f1 v3 1 μ) (fun x2 μ1 => stA μ1 (a + 2) 16 v3 x2 (fun μ3 => kb2 (v3 + 1) μ3)))
def Dy_cattleCome_2 (a pt f1 : Nat)  (v2 : Int32) (fu : Nat) : Int32 → Mu → Option (Unit × Mu) := lp (fun kb => Dy_cattleCome_2b a pt f1  kb v2) (fun _ _ => none) fu
def Dy_cattleCome (a pt f1 : Nat) (v2 : Int32) (μ : Mu) : Option (Unit × Mu) := Dy_cattleCome_2 a pt f1 v2 FU 0 μ
set_option maxRecDepth 100000 in
set_option maxHeartbeats 4000000 in
theorem jDy_cattleCome_119 {X : Cx} {l : Launch} {G : Gx} {y : Ly} {a pt f1 : Nat} (hL : LyDy y a pt) (hf1 : LyFg y f1 ) (hX : Ok X l G prog_2_method_8_code 6 none "SaltFigures$Days")  (v4 : Int32)  {kb59 : Int32 → Mu → Option (Unit × Mu)} (hk59 : ∀ (v4 : Int32) (μ : Mu), J X G 6 4 y (emy y) rvV tpT 59 [(0, .ref (G.1 + a)), (1, .ref (G.1 + f1)), (4, .int v4)] [] (μ, y) (kb59 v4 μ)) (μ : Mu) : J X G 6 4 y (emy y) rvV tpT 119 [(0, .ref (G.1 + a)), (1, .ref (G.1 + f1)), (4, .int v4)] [] (μ, y) (Dy_cattleCome_119 a pt f1 kb59  v4  μ) := by
  unfold Dy_cattleCome_119
  refine J_iinc (pc := 119) (n := 1) 2 [(4, .int (v4 + 1)), (0, .ref (G.1 + a)), (1, .ref (G.1 + f1))] hX (by decide +kernel) rfl rfl (by decide) rfl ?_
  refine J_goto (pc := 122) (off := -63) (tgt := 59) hX (by decide +kernel) (by decide +kernel) ?_
  exact J_sub [1, 2, 0] _ rfl (hk59 (v4 + 1) μ)
set_option maxRecDepth 100000 in
set_option maxHeartbeats 4000000 in
theorem jDy_cattleCome_59b {X : Cx} {l : Launch} {G : Gx} {y : Ly} {a pt f1 : Nat} (hL : LyDy y a pt) (hf1 : LyFg y f1 ) (hX : Ok X l G prog_2_method_8_code 6 none "SaltFigures$Days")   {kb59 : Int32 → Mu → Option (Unit × Mu)}  (hk59 : ∀ (v4 : Int32) (μ : Mu), J X G 6 4 y (emy y) rvV tpT 59 [(0, .ref (G.1 + a)), (1, .ref (G.1 + f1)), (4, .int v4)] [] (μ, y) (kb59 v4 μ)) (v4 : Int32)  (μ : Mu) : J X G 6 4 y (emy y) rvV tpT 59 [(0, .ref (G.1 + a)), (1, .ref (G.1 + f1)), (4, .int v4)] [] (μ, y) (Dy_cattleCome_59b a pt f1  kb59  v4  μ) := by
  unfold Dy_cattleCome_59b
  refine J_iload (pc := 59) 2 hX (by decide +kernel) rfl ?_
  refine J_aload_n (k0 := 1) (pc := 61) 1 hX (by decide +kernel) rfl rfl ?_
  refine J_gF (pc := 62) hX (by decide +kernel) fl_Dy_33 hf1.1 rfl (fun x1 => ?_)
  refine J_icmp_ge (pc := 65) (off := 60) (tgt := 125) hX (by decide +kernel) (by decide +kernel) (fun _ => ?_) (fun _ => ?_)
  · exact J_vret (pc := 125) hX (by decide +kernel) rfl trivial
  · refine J_iload (pc := 68) 2 hX (by decide +kernel) rfl ?_
    refine J_bipush (pc := 70) (n := 16) (v := 16) hX (by decide +kernel) (by decide +kernel) ?_
    refine J_icmp_ge (pc := 72) (off := 53) (tgt := 125) hX (by decide +kernel) (by decide +kernel) (fun _ => ?_) (fun _ => ?_)
    · exact J_vret (pc := 125) hX (by decide +kernel) rfl trivial
    · refine J_aload_n (k0 := 0) (pc := 75) 0 hX (by decide +kernel) rfl rfl ?_
      refine J_gr (pc := 76) hX (by decide +kernel) fl_Dy_15 hL.1 rfl hL.2.2.2.2.1.1 ?_
      refine J_iload (pc := 79) 2 hX (by decide +kernel) rfl ?_
      refine J_ldA (pc := 81) hX (by decide +kernel) hL.2.2.2.2.1.2 (fun x2 => ?_)
      refine J_aload_n (k0 := 1) (pc := 82) 1 hX (by decide +kernel) rfl rfl ?_
      refine J_iload (pc := 83) 2 hX (by decide +kernel) rfl ?_
      refine J_iconst (pc := 85) (n := 1) (v := 1) hX (by decide +kernel) (by decide +kernel) ?_
      refine J_cVi (pc := 86) (idx := 84) [.int v4, .int 1] hX (by decide +kernel) (mq mt_2 219 (by decide +kernel)) mv_Fg_get hf1.1 rfl rfl (Nat.le_of_ble_eq_true rfl) (Nat.le_of_ble_eq_true rfl) (c_Fg_get hf1 v4 1 μ) (fun x4 μ3 => ?_)
      refine J_isub (pc := 89) hX (by decide +kernel) ?_
      refine J_istore (pc := 90) [(5, .int (x2 - x4)), (0, .ref (G.1 + a)), (1, .ref (G.1 + f1)), (4, .int v4)] hX (by decide +kernel) (by decide) rfl ?_
      refine J_iload (pc := 92) 0 hX (by decide +kernel) rfl ?_
      refine J_if_le (pc := 94) (off := 25) (tgt := 119) hX (by decide +kernel) (by decide +kernel) (fun _ => ?_) (fun _ => ?_)
      · exact J_sub [1, 2, 3] _ rfl (jDy_cattleCome_119 hL hf1 hX v4 hk59 μ3)
      · refine J_aload_n (k0 := 1) (pc := 97) 2 hX (by decide +kernel) rfl rfl ?_
        refine J_iload (pc := 98) 3 hX (by decide +kernel) rfl ?_
        refine J_iconst (pc := 100) (n := 4) (v := 4) hX (by decide +kernel) (by decide +kernel) ?_
        refine J_iload (pc := 101) 0 hX (by decide +kernel) rfl ?_
        refine J_cVv (pc := 103) (idx := 94) [.int v4, .int 4, .int (x2 - x4)] hX (by decide +kernel) (mq mt_2 207 (by decide +kernel)) mv_Fg_add hf1.1 rfl rfl (Nat.le_of_ble_eq_true rfl) (Nat.le_of_ble_eq_true rfl) (c_Fg_add hf1 v4 4 (x2 - x4) μ3) (fun μ5 => ?_)
        refine J_aload_n (k0 := 0) (pc := 106) 1 hX (by decide +kernel) rfl rfl ?_
        refine J_gr (pc := 107) hX (by decide +kernel) fl_Dy_18 hL.1 rfl hL.2.1.1 ?_
        refine J_aload_n (k0 := 1) (pc := 110) 2 hX (by decide +kernel) rfl rfl ?_
        refine J_iconst (pc := 111) (n := 2) (v := 2) hX (by decide +kernel) (by decide +kernel) ?_
        refine J_iload (pc := 112) 3 hX (by decide +kernel) rfl ?_
        refine J_iload (pc := 114) 0 hX (by decide +kernel) rfl ?_
        refine J_cVv (pc := 116) (idx := 100) [.ref (G.1 + f1), .int 2, .int v4, .int (x2 - x4)] hX (by decide +kernel) (mq mt_3 8 (by decide +kernel)) mv_Pt_note hL.2.1.2.1 rfl rfl (Nat.le_of_ble_eq_true rfl) (Nat.le_of_ble_eq_true rfl) (c_Pt_note hL.2.1.2 hf1 2 v4 (x2 - x4) μ5) (fun μ6 => ?_)
        exact J_sub [1, 2, 3] _ rfl (jDy_cattleCome_119 hL hf1 hX v4 hk59 μ6)
set_option maxRecDepth 100000 in
set_option maxHeartbeats 4000000 in
theorem jDy_cattleCome_59 {X : Cx} {l : Launch} {G : Gx} {y : Ly} {a pt f1 : Nat} (hL : LyDy y a pt) (hf1 : LyFg y f1 ) (hX : Ok X l G prog_2_method_8_code 6 none "SaltFigures$Days")    : ∀ (fu : Nat) (v4 : Int32) (μ : Mu), J X G 6 4 y (emy y) rvV tpT 59 [(0, .ref (G.1 + a)), (1, .ref (G.1 + f1)), (4, .int v4)] [] (μ, y) (Dy_cattleCome_59 a pt f1   fu v4 μ) := by
  intro fu
  induction fu with
  | zero => intros; exact J_none
  | succ fu ih => intro v4 μ; exact jDy_cattleCome_59b hL hf1 hX   ih v4 μ
set_option maxRecDepth 100000 in
set_option maxHeartbeats 4000000 in
theorem jDy_cattleCome_56 {X : Cx} {l : Launch} {G : Gx} {y : Ly} {a pt f1 : Nat} (hL : LyDy y a pt) (hf1 : LyFg y f1 ) (hX : Ok X l G prog_2_method_8_code 6 none "SaltFigures$Days")      (μ : Mu) : J X G 6 4 y (emy y) rvV tpT 56 [(0, .ref (G.1 + a)), (1, .ref (G.1 + f1))] [] (μ, y) (Dy_cattleCome_56 a pt f1     μ) := by
  unfold Dy_cattleCome_56
  refine J_iconst (pc := 56) (n := 0) (v := 0) hX (by decide +kernel) (by decide +kernel) ?_
  refine J_istore (pc := 57) [(4, .int 0), (0, .ref (G.1 + a)), (1, .ref (G.1 + f1))] hX (by decide +kernel) (by decide) rfl ?_
  exact J_sub [1, 2, 0] _ rfl (jDy_cattleCome_59 hL hf1 hX FU 0 μ)
set_option maxRecDepth 100000 in
set_option maxHeartbeats 4000000 in
theorem jDy_cattleCome_31b {X : Cx} {l : Launch} {G : Gx} {y : Ly} {a pt f1 : Nat} (hL : LyDy y a pt) (hf1 : LyFg y f1 ) (hX : Ok X l G prog_2_method_8_code 6 none "SaltFigures$Days")   {kb31 : Int32 → Int32 → Mu → Option (Unit × Mu)}  (hk31 : ∀ (v3 : Int32) (v4 : Int32) (μ : Mu), J X G 6 4 y (emy y) rvV tpT 31 [(0, .ref (G.1 + a)), (1, .ref (G.1 + f1)), (3, .int v3), (4, .int v4)] [] (μ, y) (kb31 v3 v4 μ)) (v3 : Int32) (v4 : Int32)  (μ : Mu) : J X G 6 4 y (emy y) rvV tpT 31 [(0, .ref (G.1 + a)), (1, .ref (G.1 + f1)), (3, .int v3), (4, .int v4)] [] (μ, y) (Dy_cattleCome_31b a pt f1  kb31  v3 v4  μ) := by
  unfold Dy_cattleCome_31b
  refine J_iload (pc := 31) 3 hX (by decide +kernel) rfl ?_
  refine J_bipush (pc := 33) (n := 16) (v := 16) hX (by decide +kernel) (by decide +kernel) ?_
  refine J_icmp_gt (pc := 35) (off := 21) (tgt := 56) hX (by decide +kernel) (by decide +kernel) (fun _ => ?_) (fun _ => ?_)
  · exact J_sub [0, 1] _ rfl (jDy_cattleCome_56 hL hf1 hX μ)
  · refine J_iload_n (k0 := 3) (pc := 38) 2 hX (by decide +kernel) rfl rfl ?_
    refine J_if_le (pc := 39) (off := 17) (tgt := 56) hX (by decide +kernel) (by decide +kernel) (fun _ => ?_) (fun _ => ?_)
    · exact J_sub [0, 1] _ rfl (jDy_cattleCome_56 hL hf1 hX μ)
    · refine J_iload_n (k0 := 3) (pc := 42) 2 hX (by decide +kernel) rfl rfl ?_
      refine J_aload_n (k0 := 1) (pc := 43) 1 hX (by decide +kernel) rfl rfl ?_
      refine J_iload_n (k0 := 3) (pc := 44) 2 hX (by decide +kernel) rfl rfl ?_
      refine J_cSi (pc := 45) (idx := 114) [.ref (G.1 + f1), .int v3] hX (by decide +kernel) (mq mt_3 59 (by decide +kernel)) mv_Dy_lick rfl rfl (Nat.le_of_ble_eq_true rfl) (Nat.le_of_ble_eq_true rfl) (c_Dy_lick hf1 v3 μ) (fun x2 μ1 => ?_)
      refine J_isub (pc := 48) hX (by decide +kernel) ?_
      refine J_istore_n (k0 := 3) (pc := 49) [(3, .int (v3 - x2)), (0, .ref (G.1 + a)), (1, .ref (G.1 + f1)), (4, .int v4)] hX (by decide +kernel) rfl (by decide) rfl ?_
      refine J_iinc (pc := 50) (n := 1) 3 [(4, .int (v4 + 1)), (3, .int (v3 - x2)), (0, .ref (G.1 + a)), (1, .ref (G.1 + f1))] hX (by decide +kernel) rfl rfl (by decide) rfl ?_
      refine J_goto (pc := 53) (off := -22) (tgt := 31) hX (by decide +kernel) (by decide +kernel) ?_
      exact J_sub [2, 3, 1, 0] _ rfl (hk31 (v3 - x2) (v4 + 1) μ1)
set_option maxRecDepth 100000 in
set_option maxHeartbeats 4000000 in
theorem jDy_cattleCome_31 {X : Cx} {l : Launch} {G : Gx} {y : Ly} {a pt f1 : Nat} (hL : LyDy y a pt) (hf1 : LyFg y f1 ) (hX : Ok X l G prog_2_method_8_code 6 none "SaltFigures$Days")    : ∀ (fu : Nat) (v3 : Int32) (v4 : Int32) (μ : Mu), J X G 6 4 y (emy y) rvV tpT 31 [(0, .ref (G.1 + a)), (1, .ref (G.1 + f1)), (3, .int v3), (4, .int v4)] [] (μ, y) (Dy_cattleCome_31 a pt f1   fu v3 v4 μ) := by
  intro fu
  induction fu with
  | zero => intros; exact J_none
  | succ fu ih => intro v3 v4 μ; exact jDy_cattleCome_31b hL hf1 hX   ih v3 v4 μ
set_option maxRecDepth 100000 in
set_option maxHeartbeats 4000000 in
theorem jDy_cattleCome_2b {X : Cx} {l : Launch} {G : Gx} {y : Ly} {a pt f1 : Nat} (hL : LyDy y a pt) (hf1 : LyFg y f1 ) (hX : Ok X l G prog_2_method_8_code 6 none "SaltFigures$Days") (v2 : Int32)  {kb2 : Int32 → Mu → Option (Unit × Mu)}  (hk2 : ∀ (v3 : Int32) (μ : Mu), J X G 6 4 y (emy y) rvV tpT 2 [(0, .ref (G.1 + a)), (1, .ref (G.1 + f1)), (2, .int v2), (3, .int v3)] [] (μ, y) (kb2 v3 μ)) (v3 : Int32)  (μ : Mu) : J X G 6 4 y (emy y) rvV tpT 2 [(0, .ref (G.1 + a)), (1, .ref (G.1 + f1)), (2, .int v2), (3, .int v3)] [] (μ, y) (Dy_cattleCome_2b a pt f1  kb2 v2 v3  μ) := by
  unfold Dy_cattleCome_2b
  refine J_iload_n (k0 := 3) (pc := 2) 3 hX (by decide +kernel) rfl rfl ?_
  refine J_bipush (pc := 3) (n := 16) (v := 16) hX (by decide +kernel) (by decide +kernel) ?_
  refine J_icmp_ge (pc := 5) (off := 21) (tgt := 26) hX (by decide +kernel) (by decide +kernel) (fun _ => ?_) (fun _ => ?_)
  · refine J_iload_n (k0 := 2) (pc := 26) 2 hX (by decide +kernel) rfl rfl ?_
    refine J_istore_n (k0 := 3) (pc := 27) [(3, .int v2), (0, .ref (G.1 + a)), (1, .ref (G.1 + f1)), (2, .int v2)] hX (by decide +kernel) rfl (by decide) rfl ?_
    refine J_iconst (pc := 28) (n := 0) (v := 0) hX (by decide +kernel) (by decide +kernel) ?_
    refine J_istore (pc := 29) [(4, .int 0), (3, .int v2), (0, .ref (G.1 + a)), (1, .ref (G.1 + f1)), (2, .int v2)] hX (by decide +kernel) (by decide) rfl ?_
    exact J_sub [2, 3, 1, 0] _ rfl (jDy_cattleCome_31 hL hf1 hX FU v2 0 μ)
  · refine J_aload_n (k0 := 0) (pc := 8) 0 hX (by decide +kernel) rfl rfl ?_
    refine J_gr (pc := 9) hX (by decide +kernel) fl_Dy_15 hL.1 rfl hL.2.2.2.2.1.1 ?_
    refine J_iload_n (k0 := 3) (pc := 12) 3 hX (by decide +kernel) rfl rfl ?_
    refine J_aload_n (k0 := 1) (pc := 13) 1 hX (by decide +kernel) rfl rfl ?_
    refine J_iload_n (k0 := 3) (pc := 14) 3 hX (by decide +kernel) rfl rfl ?_
    refine J_iconst (pc := 15) (n := 1) (v := 1) hX (by decide +kernel) (by decide +kernel) ?_
    refine J_cVi (pc := 16) (idx := 84) [.int v3, .int 1] hX (by decide +kernel) (mq mt_2 219 (by decide +kernel)) mv_Fg_get hf1.1 rfl rfl (Nat.le_of_ble_eq_true rfl) (Nat.le_of_ble_eq_true rfl) (c_Fg_get hf1 v3 1 μ) (fun x2 μ1 => ?_)
    refine J_stA (pc := 19) hX (by decide +kernel) hL.2.2.2.2.1.2 (fun μ3 => ?_)
    refine J_iinc (pc := 20) (n := 1) 3 [(3, .int (v3 + 1)), (0, .ref (G.1 + a)), (1, .ref (G.1 + f1)), (2, .int v2)] hX (by decide +kernel) rfl rfl (by decide) rfl ?_
    refine J_goto (pc := 23) (off := -21) (tgt := 2) hX (by decide +kernel) (by decide +kernel) ?_
    exact J_sub [1, 2, 3, 0] _ rfl (hk2 (v3 + 1) μ3)
set_option maxRecDepth 100000 in
set_option maxHeartbeats 4000000 in
theorem jDy_cattleCome_2 {X : Cx} {l : Launch} {G : Gx} {y : Ly} {a pt f1 : Nat} (hL : LyDy y a pt) (hf1 : LyFg y f1 ) (hX : Ok X l G prog_2_method_8_code 6 none "SaltFigures$Days") (v2 : Int32)   : ∀ (fu : Nat) (v3 : Int32) (μ : Mu), J X G 6 4 y (emy y) rvV tpT 2 [(0, .ref (G.1 + a)), (1, .ref (G.1 + f1)), (2, .int v2), (3, .int v3)] [] (μ, y) (Dy_cattleCome_2 a pt f1  v2 fu v3 μ) := by
  intro fu
  induction fu with
  | zero => intros; exact J_none
  | succ fu ih => intro v3 μ; exact jDy_cattleCome_2b hL hf1 hX v2  ih v3 μ
set_option maxRecDepth 100000 in
set_option maxHeartbeats 4000000 in
theorem jDy_cattleCome {X : Cx} {l : Launch} {G : Gx} {y : Ly} {a pt f1 : Nat} (hL : LyDy y a pt) (hf1 : LyFg y f1 ) (hX : Ok X l G prog_2_method_8_code 6 none "SaltFigures$Days") (v2 : Int32) (μ : Mu) : J X G 6 4 y (emy y) rvV tpT 0 [(0, .ref (G.1 + a)), (1, .ref (G.1 + f1)), (2, .int v2)] [] (μ, y) (Dy_cattleCome a pt f1 v2 μ) := by
  unfold Dy_cattleCome
  refine J_iconst (pc := 0) (n := 0) (v := 0) hX (by decide +kernel) (by decide +kernel) ?_
  refine J_istore_n (k0 := 3) (pc := 1) [(3, .int 0), (0, .ref (G.1 + a)), (1, .ref (G.1 + f1)), (2, .int v2)] hX (by decide +kernel) rfl (by decide) rfl ?_
  exact J_sub [1, 2, 3, 0] _ rfl (jDy_cattleCome_2 hL hf1 hX v2 FU 0 μ)
set_option maxRecDepth 100000 in
set_option maxHeartbeats 4000000 in
theorem c_Dy_cattleCome {l : Launch} {G : Gx} {y : Ly} {a pt f1 : Nat} (hL : LyDy y a pt) (hf1 : LyFg y f1 ) (v2 : Int32) (μ : Mu) : Cn l G ⟨"SaltFigures$Days", "cattleCome", "(LSaltFigures$Figures;I)V"⟩ prog_2_method_8_code 6 none 4 [.ref (G.1 + a), .ref (G.1 + f1), .int v2] (μ, y) (emy y) rvV tpT (Dy_cattleCome a pt f1 v2 μ) := cn_of (by decide +kernel) (Nat.le_of_ble_eq_true rfl) (fun _ _ _ => ⟨List.prefix_refl _, trivial⟩) (fun X hX _ => jDy_cattleCome hL hf1 hX v2 μ)

def Dy_weather_197 (a pt f1 : Nat) (kb4 : Int32 → Int32 → Mu → Option (Int32 × Mu))  (v2 : Int32) (v3 : Int32)  (μ : Mu) : Option (Int32 × Mu) := kb4 v2 (v3 + 1) μ
def Dy_weather_169 (a pt f1 : Nat) (kb4 : Int32 → Int32 → Mu → Option (Int32 × Mu)) (kb138 : Int32 → Int32 → Mu → Option (Int32 × Mu))  (v2 : Int32) (v3 : Int32) (v6 : Int32)  (μ : Mu) : Option (Int32 × Mu) := kb138 v2 (v6 + 1) μ
def Dy_weather_138b (a pt f1 : Nat) (kb4 : Int32 → Int32 → Mu → Option (Int32 × Mu)) (kb138 : Int32 → Int32 → Mu → Option (Int32 × Mu)) (v3 : Int32) (v2 : Int32) (v6 : Int32)  (μ : Mu) : Option (Int32 × Mu) := gF μ f1 3 (fun x1 => (if x1 ≤ v6 then Dy_weather_197 a pt f1 kb4 v2 v3 μ else cl (Fg_get f1 v6 6 μ) (fun x3 μ2 => (if x3 = ((-1)) then Dy_weather_169 a pt f1 kb4 kb138 v2 v3 v6 μ2 else cl (Dy_spill a pt f1 v6 μ2) (fun _ μ4 => Dy_weather_169 a pt f1 kb4 kb138 (v2 + 1) v3 v6 μ4)))))
def Dy_weather_138 (a pt f1 : Nat) (kb4 : Int32 → Int32 → Mu → Option (Int32 × Mu)) (v3 : Int32) (fu : Nat) : Int32 → Int32 → Mu → Option (Int32 × Mu) := lp (fun kb => Dy_weather_138b a pt f1 kb4 kb v3) (fun _ _ _ => none) fu
def Dy_weather_4b (a pt f1 : Nat)  (kb4 : Int32 → Int32 → Mu → Option (Int32 × Mu))  (v2 : Int32) (v3 : Int32)  (μ : Mu) : Option (Int32 × Mu) := cl (Tx_linesOf (pt + 5) 2 μ) (fun x2 μ1 => (if x2 ≤ v3 then some (v2, μ1) else cl (Tx_weatherAt (pt + 5) v3 0 μ1) (fun x4 μ3 => gF μ3 f1 7 (fun x5 => (if x4 = x5 then cl (Tx_weatherAt (pt + 5) v3 2 μ3) (fun x7 μ6 => cl (Tx_weatherAt (pt + 5) v3 3 μ6) (fun x9 μ8 => cl (Tx_weatherAt (pt + 5) v3 1 μ8) (fun x11 μ10 => (if x11 = 14 then pF μ10 f1 4 x9 (fun μ12 => Dy_weather_197 a pt f1 kb4 v2 v3 μ12) else (if x11 = 15 then cl (Dy_die a pt f1 x7 μ10) (fun _ μ13 => Dy_weather_197 a pt f1 kb4 v2 v3 μ13) else (if x11 = 16 then cl (Dy_die a pt f1 x7 μ10) (fun _ μ14 => Dy_weather_197 a pt f1 kb4 v2 v3 μ14) else (if x11 = 17 then cl (Dy_die a pt f1 x7 μ10) (fun _ μ15 => Dy_weather_197 a pt f1 kb4 v2 v3 μ15) else (if x11 = 18 then cl (Dy_die a pt f1 x7 μ10) (fun _ μ16 => Dy_weather_197 a pt f1 kb4 v2 v3 μ16) else (if x11 = 19 then cl (Dy_die a pt f1 x7 μ10) (fun _ μ17 => Dy_weather_197 a pt f1 kb4 v2 v3 μ17) else (if x11 = 20 then cl (Dy_cattleCome a pt f1 x9 μ10) (fun _ μ18 => Dy_weather_197 a pt f1 kb4 v2 v3 μ18) else (if x11 = 21 then Dy_weather_138 a pt f1 kb4 v3 FU v2 0 μ10 else (if x11 = 22 then cl (Fg_put f1 x7 0 x9 μ10) (fun _ μ19 => Dy_weather_197 a pt f1 kb4 v2 v3 μ19) else cl (Dy_die a pt f1 x7 μ10) (fun _ μ20 => Dy_weather_197 a pt f1 kb4 v2 v3 μ20))))))))))))) else Dy_weather_197 a pt f1 kb4 v2 v3 μ3)))))
def Dy_weather_4 (a pt f1 : Nat)   (fu : Nat) : Int32 → Int32 → Mu → Option (Int32 × Mu) := lp (fun kb => Dy_weather_4b a pt f1  kb ) (fun _ _ _ => none) fu
def Dy_weather (a pt f1 : Nat)  (μ : Mu) : Option (Int32 × Mu) := Dy_weather_4 a pt f1 FU 0 0 μ
set_option maxRecDepth 100000 in
set_option maxHeartbeats 4000000 in
theorem jDy_weather_197 {X : Cx} {l : Launch} {G : Gx} {y : Ly} {a pt f1 : Nat} (hL : LyDy y a pt) (hf1 : LyFg y f1 ) (hX : Ok X l G prog_2_method_4_code 7 (some .int) "SaltFigures$Days")  (v2 : Int32) (v3 : Int32)  {kb4 : Int32 → Int32 → Mu → Option (Int32 × Mu)} (hk4 : ∀ (v2 : Int32) (v3 : Int32) (μ : Mu), J X G 7 6 y (emy y) rvI tpT 4 [(0, .ref (G.1 + a)), (1, .ref (G.1 + f1)), (2, .int v2), (3, .int v3)] [] (μ, y) (kb4 v2 v3 μ)) (μ : Mu) : J X G 7 6 y (emy y) rvI tpT 197 [(0, .ref (G.1 + a)), (1, .ref (G.1 + f1)), (2, .int v2), (3, .int v3)] [] (μ, y) (Dy_weather_197 a pt f1 kb4  v2 v3  μ) := by
  unfold Dy_weather_197
  refine J_iinc (pc := 197) (n := 1) 3 [(3, .int (v3 + 1)), (0, .ref (G.1 + a)), (1, .ref (G.1 + f1)), (2, .int v2)] hX (by decide +kernel) rfl rfl (by decide) rfl ?_
  refine J_goto (pc := 200) (off := -196) (tgt := 4) hX (by decide +kernel) (by decide +kernel) ?_
  exact J_sub [1, 2, 3, 0] _ rfl (hk4 v2 (v3 + 1) μ)
set_option maxRecDepth 100000 in
set_option maxHeartbeats 4000000 in
theorem jDy_weather_169 {X : Cx} {l : Launch} {G : Gx} {y : Ly} {a pt f1 : Nat} (hL : LyDy y a pt) (hf1 : LyFg y f1 ) (hX : Ok X l G prog_2_method_4_code 7 (some .int) "SaltFigures$Days")  (v2 : Int32) (v3 : Int32) (v6 : Int32)  {kb4 : Int32 → Int32 → Mu → Option (Int32 × Mu)} {kb138 : Int32 → Int32 → Mu → Option (Int32 × Mu)} (hk4 : ∀ (v2 : Int32) (v3 : Int32) (μ : Mu), J X G 7 6 y (emy y) rvI tpT 4 [(0, .ref (G.1 + a)), (1, .ref (G.1 + f1)), (2, .int v2), (3, .int v3)] [] (μ, y) (kb4 v2 v3 μ)) (hk138 : ∀ (v2 : Int32) (v6 : Int32) (μ : Mu), J X G 7 6 y (emy y) rvI tpT 138 [(0, .ref (G.1 + a)), (1, .ref (G.1 + f1)), (2, .int v2), (3, .int v3), (6, .int v6)] [] (μ, y) (kb138 v2 v6 μ)) (μ : Mu) : J X G 7 6 y (emy y) rvI tpT 169 [(0, .ref (G.1 + a)), (1, .ref (G.1 + f1)), (2, .int v2), (3, .int v3), (6, .int v6)] [] (μ, y) (Dy_weather_169 a pt f1 kb4 kb138  v2 v3 v6  μ) := by
  unfold Dy_weather_169
  refine J_iinc (pc := 169) (n := 1) 4 [(6, .int (v6 + 1)), (0, .ref (G.1 + a)), (1, .ref (G.1 + f1)), (2, .int v2), (3, .int v3)] hX (by decide +kernel) rfl rfl (by decide) rfl ?_
  refine J_goto (pc := 172) (off := -34) (tgt := 138) hX (by decide +kernel) (by decide +kernel) ?_
  exact J_sub [1, 2, 3, 4, 0] _ rfl (hk138 v2 (v6 + 1) μ)
set_option maxRecDepth 100000 in
set_option maxHeartbeats 4000000 in
theorem jDy_weather_138b {X : Cx} {l : Launch} {G : Gx} {y : Ly} {a pt f1 : Nat} (hL : LyDy y a pt) (hf1 : LyFg y f1 ) (hX : Ok X l G prog_2_method_4_code 7 (some .int) "SaltFigures$Days") (v3 : Int32) {kb4 : Int32 → Int32 → Mu → Option (Int32 × Mu)} {kb138 : Int32 → Int32 → Mu → Option (Int32 × Mu)} (hk4 : ∀ (v2 : Int32) (v3 : Int32) (μ : Mu), J X G 7 6 y (emy y) rvI tpT 4 [(0, .ref (G.1 + a)), (1, .ref (G.1 + f1)), (2, .int v2), (3, .int v3)] [] (μ, y) (kb4 v2 v3 μ)) (hk138 : ∀ (v2 : Int32) (v6 : Int32) (μ : Mu), J X G 7 6 y (emy y) rvI tpT 138 [(0, .ref (G.1 + a)), (1, .ref (G.1 + f1)), (2, .int v2), (3, .int v3), (6, .int v6)] [] (μ, y) (kb138 v2 v6 μ)) (v2 : Int32) (v6 : Int32)  (μ : Mu) : J X G 7 6 y (emy y) rvI tpT 138 [(0, .ref (G.1 + a)), (1, .ref (G.1 + f1)), (2, .int v2), (3, .int v3), (6, .int v6)] [] (μ, y) (Dy_weather_138b a pt f1 kb4 kb138 v3 v2 v6  μ) := by
  unfold Dy_weather_138b
  refine J_iload (pc := 138) 4 hX (by decide +kernel) rfl ?_
  refine J_aload_n (k0 := 1) (pc := 140) 1 hX (by decide +kernel) rfl rfl ?_
  refine J_gF (pc := 141) hX (by decide +kernel) fl_Dy_33 hf1.1 rfl (fun x1 => ?_)
  refine J_icmp_ge (pc := 144) (off := 31) (tgt := 175) hX (by decide +kernel) (by decide +kernel) (fun _ => ?_) (fun _ => ?_)
  · refine J_goto (pc := 175) (off := 22) (tgt := 197) hX (by decide +kernel) (by decide +kernel) ?_
    exact J_sub [0, 1, 2, 3] _ rfl (jDy_weather_197 hL hf1 hX v2 v3 hk4 μ)
  · refine J_aload_n (k0 := 1) (pc := 147) 1 hX (by decide +kernel) rfl rfl ?_
    refine J_iload (pc := 148) 4 hX (by decide +kernel) rfl ?_
    refine J_bipush (pc := 150) (n := 6) (v := 6) hX (by decide +kernel) (by decide +kernel) ?_
    refine J_cVi (pc := 152) (idx := 84) [.int v6, .int 6] hX (by decide +kernel) (mq mt_2 219 (by decide +kernel)) mv_Fg_get hf1.1 rfl rfl (Nat.le_of_ble_eq_true rfl) (Nat.le_of_ble_eq_true rfl) (c_Fg_get hf1 v6 6 μ) (fun x3 μ2 => ?_)
    refine J_iconst (pc := 155) (n := -1) (v := (-1)) hX (by decide +kernel) (by decide +kernel) ?_
    refine J_icmp_eq (pc := 156) (off := 13) (tgt := 169) hX (by decide +kernel) (by decide +kernel) (fun _ => ?_) (fun _ => ?_)
    · exact J_sub [0, 1, 2, 3, 4] _ rfl (jDy_weather_169 hL hf1 hX v2 v3 v6 hk4 hk138 μ2)
    · refine J_aload_n (k0 := 0) (pc := 159) 0 hX (by decide +kernel) rfl rfl ?_
      refine J_aload_n (k0 := 1) (pc := 160) 1 hX (by decide +kernel) rfl rfl ?_
      refine J_iload (pc := 161) 4 hX (by decide +kernel) rfl ?_
      refine J_cVv (pc := 163) (idx := 51) [.ref (G.1 + f1), .int v6] hX (by decide +kernel) (mq mt_3 74 (by decide +kernel)) mv_Dy_spill hL.1 rfl rfl (Nat.le_of_ble_eq_true rfl) (Nat.le_of_ble_eq_true rfl) (c_Dy_spill hL hf1 v6 μ2) (fun μ4 => ?_)
      refine J_iinc (pc := 166) (n := 1) 2 [(2, .int (v2 + 1)), (0, .ref (G.1 + a)), (1, .ref (G.1 + f1)), (3, .int v3), (6, .int v6)] hX (by decide +kernel) rfl rfl (by decide) rfl ?_
      exact J_sub [1, 2, 0, 3, 4] _ rfl (jDy_weather_169 hL hf1 hX (v2 + 1) v3 v6 hk4 hk138 μ4)
set_option maxRecDepth 100000 in
set_option maxHeartbeats 4000000 in
theorem jDy_weather_138 {X : Cx} {l : Launch} {G : Gx} {y : Ly} {a pt f1 : Nat} (hL : LyDy y a pt) (hf1 : LyFg y f1 ) (hX : Ok X l G prog_2_method_4_code 7 (some .int) "SaltFigures$Days") (v3 : Int32) {kb4 : Int32 → Int32 → Mu → Option (Int32 × Mu)} (hk4 : ∀ (v2 : Int32) (v3 : Int32) (μ : Mu), J X G 7 6 y (emy y) rvI tpT 4 [(0, .ref (G.1 + a)), (1, .ref (G.1 + f1)), (2, .int v2), (3, .int v3)] [] (μ, y) (kb4 v2 v3 μ)) : ∀ (fu : Nat) (v2 : Int32) (v6 : Int32) (μ : Mu), J X G 7 6 y (emy y) rvI tpT 138 [(0, .ref (G.1 + a)), (1, .ref (G.1 + f1)), (2, .int v2), (3, .int v3), (6, .int v6)] [] (μ, y) (Dy_weather_138 a pt f1 kb4 v3 fu v2 v6 μ) := by
  intro fu
  induction fu with
  | zero => intros; exact J_none
  | succ fu ih => intro v2 v6 μ; exact jDy_weather_138b hL hf1 hX v3 hk4 ih v2 v6 μ
set_option maxRecDepth 100000 in
set_option maxHeartbeats 4000000 in
theorem jDy_weather_4b {X : Cx} {l : Launch} {G : Gx} {y : Ly} {a pt f1 : Nat} (hL : LyDy y a pt) (hf1 : LyFg y f1 ) (hX : Ok X l G prog_2_method_4_code 7 (some .int) "SaltFigures$Days")   {kb4 : Int32 → Int32 → Mu → Option (Int32 × Mu)}  (hk4 : ∀ (v2 : Int32) (v3 : Int32) (μ : Mu), J X G 7 6 y (emy y) rvI tpT 4 [(0, .ref (G.1 + a)), (1, .ref (G.1 + f1)), (2, .int v2), (3, .int v3)] [] (μ, y) (kb4 v2 v3 μ)) (v2 : Int32) (v3 : Int32)  (μ : Mu) : J X G 7 6 y (emy y) rvI tpT 4 [(0, .ref (G.1 + a)), (1, .ref (G.1 + f1)), (2, .int v2), (3, .int v3)] [] (μ, y) (Dy_weather_4b a pt f1  kb4  v2 v3  μ) := by
  unfold Dy_weather_4b
  refine J_iload_n (k0 := 3) (pc := 4) 3 hX (by decide +kernel) rfl rfl ?_
  refine J_aload_n (k0 := 0) (pc := 5) 0 hX (by decide +kernel) rfl rfl ?_
  refine J_gr (pc := 6) hX (by decide +kernel) fl_Dy_28 hL.1 rfl hL.2.2.1.1 ?_
  refine J_iconst (pc := 9) (n := 2) (v := 2) hX (by decide +kernel) (by decide +kernel) ?_
  refine J_cVi (pc := 10) (idx := 69) [.int 2] hX (by decide +kernel) (mq mt_3 47 (by decide +kernel)) mv_Tx_linesOf hL.2.2.1.2.1 rfl rfl (Nat.le_of_ble_eq_true rfl) (Nat.le_of_ble_eq_true rfl) (c_Tx_linesOf hL.2.2.1.2 2 μ) (fun x2 μ1 => ?_)
  refine J_icmp_ge (pc := 13) (off := 190) (tgt := 203) hX (by decide +kernel) (by decide +kernel) (fun _ => ?_) (fun _ => ?_)
  · refine J_iload_n (k0 := 2) (pc := 203) 2 hX (by decide +kernel) rfl rfl ?_
    exact J_iret (pc := 204) hX (by decide +kernel) rfl trivial
  · refine J_aload_n (k0 := 0) (pc := 16) 0 hX (by decide +kernel) rfl rfl ?_
    refine J_gr (pc := 17) hX (by decide +kernel) fl_Dy_28 hL.1 rfl hL.2.2.1.1 ?_
    refine J_iload_n (k0 := 3) (pc := 20) 3 hX (by decide +kernel) rfl rfl ?_
    refine J_iconst (pc := 21) (n := 0) (v := 0) hX (by decide +kernel) (by decide +kernel) ?_
    refine J_cVi (pc := 22) (idx := 74) [.int v3, .int 0] hX (by decide +kernel) (mq mt_3 51 (by decide +kernel)) mv_Tx_weatherAt hL.2.2.1.2.1 rfl rfl (Nat.le_of_ble_eq_true rfl) (Nat.le_of_ble_eq_true rfl) (c_Tx_weatherAt hL.2.2.1.2 v3 0 μ1) (fun x4 μ3 => ?_)
    refine J_aload_n (k0 := 1) (pc := 25) 1 hX (by decide +kernel) rfl rfl ?_
    refine J_gF (pc := 26) hX (by decide +kernel) fl_Dy_58 hf1.1 rfl (fun x5 => ?_)
    refine J_icmp_eq (pc := 29) (off := 6) (tgt := 35) hX (by decide +kernel) (by decide +kernel) (fun _ => ?_) (fun _ => ?_)
    · refine J_aload_n (k0 := 0) (pc := 35) 0 hX (by decide +kernel) rfl rfl ?_
      refine J_gr (pc := 36) hX (by decide +kernel) fl_Dy_28 hL.1 rfl hL.2.2.1.1 ?_
      refine J_iload_n (k0 := 3) (pc := 39) 3 hX (by decide +kernel) rfl rfl ?_
      refine J_iconst (pc := 40) (n := 2) (v := 2) hX (by decide +kernel) (by decide +kernel) ?_
      refine J_cVi (pc := 41) (idx := 74) [.int v3, .int 2] hX (by decide +kernel) (mq mt_3 51 (by decide +kernel)) mv_Tx_weatherAt hL.2.2.1.2.1 rfl rfl (Nat.le_of_ble_eq_true rfl) (Nat.le_of_ble_eq_true rfl) (c_Tx_weatherAt hL.2.2.1.2 v3 2 μ3) (fun x7 μ6 => ?_)
      refine J_istore (pc := 44) [(4, .int x7), (0, .ref (G.1 + a)), (1, .ref (G.1 + f1)), (2, .int v2), (3, .int v3)] hX (by decide +kernel) (by decide) rfl ?_
      refine J_aload_n (k0 := 0) (pc := 46) 1 hX (by decide +kernel) rfl rfl ?_
      refine J_gr (pc := 47) hX (by decide +kernel) fl_Dy_28 hL.1 rfl hL.2.2.1.1 ?_
      refine J_iload_n (k0 := 3) (pc := 50) 4 hX (by decide +kernel) rfl rfl ?_
      refine J_iconst (pc := 51) (n := 3) (v := 3) hX (by decide +kernel) (by decide +kernel) ?_
      refine J_cVi (pc := 52) (idx := 74) [.int v3, .int 3] hX (by decide +kernel) (mq mt_3 51 (by decide +kernel)) mv_Tx_weatherAt hL.2.2.1.2.1 rfl rfl (Nat.le_of_ble_eq_true rfl) (Nat.le_of_ble_eq_true rfl) (c_Tx_weatherAt hL.2.2.1.2 v3 3 μ6) (fun x9 μ8 => ?_)
      refine J_istore (pc := 55) [(5, .int x9), (4, .int x7), (0, .ref (G.1 + a)), (1, .ref (G.1 + f1)), (2, .int v2), (3, .int v3)] hX (by decide +kernel) (by decide) rfl ?_
      refine J_aload_n (k0 := 0) (pc := 57) 2 hX (by decide +kernel) rfl rfl ?_
      refine J_gr (pc := 58) hX (by decide +kernel) fl_Dy_28 hL.1 rfl hL.2.2.1.1 ?_
      refine J_iload_n (k0 := 3) (pc := 61) 5 hX (by decide +kernel) rfl rfl ?_
      refine J_iconst (pc := 62) (n := 1) (v := 1) hX (by decide +kernel) (by decide +kernel) ?_
      refine J_cVi (pc := 63) (idx := 74) [.int v3, .int 1] hX (by decide +kernel) (mq mt_3 51 (by decide +kernel)) mv_Tx_weatherAt hL.2.2.1.2.1 rfl rfl (Nat.le_of_ble_eq_true rfl) (Nat.le_of_ble_eq_true rfl) (c_Tx_weatherAt hL.2.2.1.2 v3 1 μ8) (fun x11 μ10 => ?_)
      refine J_ite _ (fun hc0 => ?_) (fun hc0 => ?_)
      · refine J_tsIn (pc := 66) (dflt := 124) (lo := 14) (hi := 22) (offs := #[50, 124, 124, 124, 124, 124, 59, 69, 112]) (len := 50) (off := 50) (tgt := 116) 14 hc0 hX (by decide +kernel) (by decide +kernel) (by decide +kernel) (by decide +kernel) (by decide +kernel) ?_
        refine J_aload_n (k0 := 1) (pc := 116) 3 hX (by decide +kernel) rfl rfl ?_
        refine J_iload (pc := 117) 0 hX (by decide +kernel) rfl ?_
        refine J_pF (pc := 119) hX (by decide +kernel) fl_Dy_78 hf1.1 rfl (fun μ12 => ?_)
        refine J_goto (pc := 122) (off := 75) (tgt := 197) hX (by decide +kernel) (by decide +kernel) ?_
        exact J_sub [2, 3, 4, 5] _ rfl (jDy_weather_197 hL hf1 hX v2 v3 hk4 μ12)
      · refine J_ite _ (fun hc1 => ?_) (fun hc1 => ?_)
        · refine J_tsIn (pc := 66) (dflt := 124) (lo := 14) (hi := 22) (offs := #[50, 124, 124, 124, 124, 124, 59, 69, 112]) (len := 50) (off := 124) (tgt := 190) 15 hc1 hX (by decide +kernel) (by decide +kernel) (by decide +kernel) (by decide +kernel) (by decide +kernel) ?_
          refine J_aload_n (k0 := 0) (pc := 190) 2 hX (by decide +kernel) rfl rfl ?_
          refine J_aload_n (k0 := 1) (pc := 191) 3 hX (by decide +kernel) rfl rfl ?_
          refine J_iload (pc := 192) 1 hX (by decide +kernel) rfl ?_
          refine J_cVv (pc := 194) (idx := 91) [.ref (G.1 + f1), .int x7] hX (by decide +kernel) (mq mt_3 75 (by decide +kernel)) mv_Dy_die hL.1 rfl rfl (Nat.le_of_ble_eq_true rfl) (Nat.le_of_ble_eq_true rfl) (c_Dy_die hL hf1 x7 μ10) (fun μ13 => ?_)
          exact J_sub [2, 3, 4, 5] _ rfl (jDy_weather_197 hL hf1 hX v2 v3 hk4 μ13)
        · refine J_ite _ (fun hc2 => ?_) (fun hc2 => ?_)
          · refine J_tsIn (pc := 66) (dflt := 124) (lo := 14) (hi := 22) (offs := #[50, 124, 124, 124, 124, 124, 59, 69, 112]) (len := 50) (off := 124) (tgt := 190) 16 hc2 hX (by decide +kernel) (by decide +kernel) (by decide +kernel) (by decide +kernel) (by decide +kernel) ?_
            refine J_aload_n (k0 := 0) (pc := 190) 2 hX (by decide +kernel) rfl rfl ?_
            refine J_aload_n (k0 := 1) (pc := 191) 3 hX (by decide +kernel) rfl rfl ?_
            refine J_iload (pc := 192) 1 hX (by decide +kernel) rfl ?_
            refine J_cVv (pc := 194) (idx := 91) [.ref (G.1 + f1), .int x7] hX (by decide +kernel) (mq mt_3 75 (by decide +kernel)) mv_Dy_die hL.1 rfl rfl (Nat.le_of_ble_eq_true rfl) (Nat.le_of_ble_eq_true rfl) (c_Dy_die hL hf1 x7 μ10) (fun μ14 => ?_)
            exact J_sub [2, 3, 4, 5] _ rfl (jDy_weather_197 hL hf1 hX v2 v3 hk4 μ14)
          · refine J_ite _ (fun hc3 => ?_) (fun hc3 => ?_)
            · refine J_tsIn (pc := 66) (dflt := 124) (lo := 14) (hi := 22) (offs := #[50, 124, 124, 124, 124, 124, 59, 69, 112]) (len := 50) (off := 124) (tgt := 190) 17 hc3 hX (by decide +kernel) (by decide +kernel) (by decide +kernel) (by decide +kernel) (by decide +kernel) ?_
              refine J_aload_n (k0 := 0) (pc := 190) 2 hX (by decide +kernel) rfl rfl ?_
              refine J_aload_n (k0 := 1) (pc := 191) 3 hX (by decide +kernel) rfl rfl ?_
              refine J_iload (pc := 192) 1 hX (by decide +kernel) rfl ?_
              refine J_cVv (pc := 194) (idx := 91) [.ref (G.1 + f1), .int x7] hX (by decide +kernel) (mq mt_3 75 (by decide +kernel)) mv_Dy_die hL.1 rfl rfl (Nat.le_of_ble_eq_true rfl) (Nat.le_of_ble_eq_true rfl) (c_Dy_die hL hf1 x7 μ10) (fun μ15 => ?_)
              exact J_sub [2, 3, 4, 5] _ rfl (jDy_weather_197 hL hf1 hX v2 v3 hk4 μ15)
            · refine J_ite _ (fun hc4 => ?_) (fun hc4 => ?_)
              · refine J_tsIn (pc := 66) (dflt := 124) (lo := 14) (hi := 22) (offs := #[50, 124, 124, 124, 124, 124, 59, 69, 112]) (len := 50) (off := 124) (tgt := 190) 18 hc4 hX (by decide +kernel) (by decide +kernel) (by decide +kernel) (by decide +kernel) (by decide +kernel) ?_
                refine J_aload_n (k0 := 0) (pc := 190) 2 hX (by decide +kernel) rfl rfl ?_
                refine J_aload_n (k0 := 1) (pc := 191) 3 hX (by decide +kernel) rfl rfl ?_
                refine J_iload (pc := 192) 1 hX (by decide +kernel) rfl ?_
                refine J_cVv (pc := 194) (idx := 91) [.ref (G.1 + f1), .int x7] hX (by decide +kernel) (mq mt_3 75 (by decide +kernel)) mv_Dy_die hL.1 rfl rfl (Nat.le_of_ble_eq_true rfl) (Nat.le_of_ble_eq_true rfl) (c_Dy_die hL hf1 x7 μ10) (fun μ16 => ?_)
                exact J_sub [2, 3, 4, 5] _ rfl (jDy_weather_197 hL hf1 hX v2 v3 hk4 μ16)
              · refine J_ite _ (fun hc5 => ?_) (fun hc5 => ?_)
                · refine J_tsIn (pc := 66) (dflt := 124) (lo := 14) (hi := 22) (offs := #[50, 124, 124, 124, 124, 124, 59, 69, 112]) (len := 50) (off := 124) (tgt := 190) 19 hc5 hX (by decide +kernel) (by decide +kernel) (by decide +kernel) (by decide +kernel) (by decide +kernel) ?_
                  refine J_aload_n (k0 := 0) (pc := 190) 2 hX (by decide +kernel) rfl rfl ?_
                  refine J_aload_n (k0 := 1) (pc := 191) 3 hX (by decide +kernel) rfl rfl ?_
                  refine J_iload (pc := 192) 1 hX (by decide +kernel) rfl ?_
                  refine J_cVv (pc := 194) (idx := 91) [.ref (G.1 + f1), .int x7] hX (by decide +kernel) (mq mt_3 75 (by decide +kernel)) mv_Dy_die hL.1 rfl rfl (Nat.le_of_ble_eq_true rfl) (Nat.le_of_ble_eq_true rfl) (c_Dy_die hL hf1 x7 μ10) (fun μ17 => ?_)
                  exact J_sub [2, 3, 4, 5] _ rfl (jDy_weather_197 hL hf1 hX v2 v3 hk4 μ17)
                · refine J_ite _ (fun hc6 => ?_) (fun hc6 => ?_)
                  · refine J_tsIn (pc := 66) (dflt := 124) (lo := 14) (hi := 22) (offs := #[50, 124, 124, 124, 124, 124, 59, 69, 112]) (len := 50) (off := 59) (tgt := 125) 20 hc6 hX (by decide +kernel) (by decide +kernel) (by decide +kernel) (by decide +kernel) (by decide +kernel) ?_
                    refine J_aload_n (k0 := 0) (pc := 125) 2 hX (by decide +kernel) rfl rfl ?_
                    refine J_aload_n (k0 := 1) (pc := 126) 3 hX (by decide +kernel) rfl rfl ?_
                    refine J_iload (pc := 127) 0 hX (by decide +kernel) rfl ?_
                    refine J_cVv (pc := 129) (idx := 81) [.ref (G.1 + f1), .int x9] hX (by decide +kernel) (mq mt_3 55 (by decide +kernel)) mv_Dy_cattleCome hL.1 rfl rfl (Nat.le_of_ble_eq_true rfl) (Nat.le_of_ble_eq_true rfl) (c_Dy_cattleCome hL hf1 x9 μ10) (fun μ18 => ?_)
                    refine J_goto (pc := 132) (off := 65) (tgt := 197) hX (by decide +kernel) (by decide +kernel) ?_
                    exact J_sub [2, 3, 4, 5] _ rfl (jDy_weather_197 hL hf1 hX v2 v3 hk4 μ18)
                  · refine J_ite _ (fun hc7 => ?_) (fun hc7 => ?_)
                    · refine J_tsIn (pc := 66) (dflt := 124) (lo := 14) (hi := 22) (offs := #[50, 124, 124, 124, 124, 124, 59, 69, 112]) (len := 50) (off := 69) (tgt := 135) 21 hc7 hX (by decide +kernel) (by decide +kernel) (by decide +kernel) (by decide +kernel) (by decide +kernel) ?_
                      refine J_iconst (pc := 135) (n := 0) (v := 0) hX (by decide +kernel) (by decide +kernel) ?_
                      refine J_istore (pc := 136) [(6, .int 0), (5, .int x9), (4, .int x7), (0, .ref (G.1 + a)), (1, .ref (G.1 + f1)), (2, .int v2), (3, .int v3)] hX (by decide +kernel) (by decide) rfl ?_
                      exact J_sub [3, 4, 5, 6, 0] _ rfl (jDy_weather_138 hL hf1 hX v3 hk4 FU v2 0 μ10)
                    · refine J_ite _ (fun hc8 => ?_) (fun hc8 => ?_)
                      · refine J_tsIn (pc := 66) (dflt := 124) (lo := 14) (hi := 22) (offs := #[50, 124, 124, 124, 124, 124, 59, 69, 112]) (len := 50) (off := 112) (tgt := 178) 22 hc8 hX (by decide +kernel) (by decide +kernel) (by decide +kernel) (by decide +kernel) (by decide +kernel) ?_
                        refine J_aload_n (k0 := 1) (pc := 178) 3 hX (by decide +kernel) rfl rfl ?_
                        refine J_iload (pc := 179) 1 hX (by decide +kernel) rfl ?_
                        refine J_iconst (pc := 181) (n := 0) (v := 0) hX (by decide +kernel) (by decide +kernel) ?_
                        refine J_iload (pc := 182) 0 hX (by decide +kernel) rfl ?_
                        refine J_cVv (pc := 184) (idx := 87) [.int x7, .int 0, .int x9] hX (by decide +kernel) (mq mt_3 24 (by decide +kernel)) mv_Fg_put hf1.1 rfl rfl (Nat.le_of_ble_eq_true rfl) (Nat.le_of_ble_eq_true rfl) (c_Fg_put hf1 x7 0 x9 μ10) (fun μ19 => ?_)
                        refine J_goto (pc := 187) (off := 10) (tgt := 197) hX (by decide +kernel) (by decide +kernel) ?_
                        exact J_sub [2, 3, 4, 5] _ rfl (jDy_weather_197 hL hf1 hX v2 v3 hk4 μ19)
                      · refine J_tsOut (pc := 66) (dflt := 124) (lo := 14) (hi := 22) (offs := #[50, 124, 124, 124, 124, 124, 59, 69, 112]) (len := 50) (tgt := 190) hX (by decide +kernel) (by simp only [i32_eq] at hc0 hc1 hc2 hc3 hc4 hc5 hc6 hc7 hc8; have q0 : ((14 : Int32)).toInt = 14 := (by decide +kernel) ; have q1 : ((15 : Int32)).toInt = 15 := (by decide +kernel) ; have q2 : ((16 : Int32)).toInt = 16 := (by decide +kernel) ; have q3 : ((17 : Int32)).toInt = 17 := (by decide +kernel) ; have q4 : ((18 : Int32)).toInt = 18 := (by decide +kernel) ; have q5 : ((19 : Int32)).toInt = 19 := (by decide +kernel) ; have q6 : ((20 : Int32)).toInt = 20 := (by decide +kernel) ; have q7 : ((21 : Int32)).toInt = 21 := (by decide +kernel) ; have q8 : ((22 : Int32)).toInt = 22 := (by decide +kernel); omega) (by decide +kernel) ?_
                        refine J_aload_n (k0 := 0) (pc := 190) 2 hX (by decide +kernel) rfl rfl ?_
                        refine J_aload_n (k0 := 1) (pc := 191) 3 hX (by decide +kernel) rfl rfl ?_
                        refine J_iload (pc := 192) 1 hX (by decide +kernel) rfl ?_
                        refine J_cVv (pc := 194) (idx := 91) [.ref (G.1 + f1), .int x7] hX (by decide +kernel) (mq mt_3 75 (by decide +kernel)) mv_Dy_die hL.1 rfl rfl (Nat.le_of_ble_eq_true rfl) (Nat.le_of_ble_eq_true rfl) (c_Dy_die hL hf1 x7 μ10) (fun μ20 => ?_)
                        exact J_sub [2, 3, 4, 5] _ rfl (jDy_weather_197 hL hf1 hX v2 v3 hk4 μ20)
    · refine J_goto (pc := 32) (off := 165) (tgt := 197) hX (by decide +kernel) (by decide +kernel) ?_
      exact J_sub [0, 1, 2, 3] _ rfl (jDy_weather_197 hL hf1 hX v2 v3 hk4 μ3)
set_option maxRecDepth 100000 in
set_option maxHeartbeats 4000000 in
theorem jDy_weather_4 {X : Cx} {l : Launch} {G : Gx} {y : Ly} {a pt f1 : Nat} (hL : LyDy y a pt) (hf1 : LyFg y f1 ) (hX : Ok X l G prog_2_method_4_code 7 (some .int) "SaltFigures$Days")    : ∀ (fu : Nat) (v2 : Int32) (v3 : Int32) (μ : Mu), J X G 7 6 y (emy y) rvI tpT 4 [(0, .ref (G.1 + a)), (1, .ref (G.1 + f1)), (2, .int v2), (3, .int v3)] [] (μ, y) (Dy_weather_4 a pt f1   fu v2 v3 μ) := by
  intro fu
  induction fu with
  | zero => intros; exact J_none
  | succ fu ih => intro v2 v3 μ; exact jDy_weather_4b hL hf1 hX   ih v2 v3 μ
set_option maxRecDepth 100000 in
set_option maxHeartbeats 4000000 in
theorem jDy_weather {X : Cx} {l : Launch} {G : Gx} {y : Ly} {a pt f1 : Nat} (hL : LyDy y a pt) (hf1 : LyFg y f1 ) (hX : Ok X l G prog_2_method_4_code 7 (some .int) "SaltFigures$Days")  (μ : Mu) : J X G 7 6 y (emy y) rvI tpT 0 [(0, .ref (G.1 + a)), (1, .ref (G.1 + f1))] [] (μ, y) (Dy_weather a pt f1  μ) := by
  unfold Dy_weather
  refine J_iconst (pc := 0) (n := 0) (v := 0) hX (by decide +kernel) (by decide +kernel) ?_
  refine J_istore_n (k0 := 2) (pc := 1) [(2, .int 0), (0, .ref (G.1 + a)), (1, .ref (G.1 + f1))] hX (by decide +kernel) rfl (by decide) rfl ?_
  refine J_iconst (pc := 2) (n := 0) (v := 0) hX (by decide +kernel) (by decide +kernel) ?_
  refine J_istore_n (k0 := 3) (pc := 3) [(3, .int 0), (2, .int 0), (0, .ref (G.1 + a)), (1, .ref (G.1 + f1))] hX (by decide +kernel) rfl (by decide) rfl ?_
  exact J_sub [2, 3, 1, 0] _ rfl (jDy_weather_4 hL hf1 hX FU 0 0 μ)
set_option maxRecDepth 100000 in
set_option maxHeartbeats 4000000 in
theorem c_Dy_weather {l : Launch} {G : Gx} {y : Ly} {a pt f1 : Nat} (hL : LyDy y a pt) (hf1 : LyFg y f1 )  (μ : Mu) : Cn l G ⟨"SaltFigures$Days", "weather", "(LSaltFigures$Figures;)I"⟩ prog_2_method_4_code 7 (some .int) 6 [.ref (G.1 + a), .ref (G.1 + f1)] (μ, y) (emy y) rvI tpT (Dy_weather a pt f1  μ) := cn_of (by decide +kernel) (Nat.le_of_ble_eq_true rfl) (fun _ _ _ => ⟨List.prefix_refl _, trivial⟩) (fun X hX _ => jDy_weather hL hf1 hX  μ)

def Fg_draw (a : Nat) (v1 : Int32) (μ : Mu) : Option (Int32 × Mu) := gF μ a 8 (fun x1 => pF μ a 8 ((1664525 * x1) + 1013904223) (fun μ2 => (if v1 ≤ 0 then some (0, μ2) else gF μ2 a 8 (fun x3 => nz v1 (some (jrem (jushr x3 8) v1, μ2))))))
set_option maxRecDepth 100000 in
set_option maxHeartbeats 4000000 in
theorem jFg_draw {X : Cx} {l : Launch} {G : Gx} {y : Ly} {a : Nat} (hL : LyFg y a ) (hX : Ok X l G prog_3_method_20_code 2 (some .int) "SaltFigures$Figures") (v1 : Int32) (μ : Mu) : J X G 2 1 y (emy y) rvI tpT 0 [(0, .ref (G.1 + a)), (1, .int v1)] [] (μ, y) (Fg_draw a v1 μ) := by
  unfold Fg_draw
  refine J_aload_n (k0 := 0) (pc := 0) 0 hX (by decide +kernel) rfl rfl ?_
  refine J_ldc (pc := 1) (idx := 88) (v := 1664525) hX (by decide +kernel) (mq mt_3 83 (by decide +kernel)) ?_
  refine J_aload_n (k0 := 0) (pc := 3) 0 hX (by decide +kernel) rfl rfl ?_
  refine J_gF (pc := 4) hX (by decide +kernel) fl_Fg_50 hL.1 rfl (fun x1 => ?_)
  refine J_imul (pc := 7) hX (by decide +kernel) ?_
  refine J_ldc (pc := 8) (idx := 89) (v := 1013904223) hX (by decide +kernel) (mq mt_3 84 (by decide +kernel)) ?_
  refine J_iadd (pc := 10) hX (by decide +kernel) ?_
  refine J_pF (pc := 11) hX (by decide +kernel) fl_Fg_50 hL.1 rfl (fun μ2 => ?_)
  refine J_iload_n (k0 := 1) (pc := 14) 1 hX (by decide +kernel) rfl rfl ?_
  refine J_if_le (pc := 15) (off := 15) (tgt := 30) hX (by decide +kernel) (by decide +kernel) (fun _ => ?_) (fun _ => ?_)
  · refine J_iconst (pc := 30) (n := 0) (v := 0) hX (by decide +kernel) (by decide +kernel) ?_
    exact J_iret (pc := 31) hX (by decide +kernel) rfl trivial
  · refine J_aload_n (k0 := 0) (pc := 18) 0 hX (by decide +kernel) rfl rfl ?_
    refine J_gF (pc := 19) hX (by decide +kernel) fl_Fg_50 hL.1 rfl (fun x3 => ?_)
    refine J_bipush (pc := 22) (n := 8) (v := 8) hX (by decide +kernel) (by decide +kernel) ?_
    refine J_iushr (pc := 24) hX (by decide +kernel) ?_
    refine J_iload_n (k0 := 1) (pc := 25) 1 hX (by decide +kernel) rfl rfl ?_
    refine J_irem (pc := 26) hX (by decide +kernel) (fun _ => ?_)
    refine J_goto (pc := 27) (off := 4) (tgt := 31) hX (by decide +kernel) (by decide +kernel) ?_
    exact J_iret (pc := 31) hX (by decide +kernel) rfl trivial
set_option maxRecDepth 100000 in
set_option maxHeartbeats 4000000 in
theorem c_Fg_draw {l : Launch} {G : Gx} {y : Ly} {a : Nat} (hL : LyFg y a ) (v1 : Int32) (μ : Mu) : Cn l G ⟨"SaltFigures$Figures", "draw", "(I)I"⟩ prog_3_method_20_code 2 (some .int) 1 [.ref (G.1 + a), .int v1] (μ, y) (emy y) rvI tpT (Fg_draw a v1 μ) := cn_of (by decide +kernel) (Nat.le_of_ble_eq_true rfl) (fun _ _ _ => ⟨List.prefix_refl _, trivial⟩) (fun X hX _ => jFg_draw hL hX v1 μ)

def Dy_happens (f0 : Nat) (v1 : Int32) (μ : Mu) : Option (Int32 × Mu) := gF μ f0 0 (fun x1 => (if x1 = 0 then (if v1 ≤ 0 then some (0, μ) else cl (Fg_draw f0 1000 μ) (fun x3 μ2 => (if v1 ≤ x3 then some (0, μ2) else some (1, μ2)))) else (if v1 < 500 then some (0, μ) else some (1, μ))))
set_option maxRecDepth 100000 in
set_option maxHeartbeats 4000000 in
theorem jDy_happens {X : Cx} {l : Launch} {G : Gx} {y : Ly} {f0 : Nat} (hf0 : LyFg y f0 ) (hX : Ok X l G prog_2_method_3_code 2 (some .boolean) "SaltFigures$Days") (v1 : Int32) (μ : Mu) : J X G 2 2 y (emy y) rvI tpT 0 [(0, .ref (G.1 + f0)), (1, .int v1)] [] (μ, y) (Dy_happens f0 v1 μ) := by
  unfold Dy_happens
  refine J_aload_n (k0 := 0) (pc := 0) 0 hX (by decide +kernel) rfl rfl ?_
  refine J_gF (pc := 1) hX (by decide +kernel) fl_Dy_61 hf0.1 rfl (fun x1 => ?_)
  refine J_if_eq (pc := 4) (off := 16) (tgt := 20) hX (by decide +kernel) (by decide +kernel) (fun _ => ?_) (fun _ => ?_)
  · refine J_iload_n (k0 := 1) (pc := 20) 1 hX (by decide +kernel) rfl rfl ?_
    refine J_if_le (pc := 21) (off := 18) (tgt := 39) hX (by decide +kernel) (by decide +kernel) (fun _ => ?_) (fun _ => ?_)
    · refine J_iconst (pc := 39) (n := 0) (v := 0) hX (by decide +kernel) (by decide +kernel) ?_
      exact J_zret (pc := 40) hX (by decide +kernel) rfl (by decide +kernel) trivial
    · refine J_aload_n (k0 := 0) (pc := 24) 0 hX (by decide +kernel) rfl rfl ?_
      refine J_sipush (pc := 25) (n := 1000) (v := 1000) hX (by decide +kernel) (by decide +kernel) ?_
      refine J_cVi (pc := 28) (idx := 65) [.int 1000] hX (by decide +kernel) (mq mt_3 79 (by decide +kernel)) mv_Fg_draw hf0.1 rfl rfl (Nat.le_of_ble_eq_true rfl) (Nat.le_of_ble_eq_true rfl) (c_Fg_draw hf0 1000 μ) (fun x3 μ2 => ?_)
      refine J_iload_n (k0 := 1) (pc := 31) 1 hX (by decide +kernel) rfl rfl ?_
      refine J_icmp_ge (pc := 32) (off := 7) (tgt := 39) hX (by decide +kernel) (by decide +kernel) (fun _ => ?_) (fun _ => ?_)
      · refine J_iconst (pc := 39) (n := 0) (v := 0) hX (by decide +kernel) (by decide +kernel) ?_
        exact J_zret (pc := 40) hX (by decide +kernel) rfl (by decide +kernel) trivial
      · refine J_iconst (pc := 35) (n := 1) (v := 1) hX (by decide +kernel) (by decide +kernel) ?_
        refine J_goto (pc := 36) (off := 4) (tgt := 40) hX (by decide +kernel) (by decide +kernel) ?_
        exact J_zret (pc := 40) hX (by decide +kernel) rfl (by decide +kernel) trivial
  · refine J_iload_n (k0 := 1) (pc := 7) 1 hX (by decide +kernel) rfl rfl ?_
    refine J_sipush (pc := 8) (n := 500) (v := 500) hX (by decide +kernel) (by decide +kernel) ?_
    refine J_icmp_lt (pc := 11) (off := 7) (tgt := 18) hX (by decide +kernel) (by decide +kernel) (fun _ => ?_) (fun _ => ?_)
    · refine J_iconst (pc := 18) (n := 0) (v := 0) hX (by decide +kernel) (by decide +kernel) ?_
      exact J_zret (pc := 19) hX (by decide +kernel) rfl (by decide +kernel) trivial
    · refine J_iconst (pc := 14) (n := 1) (v := 1) hX (by decide +kernel) (by decide +kernel) ?_
      refine J_goto (pc := 15) (off := 4) (tgt := 19) hX (by decide +kernel) (by decide +kernel) ?_
      exact J_zret (pc := 19) hX (by decide +kernel) rfl (by decide +kernel) trivial
set_option maxRecDepth 100000 in
set_option maxHeartbeats 4000000 in
theorem c_Dy_happens {l : Launch} {G : Gx} {y : Ly} {f0 : Nat} (hf0 : LyFg y f0 ) (v1 : Int32) (μ : Mu) : Cn l G ⟨"SaltFigures$Days", "happens", "(LSaltFigures$Figures;I)Z"⟩ prog_2_method_3_code 2 (some .boolean) 2 [.ref (G.1 + f0), .int v1] (μ, y) (emy y) rvI tpT (Dy_happens f0 v1 μ) := cn_of (by decide +kernel) (Nat.le_of_ble_eq_true rfl) (fun _ _ _ => ⟨List.prefix_refl _, trivial⟩) (fun X hX _ => jDy_happens hf0 hX v1 μ)

def Dy_runOff_103 (a pt f1 : Nat)   (v3 : Int32) (v4 : Int32)  (μ : Mu) : Option (Unit × Mu) := cl (Pt_note pt f1 1 v3 v4 μ) (fun _ μ1 => some ((), μ1))
def Dy_runOff (a pt f1 : Nat) (v2 : Int32) (μ : Mu) : Option (Unit × Mu) := cl (Fg_holder f1 v2 μ) (fun x2 μ1 => (if x2 = ((-1)) then some ((), μ1) else cl (Fg_get f1 x2 1 μ1) (fun x4 μ3 => (if 0 < x4 then cl (Dy_asks a pt f1 x2 3 μ3) (fun x6 μ5 => (if 0 < x6 then cl (Fg_holder f1 (v2 + 1) μ5) (fun x8 μ7 => cl (Fg_add f1 x2 1 (-x6) μ7) (fun _ μ9 => gF μ9 f1 5 (fun x10 => pF μ9 f1 5 (x10 + (x6 - (x6 / 2))) (fun μ11 => (if x8 = ((-1)) then gF μ11 f1 5 (fun x14 => pF μ11 f1 5 (x14 + (x6 / 2)) (fun μ15 => Dy_runOff_103 a pt f1 x2 x6 μ15)) else cl (Fg_pour f1 x8 (x6 / 2) μ11) (fun x13 μ12 => Dy_runOff_103 a pt f1 x2 x6 μ12)))))) else some ((), μ5))) else some ((), μ3)))))
set_option maxRecDepth 100000 in
set_option maxHeartbeats 4000000 in
theorem jDy_runOff_103 {X : Cx} {l : Launch} {G : Gx} {y : Ly} {a pt f1 : Nat} (hL : LyDy y a pt) (hf1 : LyFg y f1 ) (hX : Ok X l G prog_2_method_10_code 7 none "SaltFigures$Days")  (v3 : Int32) (v4 : Int32)    (μ : Mu) : J X G 7 5 y (emy y) rvV tpT 103 [(0, .ref (G.1 + a)), (1, .ref (G.1 + f1)), (3, .int v3), (4, .int v4)] [] (μ, y) (Dy_runOff_103 a pt f1   v3 v4  μ) := by
  unfold Dy_runOff_103
  refine J_aload_n (k0 := 0) (pc := 103) 0 hX (by decide +kernel) rfl rfl ?_
  refine J_gr (pc := 104) hX (by decide +kernel) fl_Dy_18 hL.1 rfl hL.2.1.1 ?_
  refine J_aload_n (k0 := 1) (pc := 107) 1 hX (by decide +kernel) rfl rfl ?_
  refine J_iconst (pc := 108) (n := 1) (v := 1) hX (by decide +kernel) (by decide +kernel) ?_
  refine J_iload_n (k0 := 3) (pc := 109) 2 hX (by decide +kernel) rfl rfl ?_
  refine J_iload (pc := 110) 3 hX (by decide +kernel) rfl ?_
  refine J_cVv (pc := 112) (idx := 100) [.ref (G.1 + f1), .int 1, .int v3, .int v4] hX (by decide +kernel) (mq mt_3 8 (by decide +kernel)) mv_Pt_note hL.2.1.2.1 rfl rfl (Nat.le_of_ble_eq_true rfl) (Nat.le_of_ble_eq_true rfl) (c_Pt_note hL.2.1.2 hf1 1 v3 v4 μ) (fun μ1 => ?_)
  exact J_vret (pc := 115) hX (by decide +kernel) rfl trivial
set_option maxRecDepth 100000 in
set_option maxHeartbeats 4000000 in
theorem jDy_runOff {X : Cx} {l : Launch} {G : Gx} {y : Ly} {a pt f1 : Nat} (hL : LyDy y a pt) (hf1 : LyFg y f1 ) (hX : Ok X l G prog_2_method_10_code 7 none "SaltFigures$Days") (v2 : Int32) (μ : Mu) : J X G 7 5 y (emy y) rvV tpT 0 [(0, .ref (G.1 + a)), (1, .ref (G.1 + f1)), (2, .int v2)] [] (μ, y) (Dy_runOff a pt f1 v2 μ) := by
  unfold Dy_runOff
  refine J_aload_n (k0 := 1) (pc := 0) 1 hX (by decide +kernel) rfl rfl ?_
  refine J_iload_n (k0 := 2) (pc := 1) 2 hX (by decide +kernel) rfl rfl ?_
  refine J_cVi (pc := 2) (idx := 133) [.int v2] hX (by decide +kernel) (mq mt_2 220 (by decide +kernel)) mv_Fg_holder hf1.1 rfl rfl (Nat.le_of_ble_eq_true rfl) (Nat.le_of_ble_eq_true rfl) (c_Fg_holder hf1 v2 μ) (fun x2 μ1 => ?_)
  refine J_istore_n (k0 := 3) (pc := 5) [(3, .int x2), (0, .ref (G.1 + a)), (1, .ref (G.1 + f1)), (2, .int v2)] hX (by decide +kernel) rfl (by decide) rfl ?_
  refine J_iload_n (k0 := 3) (pc := 6) 0 hX (by decide +kernel) rfl rfl ?_
  refine J_iconst (pc := 7) (n := -1) (v := (-1)) hX (by decide +kernel) (by decide +kernel) ?_
  refine J_icmp_eq (pc := 8) (off := 12) (tgt := 20) hX (by decide +kernel) (by decide +kernel) (fun _ => ?_) (fun _ => ?_)
  · exact J_vret (pc := 20) hX (by decide +kernel) rfl trivial
  · refine J_aload_n (k0 := 1) (pc := 11) 2 hX (by decide +kernel) rfl rfl ?_
    refine J_iload_n (k0 := 3) (pc := 12) 0 hX (by decide +kernel) rfl rfl ?_
    refine J_iconst (pc := 13) (n := 1) (v := 1) hX (by decide +kernel) (by decide +kernel) ?_
    refine J_cVi (pc := 14) (idx := 84) [.int x2, .int 1] hX (by decide +kernel) (mq mt_2 219 (by decide +kernel)) mv_Fg_get hf1.1 rfl rfl (Nat.le_of_ble_eq_true rfl) (Nat.le_of_ble_eq_true rfl) (c_Fg_get hf1 x2 1 μ1) (fun x4 μ3 => ?_)
    refine J_if_gt (pc := 17) (off := 4) (tgt := 21) hX (by decide +kernel) (by decide +kernel) (fun _ => ?_) (fun _ => ?_)
    · refine J_aload_n (k0 := 0) (pc := 21) 1 hX (by decide +kernel) rfl rfl ?_
      refine J_aload_n (k0 := 1) (pc := 22) 2 hX (by decide +kernel) rfl rfl ?_
      refine J_iload_n (k0 := 3) (pc := 23) 0 hX (by decide +kernel) rfl rfl ?_
      refine J_iconst (pc := 24) (n := 3) (v := 3) hX (by decide +kernel) (by decide +kernel) ?_
      refine J_cVi (pc := 25) (idx := 43) [.ref (G.1 + f1), .int x2, .int 3] hX (by decide +kernel) (mq mt_2 211 (by decide +kernel)) mv_Dy_asks hL.1 rfl rfl (Nat.le_of_ble_eq_true rfl) (Nat.le_of_ble_eq_true rfl) (c_Dy_asks hL hf1 x2 3 μ3) (fun x6 μ5 => ?_)
      refine J_istore (pc := 28) [(4, .int x6), (3, .int x2), (0, .ref (G.1 + a)), (1, .ref (G.1 + f1)), (2, .int v2)] hX (by decide +kernel) (by decide) rfl ?_
      refine J_iload (pc := 30) 0 hX (by decide +kernel) rfl ?_
      refine J_if_gt (pc := 32) (off := 4) (tgt := 36) hX (by decide +kernel) (by decide +kernel) (fun _ => ?_) (fun _ => ?_)
      · refine J_iload (pc := 36) 0 hX (by decide +kernel) rfl ?_
        refine J_iconst (pc := 38) (n := 2) (v := 2) hX (by decide +kernel) (by decide +kernel) ?_
        refine J_idivK (pc := 39) hX (by decide +kernel) (by decide +kernel) ?_
        refine J_istore (pc := 40) [(5, .int (x6 / 2)), (4, .int x6), (3, .int x2), (0, .ref (G.1 + a)), (1, .ref (G.1 + f1)), (2, .int v2)] hX (by decide +kernel) (by decide) rfl ?_
        refine J_aload_n (k0 := 1) (pc := 42) 4 hX (by decide +kernel) rfl rfl ?_
        refine J_iload_n (k0 := 2) (pc := 43) 5 hX (by decide +kernel) rfl rfl ?_
        refine J_iconst (pc := 44) (n := 1) (v := 1) hX (by decide +kernel) (by decide +kernel) ?_
        refine J_iadd (pc := 45) hX (by decide +kernel) ?_
        refine J_cVi (pc := 46) (idx := 133) [.int (v2 + 1)] hX (by decide +kernel) (mq mt_2 220 (by decide +kernel)) mv_Fg_holder hf1.1 rfl rfl (Nat.le_of_ble_eq_true rfl) (Nat.le_of_ble_eq_true rfl) (c_Fg_holder hf1 (v2 + 1) μ5) (fun x8 μ7 => ?_)
        refine J_istore (pc := 49) [(6, .int x8), (5, .int (x6 / 2)), (4, .int x6), (3, .int x2), (0, .ref (G.1 + a)), (1, .ref (G.1 + f1)), (2, .int v2)] hX (by decide +kernel) (by decide) rfl ?_
        refine J_aload_n (k0 := 1) (pc := 51) 5 hX (by decide +kernel) rfl rfl ?_
        refine J_iload_n (k0 := 3) (pc := 52) 3 hX (by decide +kernel) rfl rfl ?_
        refine J_iconst (pc := 53) (n := 1) (v := 1) hX (by decide +kernel) (by decide +kernel) ?_
        refine J_iload (pc := 54) 2 hX (by decide +kernel) rfl ?_
        refine J_ineg (pc := 56) hX (by decide +kernel) ?_
        refine J_cVv (pc := 57) (idx := 94) [.int x2, .int 1, .int (-x6)] hX (by decide +kernel) (mq mt_2 207 (by decide +kernel)) mv_Fg_add hf1.1 rfl rfl (Nat.le_of_ble_eq_true rfl) (Nat.le_of_ble_eq_true rfl) (c_Fg_add hf1 x2 1 (-x6) μ7) (fun μ9 => ?_)
        refine J_aload_n (k0 := 1) (pc := 60) 5 hX (by decide +kernel) rfl rfl ?_
        refine J_dup (pc := 61) hX (by decide +kernel) rfl ?_
        refine J_gF (pc := 62) hX (by decide +kernel) fl_Dy_136 hf1.1 rfl (fun x10 => ?_)
        refine J_iload (pc := 65) 2 hX (by decide +kernel) rfl ?_
        refine J_iload (pc := 67) 1 hX (by decide +kernel) rfl ?_
        refine J_isub (pc := 69) hX (by decide +kernel) ?_
        refine J_iadd (pc := 70) hX (by decide +kernel) ?_
        refine J_pF (pc := 71) hX (by decide +kernel) fl_Dy_136 hf1.1 rfl (fun μ11 => ?_)
        refine J_iload (pc := 74) 0 hX (by decide +kernel) rfl ?_
        refine J_iconst (pc := 76) (n := -1) (v := (-1)) hX (by decide +kernel) (by decide +kernel) ?_
        refine J_icmp_ne (pc := 77) (off := 17) (tgt := 94) hX (by decide +kernel) (by decide +kernel) (fun _ => ?_) (fun _ => ?_)
        · refine J_aload_n (k0 := 1) (pc := 94) 5 hX (by decide +kernel) rfl rfl ?_
          refine J_iload (pc := 95) 0 hX (by decide +kernel) rfl ?_
          refine J_iload (pc := 97) 1 hX (by decide +kernel) rfl ?_
          refine J_cVi (pc := 99) (idx := 97) [.int x8, .int (x6 / 2)] hX (by decide +kernel) (mq mt_3 2 (by decide +kernel)) mv_Fg_pour hf1.1 rfl rfl (Nat.le_of_ble_eq_true rfl) (Nat.le_of_ble_eq_true rfl) (c_Fg_pour hf1 x8 (x6 / 2) μ11) (fun x13 μ12 => ?_)
          refine J_pop (pc := 102) hX (by decide +kernel) rfl ?_
          exact J_sub [4, 5, 3, 2] _ rfl (jDy_runOff_103 hL hf1 hX x2 x6 μ12)
        · refine J_aload_n (k0 := 1) (pc := 80) 5 hX (by decide +kernel) rfl rfl ?_
          refine J_dup (pc := 81) hX (by decide +kernel) rfl ?_
          refine J_gF (pc := 82) hX (by decide +kernel) fl_Dy_136 hf1.1 rfl (fun x14 => ?_)
          refine J_iload (pc := 85) 1 hX (by decide +kernel) rfl ?_
          refine J_iadd (pc := 87) hX (by decide +kernel) ?_
          refine J_pF (pc := 88) hX (by decide +kernel) fl_Dy_136 hf1.1 rfl (fun μ15 => ?_)
          refine J_goto (pc := 91) (off := 12) (tgt := 103) hX (by decide +kernel) (by decide +kernel) ?_
          exact J_sub [4, 5, 3, 2] _ rfl (jDy_runOff_103 hL hf1 hX x2 x6 μ15)
      · exact J_vret (pc := 35) hX (by decide +kernel) rfl trivial
    · exact J_vret (pc := 20) hX (by decide +kernel) rfl trivial
set_option maxRecDepth 100000 in
set_option maxHeartbeats 4000000 in
theorem c_Dy_runOff {l : Launch} {G : Gx} {y : Ly} {a pt f1 : Nat} (hL : LyDy y a pt) (hf1 : LyFg y f1 ) (v2 : Int32) (μ : Mu) : Cn l G ⟨"SaltFigures$Days", "runOff", "(LSaltFigures$Figures;I)V"⟩ prog_2_method_10_code 7 none 5 [.ref (G.1 + a), .ref (G.1 + f1), .int v2] (μ, y) (emy y) rvV tpT (Dy_runOff a pt f1 v2 μ) := cn_of (by decide +kernel) (Nat.le_of_ble_eq_true rfl) (fun _ _ _ => ⟨List.prefix_refl _, trivial⟩) (fun X hX _ => jDy_runOff hL hf1 hX v2 μ)

def Dy_goBy_55b (a pt f1 : Nat)  (kb55 : Int32 → Mu → Option (Int32 × Mu)) (v2 : Int32) (v3 : Int32)  (μ : Mu) : Option (Int32 × Mu) := (if 16 ≤ v3 then gF μ f1 7 (fun x1 => pF μ f1 7 (x1 + 1) (fun μ2 => some (v2, μ2))) else cl (Dy_runOff a pt f1 v3 μ) (fun _ μ3 => kb55 (v3 + 1) μ3))
def Dy_goBy_55 (a pt f1 : Nat)  (v2 : Int32) (fu : Nat) : Int32 → Mu → Option (Int32 × Mu) := lp (fun kb => Dy_goBy_55b a pt f1  kb v2) (fun _ _ => none) fu
def Dy_goBy_47 (a pt f1 : Nat) (kb8 : Int32 → Int32 → Mu → Option (Int32 × Mu))  (v2 : Int32) (v3 : Int32)  (μ : Mu) : Option (Int32 × Mu) := kb8 v2 (v3 + 1) μ
def Dy_goBy_8b (a pt f1 : Nat)  (kb8 : Int32 → Int32 → Mu → Option (Int32 × Mu))  (v2 : Int32) (v3 : Int32)  (μ : Mu) : Option (Int32 × Mu) := gF μ f1 3 (fun x1 => (if x1 ≤ v3 then Dy_goBy_55 a pt f1 v2 FU 0 μ else cl (Fg_isAlive f1 v3 μ) (fun x3 μ2 => (if x3 = 0 then Dy_goBy_47 a pt f1 kb8 v2 v3 μ2 else cl (Dy_asks a pt f1 v3 1 μ2) (fun x5 μ4 => cl (Dy_happens f1 x5 μ4) (fun x7 μ6 => (if x7 = 0 then Dy_goBy_47 a pt f1 kb8 v2 v3 μ6 else cl (Dy_spill a pt f1 v3 μ6) (fun _ μ8 => Dy_goBy_47 a pt f1 kb8 (v2 + 1) v3 μ8))))))))
def Dy_goBy_8 (a pt f1 : Nat)   (fu : Nat) : Int32 → Int32 → Mu → Option (Int32 × Mu) := lp (fun kb => Dy_goBy_8b a pt f1  kb ) (fun _ _ _ => none) fu
def Dy_goBy (a pt f1 : Nat)  (μ : Mu) : Option (Int32 × Mu) := cl (Dy_weather a pt f1 μ) (fun x2 μ1 => Dy_goBy_8 a pt f1 FU x2 0 μ1)
set_option maxRecDepth 100000 in
set_option maxHeartbeats 4000000 in
theorem jDy_goBy_55b {X : Cx} {l : Launch} {G : Gx} {y : Ly} {a pt f1 : Nat} (hL : LyDy y a pt) (hf1 : LyFg y f1 ) (hX : Ok X l G prog_2_method_2_code 4 (some .int) "SaltFigures$Days") (v2 : Int32)  {kb55 : Int32 → Mu → Option (Int32 × Mu)}  (hk55 : ∀ (v3 : Int32) (μ : Mu), J X G 4 7 y (emy y) rvI tpT 55 [(0, .ref (G.1 + a)), (1, .ref (G.1 + f1)), (2, .int v2), (3, .int v3)] [] (μ, y) (kb55 v3 μ)) (v3 : Int32)  (μ : Mu) : J X G 4 7 y (emy y) rvI tpT 55 [(0, .ref (G.1 + a)), (1, .ref (G.1 + f1)), (2, .int v2), (3, .int v3)] [] (μ, y) (Dy_goBy_55b a pt f1  kb55 v2 v3  μ) := by
  unfold Dy_goBy_55b
  refine J_iload_n (k0 := 3) (pc := 55) 3 hX (by decide +kernel) rfl rfl ?_
  refine J_bipush (pc := 56) (n := 16) (v := 16) hX (by decide +kernel) (by decide +kernel) ?_
  refine J_icmp_ge (pc := 58) (off := 15) (tgt := 73) hX (by decide +kernel) (by decide +kernel) (fun _ => ?_) (fun _ => ?_)
  · refine J_aload_n (k0 := 1) (pc := 73) 1 hX (by decide +kernel) rfl rfl ?_
    refine J_dup (pc := 74) hX (by decide +kernel) rfl ?_
    refine J_gF (pc := 75) hX (by decide +kernel) fl_Dy_58 hf1.1 rfl (fun x1 => ?_)
    refine J_iconst (pc := 78) (n := 1) (v := 1) hX (by decide +kernel) (by decide +kernel) ?_
    refine J_iadd (pc := 79) hX (by decide +kernel) ?_
    refine J_pF (pc := 80) hX (by decide +kernel) fl_Dy_58 hf1.1 rfl (fun μ2 => ?_)
    refine J_iload_n (k0 := 2) (pc := 83) 2 hX (by decide +kernel) rfl rfl ?_
    exact J_iret (pc := 84) hX (by decide +kernel) rfl trivial
  · refine J_aload_n (k0 := 0) (pc := 61) 0 hX (by decide +kernel) rfl rfl ?_
    refine J_aload_n (k0 := 1) (pc := 62) 1 hX (by decide +kernel) rfl rfl ?_
    refine J_iload_n (k0 := 3) (pc := 63) 3 hX (by decide +kernel) rfl rfl ?_
    refine J_cVv (pc := 64) (idx := 55) [.ref (G.1 + f1), .int v3] hX (by decide +kernel) (mq mt_3 85 (by decide +kernel)) mv_Dy_runOff hL.1 rfl rfl (Nat.le_of_ble_eq_true rfl) (Nat.le_of_ble_eq_true rfl) (c_Dy_runOff hL hf1 v3 μ) (fun μ3 => ?_)
    refine J_iinc (pc := 67) (n := 1) 3 [(3, .int (v3 + 1)), (0, .ref (G.1 + a)), (1, .ref (G.1 + f1)), (2, .int v2)] hX (by decide +kernel) rfl rfl (by decide) rfl ?_
    refine J_goto (pc := 70) (off := -15) (tgt := 55) hX (by decide +kernel) (by decide +kernel) ?_
    exact J_sub [1, 2, 3, 0] _ rfl (hk55 (v3 + 1) μ3)
set_option maxRecDepth 100000 in
set_option maxHeartbeats 4000000 in
theorem jDy_goBy_55 {X : Cx} {l : Launch} {G : Gx} {y : Ly} {a pt f1 : Nat} (hL : LyDy y a pt) (hf1 : LyFg y f1 ) (hX : Ok X l G prog_2_method_2_code 4 (some .int) "SaltFigures$Days") (v2 : Int32)   : ∀ (fu : Nat) (v3 : Int32) (μ : Mu), J X G 4 7 y (emy y) rvI tpT 55 [(0, .ref (G.1 + a)), (1, .ref (G.1 + f1)), (2, .int v2), (3, .int v3)] [] (μ, y) (Dy_goBy_55 a pt f1  v2 fu v3 μ) := by
  intro fu
  induction fu with
  | zero => intros; exact J_none
  | succ fu ih => intro v3 μ; exact jDy_goBy_55b hL hf1 hX v2  ih v3 μ
set_option maxRecDepth 100000 in
set_option maxHeartbeats 4000000 in
theorem jDy_goBy_47 {X : Cx} {l : Launch} {G : Gx} {y : Ly} {a pt f1 : Nat} (hL : LyDy y a pt) (hf1 : LyFg y f1 ) (hX : Ok X l G prog_2_method_2_code 4 (some .int) "SaltFigures$Days")  (v2 : Int32) (v3 : Int32)  {kb8 : Int32 → Int32 → Mu → Option (Int32 × Mu)} (hk8 : ∀ (v2 : Int32) (v3 : Int32) (μ : Mu), J X G 4 7 y (emy y) rvI tpT 8 [(0, .ref (G.1 + a)), (1, .ref (G.1 + f1)), (2, .int v2), (3, .int v3)] [] (μ, y) (kb8 v2 v3 μ)) (μ : Mu) : J X G 4 7 y (emy y) rvI tpT 47 [(0, .ref (G.1 + a)), (1, .ref (G.1 + f1)), (2, .int v2), (3, .int v3)] [] (μ, y) (Dy_goBy_47 a pt f1 kb8  v2 v3  μ) := by
  unfold Dy_goBy_47
  refine J_iinc (pc := 47) (n := 1) 3 [(3, .int (v3 + 1)), (0, .ref (G.1 + a)), (1, .ref (G.1 + f1)), (2, .int v2)] hX (by decide +kernel) rfl rfl (by decide) rfl ?_
  refine J_goto (pc := 50) (off := -42) (tgt := 8) hX (by decide +kernel) (by decide +kernel) ?_
  exact J_sub [1, 2, 3, 0] _ rfl (hk8 v2 (v3 + 1) μ)
set_option maxRecDepth 100000 in
set_option maxHeartbeats 4000000 in
theorem jDy_goBy_8b {X : Cx} {l : Launch} {G : Gx} {y : Ly} {a pt f1 : Nat} (hL : LyDy y a pt) (hf1 : LyFg y f1 ) (hX : Ok X l G prog_2_method_2_code 4 (some .int) "SaltFigures$Days")   {kb8 : Int32 → Int32 → Mu → Option (Int32 × Mu)}  (hk8 : ∀ (v2 : Int32) (v3 : Int32) (μ : Mu), J X G 4 7 y (emy y) rvI tpT 8 [(0, .ref (G.1 + a)), (1, .ref (G.1 + f1)), (2, .int v2), (3, .int v3)] [] (μ, y) (kb8 v2 v3 μ)) (v2 : Int32) (v3 : Int32)  (μ : Mu) : J X G 4 7 y (emy y) rvI tpT 8 [(0, .ref (G.1 + a)), (1, .ref (G.1 + f1)), (2, .int v2), (3, .int v3)] [] (μ, y) (Dy_goBy_8b a pt f1  kb8  v2 v3  μ) := by
  unfold Dy_goBy_8b
  refine J_iload_n (k0 := 3) (pc := 8) 3 hX (by decide +kernel) rfl rfl ?_
  refine J_aload_n (k0 := 1) (pc := 9) 1 hX (by decide +kernel) rfl rfl ?_
  refine J_gF (pc := 10) hX (by decide +kernel) fl_Dy_33 hf1.1 rfl (fun x1 => ?_)
  refine J_icmp_ge (pc := 13) (off := 40) (tgt := 53) hX (by decide +kernel) (by decide +kernel) (fun _ => ?_) (fun _ => ?_)
  · refine J_iconst (pc := 53) (n := 0) (v := 0) hX (by decide +kernel) (by decide +kernel) ?_
    refine J_istore_n (k0 := 3) (pc := 54) [(3, .int 0), (0, .ref (G.1 + a)), (1, .ref (G.1 + f1)), (2, .int v2)] hX (by decide +kernel) rfl (by decide) rfl ?_
    exact J_sub [1, 2, 3, 0] _ rfl (jDy_goBy_55 hL hf1 hX v2 FU 0 μ)
  · refine J_aload_n (k0 := 1) (pc := 16) 1 hX (by decide +kernel) rfl rfl ?_
    refine J_iload_n (k0 := 3) (pc := 17) 3 hX (by decide +kernel) rfl rfl ?_
    refine J_cVi (pc := 18) (idx := 39) [.int v3] hX (by decide +kernel) (mq mt_3 29 (by decide +kernel)) mv_Fg_isAlive hf1.1 rfl rfl (Nat.le_of_ble_eq_true rfl) (Nat.le_of_ble_eq_true rfl) (c_Fg_isAlive hf1 v3 μ) (fun x3 μ2 => ?_)
    refine J_if_eq (pc := 21) (off := 26) (tgt := 47) hX (by decide +kernel) (by decide +kernel) (fun _ => ?_) (fun _ => ?_)
    · exact J_sub [0, 1, 2, 3] _ rfl (jDy_goBy_47 hL hf1 hX v2 v3 hk8 μ2)
    · refine J_aload_n (k0 := 1) (pc := 24) 1 hX (by decide +kernel) rfl rfl ?_
      refine J_aload_n (k0 := 0) (pc := 25) 0 hX (by decide +kernel) rfl rfl ?_
      refine J_aload_n (k0 := 1) (pc := 26) 1 hX (by decide +kernel) rfl rfl ?_
      refine J_iload_n (k0 := 3) (pc := 27) 3 hX (by decide +kernel) rfl rfl ?_
      refine J_iconst (pc := 28) (n := 1) (v := 1) hX (by decide +kernel) (by decide +kernel) ?_
      refine J_cVi (pc := 29) (idx := 43) [.ref (G.1 + f1), .int v3, .int 1] hX (by decide +kernel) (mq mt_2 211 (by decide +kernel)) mv_Dy_asks hL.1 rfl rfl (Nat.le_of_ble_eq_true rfl) (Nat.le_of_ble_eq_true rfl) (c_Dy_asks hL hf1 v3 1 μ2) (fun x5 μ4 => ?_)
      refine J_cSi (pc := 32) (idx := 47) [.ref (G.1 + f1), .int x5] hX (by decide +kernel) (mq mt_3 76 (by decide +kernel)) mv_Dy_happens rfl rfl (Nat.le_of_ble_eq_true rfl) (Nat.le_of_ble_eq_true rfl) (c_Dy_happens hf1 x5 μ4) (fun x7 μ6 => ?_)
      refine J_if_eq (pc := 35) (off := 12) (tgt := 47) hX (by decide +kernel) (by decide +kernel) (fun _ => ?_) (fun _ => ?_)
      · exact J_sub [0, 1, 2, 3] _ rfl (jDy_goBy_47 hL hf1 hX v2 v3 hk8 μ6)
      · refine J_aload_n (k0 := 0) (pc := 38) 0 hX (by decide +kernel) rfl rfl ?_
        refine J_aload_n (k0 := 1) (pc := 39) 1 hX (by decide +kernel) rfl rfl ?_
        refine J_iload_n (k0 := 3) (pc := 40) 3 hX (by decide +kernel) rfl rfl ?_
        refine J_cVv (pc := 41) (idx := 51) [.ref (G.1 + f1), .int v3] hX (by decide +kernel) (mq mt_3 74 (by decide +kernel)) mv_Dy_spill hL.1 rfl rfl (Nat.le_of_ble_eq_true rfl) (Nat.le_of_ble_eq_true rfl) (c_Dy_spill hL hf1 v3 μ6) (fun μ8 => ?_)
        refine J_iinc (pc := 44) (n := 1) 2 [(2, .int (v2 + 1)), (0, .ref (G.1 + a)), (1, .ref (G.1 + f1)), (3, .int v3)] hX (by decide +kernel) rfl rfl (by decide) rfl ?_
        exact J_sub [1, 2, 0, 3] _ rfl (jDy_goBy_47 hL hf1 hX (v2 + 1) v3 hk8 μ8)
set_option maxRecDepth 100000 in
set_option maxHeartbeats 4000000 in
theorem jDy_goBy_8 {X : Cx} {l : Launch} {G : Gx} {y : Ly} {a pt f1 : Nat} (hL : LyDy y a pt) (hf1 : LyFg y f1 ) (hX : Ok X l G prog_2_method_2_code 4 (some .int) "SaltFigures$Days")    : ∀ (fu : Nat) (v2 : Int32) (v3 : Int32) (μ : Mu), J X G 4 7 y (emy y) rvI tpT 8 [(0, .ref (G.1 + a)), (1, .ref (G.1 + f1)), (2, .int v2), (3, .int v3)] [] (μ, y) (Dy_goBy_8 a pt f1   fu v2 v3 μ) := by
  intro fu
  induction fu with
  | zero => intros; exact J_none
  | succ fu ih => intro v2 v3 μ; exact jDy_goBy_8b hL hf1 hX   ih v2 v3 μ
set_option maxRecDepth 100000 in
set_option maxHeartbeats 4000000 in
theorem jDy_goBy {X : Cx} {l : Launch} {G : Gx} {y : Ly} {a pt f1 : Nat} (hL : LyDy y a pt) (hf1 : LyFg y f1 ) (hX : Ok X l G prog_2_method_2_code 4 (some .int) "SaltFigures$Days")  (μ : Mu) : J X G 4 7 y (emy y) rvI tpT 0 [(0, .ref (G.1 + a)), (1, .ref (G.1 + f1))] [] (μ, y) (Dy_goBy a pt f1  μ) := by
  unfold Dy_goBy
  refine J_aload_n (k0 := 0) (pc := 0) 0 hX (by decide +kernel) rfl rfl ?_
  refine J_aload_n (k0 := 1) (pc := 1) 1 hX (by decide +kernel) rfl rfl ?_
  refine J_cVi (pc := 2) (idx := 29) [.ref (G.1 + f1)] hX (by decide +kernel) (mq mt_3 43 (by decide +kernel)) mv_Dy_weather hL.1 rfl rfl (Nat.le_of_ble_eq_true rfl) (Nat.le_of_ble_eq_true rfl) (c_Dy_weather hL hf1 μ) (fun x2 μ1 => ?_)
  refine J_istore_n (k0 := 2) (pc := 5) [(2, .int x2), (0, .ref (G.1 + a)), (1, .ref (G.1 + f1))] hX (by decide +kernel) rfl (by decide) rfl ?_
  refine J_iconst (pc := 6) (n := 0) (v := 0) hX (by decide +kernel) (by decide +kernel) ?_
  refine J_istore_n (k0 := 3) (pc := 7) [(3, .int 0), (2, .int x2), (0, .ref (G.1 + a)), (1, .ref (G.1 + f1))] hX (by decide +kernel) rfl (by decide) rfl ?_
  exact J_sub [2, 3, 1, 0] _ rfl (jDy_goBy_8 hL hf1 hX FU x2 0 μ1)
set_option maxRecDepth 100000 in
set_option maxHeartbeats 4000000 in
theorem c_Dy_goBy {l : Launch} {G : Gx} {y : Ly} {a pt f1 : Nat} (hL : LyDy y a pt) (hf1 : LyFg y f1 )  (μ : Mu) : Cn l G ⟨"SaltFigures$Days", "goBy", "(LSaltFigures$Figures;)I"⟩ prog_2_method_2_code 4 (some .int) 7 [.ref (G.1 + a), .ref (G.1 + f1)] (μ, y) (emy y) rvI tpT (Dy_goBy a pt f1  μ) := cn_of (by decide +kernel) (Nat.le_of_ble_eq_true rfl) (fun _ _ _ => ⟨List.prefix_refl _, trivial⟩) (fun X hX _ => jDy_goBy hL hf1 hX  μ)

def Fg_heightAt (a : Nat) (v1 : Int32) (μ : Mu) : Option (Int32 × Mu) := cl (Fg_holder a v1 μ) (fun x2 μ1 => (if x2 = ((-1)) then some (0, μ1) else cl (Fg_get a x2 1 μ1) (fun x4 μ3 => some (x4 / 100, μ3))))
set_option maxRecDepth 100000 in
set_option maxHeartbeats 4000000 in
theorem jFg_heightAt {X : Cx} {l : Launch} {G : Gx} {y : Ly} {a : Nat} (hL : LyFg y a ) (hX : Ok X l G prog_3_method_12_code 3 (some .int) "SaltFigures$Figures") (v1 : Int32) (μ : Mu) : J X G 3 2 y (emy y) rvI tpT 0 [(0, .ref (G.1 + a)), (1, .int v1)] [] (μ, y) (Fg_heightAt a v1 μ) := by
  unfold Fg_heightAt
  refine J_aload_n (k0 := 0) (pc := 0) 0 hX (by decide +kernel) rfl rfl ?_
  refine J_iload_n (k0 := 1) (pc := 1) 1 hX (by decide +kernel) rfl rfl ?_
  refine J_cVi (pc := 2) (idx := 64) [.int v1] hX (by decide +kernel) (mq mt_4 100 (by decide +kernel)) mv_Fg_holder hL.1 rfl rfl (Nat.le_of_ble_eq_true rfl) (Nat.le_of_ble_eq_true rfl) (c_Fg_holder hL v1 μ) (fun x2 μ1 => ?_)
  refine J_istore_n (k0 := 2) (pc := 5) [(2, .int x2), (0, .ref (G.1 + a)), (1, .int v1)] hX (by decide +kernel) rfl (by decide) rfl ?_
  refine J_iload_n (k0 := 2) (pc := 6) 0 hX (by decide +kernel) rfl rfl ?_
  refine J_iconst (pc := 7) (n := -1) (v := (-1)) hX (by decide +kernel) (by decide +kernel) ?_
  refine J_icmp_ne (pc := 8) (off := 7) (tgt := 15) hX (by decide +kernel) (by decide +kernel) (fun _ => ?_) (fun _ => ?_)
  · refine J_aload_n (k0 := 0) (pc := 15) 1 hX (by decide +kernel) rfl rfl ?_
    refine J_iload_n (k0 := 2) (pc := 16) 0 hX (by decide +kernel) rfl rfl ?_
    refine J_iconst (pc := 17) (n := 1) (v := 1) hX (by decide +kernel) (by decide +kernel) ?_
    refine J_cVi (pc := 18) (idx := 60) [.int x2, .int 1] hX (by decide +kernel) (mq mt_2 167 (by decide +kernel)) mv_Fg_get hL.1 rfl rfl (Nat.le_of_ble_eq_true rfl) (Nat.le_of_ble_eq_true rfl) (c_Fg_get hL x2 1 μ1) (fun x4 μ3 => ?_)
    refine J_bipush (pc := 21) (n := 100) (v := 100) hX (by decide +kernel) (by decide +kernel) ?_
    refine J_idivK (pc := 23) hX (by decide +kernel) (by decide +kernel) ?_
    exact J_iret (pc := 24) hX (by decide +kernel) rfl trivial
  · refine J_iconst (pc := 11) (n := 0) (v := 0) hX (by decide +kernel) (by decide +kernel) ?_
    refine J_goto (pc := 12) (off := 12) (tgt := 24) hX (by decide +kernel) (by decide +kernel) ?_
    exact J_iret (pc := 24) hX (by decide +kernel) rfl trivial
set_option maxRecDepth 100000 in
set_option maxHeartbeats 4000000 in
theorem c_Fg_heightAt {l : Launch} {G : Gx} {y : Ly} {a : Nat} (hL : LyFg y a ) (v1 : Int32) (μ : Mu) : Cn l G ⟨"SaltFigures$Figures", "heightAt", "(I)I"⟩ prog_3_method_12_code 3 (some .int) 2 [.ref (G.1 + a), .int v1] (μ, y) (emy y) rvI tpT (Fg_heightAt a v1 μ) := cn_of (by decide +kernel) (Nat.le_of_ble_eq_true rfl) (fun _ _ _ => ⟨List.prefix_refl _, trivial⟩) (fun X hX _ => jFg_heightAt hL hX v1 μ)

def Sf_door_80 (a : Nat) (kb10 : Int32 → Int32 → Int32 → Int32 → Mu → Option (Int32 × Mu)) (kb26 : Int32 → Int32 → Int32 → Int32 → Int32 → Mu → Option (Int32 × Mu))  (v1 : Int32) (v2 : Int32) (v3 : Int32) (v4 : Int32) (v5 : Int32) (v6 : Int32) (v7 : Int32)  (μ : Mu) : Option (Int32 × Mu) := kb26 v2 v3 v4 v6 (v7 + 1) μ
def Sf_door_26b (a : Nat) (kb10 : Int32 → Int32 → Int32 → Int32 → Mu → Option (Int32 × Mu)) (kb26 : Int32 → Int32 → Int32 → Int32 → Int32 → Mu → Option (Int32 × Mu)) (v1 : Int32) (v5 : Int32) (v2 : Int32) (v3 : Int32) (v4 : Int32) (v6 : Int32) (v7 : Int32)  (μ : Mu) : Option (Int32 × Mu) := (if 16 ≤ v7 then kb10 v2 v3 v4 (v5 + 1) μ else cl (Fg_heightAt (a + 1 + 1) v7 μ) (fun x2 μ1 => (if ((jmin v6 x2) * ((v7 - v5) + 1)) ≤ v2 then Sf_door_80 a kb10 kb26 v1 v2 v3 v4 v5 (jmin v6 x2) v7 μ1 else Sf_door_80 a kb10 kb26 v1 ((jmin v6 x2) * ((v7 - v5) + 1)) v5 v7 v5 (jmin v6 x2) v7 μ1)))
def Sf_door_26 (a : Nat) (kb10 : Int32 → Int32 → Int32 → Int32 → Mu → Option (Int32 × Mu)) (v1 : Int32) (v5 : Int32) (fu : Nat) : Int32 → Int32 → Int32 → Int32 → Int32 → Mu → Option (Int32 × Mu) := lp (fun kb => Sf_door_26b a kb10 kb v1 v5) (fun _ _ _ _ _ _ => none) fu
def Sf_door_10b (a : Nat)  (kb10 : Int32 → Int32 → Int32 → Int32 → Mu → Option (Int32 × Mu)) (v1 : Int32) (v2 : Int32) (v3 : Int32) (v4 : Int32) (v5 : Int32)  (μ : Mu) : Option (Int32 × Mu) := (if 16 ≤ v5 then (if v1 = 0 then some (v2, μ) else (if v1 = 1 then some (v3, μ) else (if v1 = 2 then some (v4, μ) else some ((-1), μ)))) else Sf_door_26 a kb10 v1 v5 FU v2 v3 v4 9999 v5 μ)
def Sf_door_10 (a : Nat)  (v1 : Int32) (fu : Nat) : Int32 → Int32 → Int32 → Int32 → Mu → Option (Int32 × Mu) := lp (fun kb => Sf_door_10b a  kb v1) (fun _ _ _ _ _ => none) fu
def Sf_door (a : Nat) (v1 : Int32) (μ : Mu) : Option (Int32 × Mu) := Sf_door_10 a v1 FU 0 ((-1)) ((-1)) 0 μ
set_option maxRecDepth 100000 in
set_option maxHeartbeats 4000000 in
theorem jSf_door_80 {X : Cx} {l : Launch} {G : Gx} {y : Ly} {a : Nat} (hL : LySf y a ) (hX : Ok X l G prog_1_method_17_code 9 (some .int) "SaltFigures")  (v1 : Int32) (v2 : Int32) (v3 : Int32) (v4 : Int32) (v5 : Int32) (v6 : Int32) (v7 : Int32)  {kb10 : Int32 → Int32 → Int32 → Int32 → Mu → Option (Int32 × Mu)} {kb26 : Int32 → Int32 → Int32 → Int32 → Int32 → Mu → Option (Int32 × Mu)} (hk10 : ∀ (v2 : Int32) (v3 : Int32) (v4 : Int32) (v5 : Int32) (μ : Mu), J X G 9 3 y (emy y) rvI tpT 10 [(0, .ref (G.1 + a)), (1, .int v1), (2, .int v2), (3, .int v3), (4, .int v4), (5, .int v5)] [] (μ, y) (kb10 v2 v3 v4 v5 μ)) (hk26 : ∀ (v2 : Int32) (v3 : Int32) (v4 : Int32) (v6 : Int32) (v7 : Int32) (μ : Mu), J X G 9 3 y (emy y) rvI tpT 26 [(0, .ref (G.1 + a)), (1, .int v1), (2, .int v2), (3, .int v3), (4, .int v4), (5, .int v5), (6, .int v6), (7, .int v7)] [] (μ, y) (kb26 v2 v3 v4 v6 v7 μ)) (μ : Mu) : J X G 9 3 y (emy y) rvI tpT 80 [(0, .ref (G.1 + a)), (1, .int v1), (2, .int v2), (3, .int v3), (4, .int v4), (5, .int v5), (6, .int v6), (7, .int v7)] [] (μ, y) (Sf_door_80 a kb10 kb26  v1 v2 v3 v4 v5 v6 v7  μ) := by
  unfold Sf_door_80
  refine J_iinc (pc := 80) (n := 1) 7 [(7, .int (v7 + 1)), (0, .ref (G.1 + a)), (1, .int v1), (2, .int v2), (3, .int v3), (4, .int v4), (5, .int v5), (6, .int v6)] hX (by decide +kernel) rfl rfl (by decide) rfl ?_
  refine J_goto (pc := 83) (off := -57) (tgt := 26) hX (by decide +kernel) (by decide +kernel) ?_
  exact J_sub [1, 2, 3, 4, 5, 6, 7, 0] _ rfl (hk26 v2 v3 v4 v6 (v7 + 1) μ)
set_option maxRecDepth 100000 in
set_option maxHeartbeats 4000000 in
theorem jSf_door_26b {X : Cx} {l : Launch} {G : Gx} {y : Ly} {a : Nat} (hL : LySf y a ) (hX : Ok X l G prog_1_method_17_code 9 (some .int) "SaltFigures") (v1 : Int32) (v5 : Int32) {kb10 : Int32 → Int32 → Int32 → Int32 → Mu → Option (Int32 × Mu)} {kb26 : Int32 → Int32 → Int32 → Int32 → Int32 → Mu → Option (Int32 × Mu)} (hk10 : ∀ (v2 : Int32) (v3 : Int32) (v4 : Int32) (v5 : Int32) (μ : Mu), J X G 9 3 y (emy y) rvI tpT 10 [(0, .ref (G.1 + a)), (1, .int v1), (2, .int v2), (3, .int v3), (4, .int v4), (5, .int v5)] [] (μ, y) (kb10 v2 v3 v4 v5 μ)) (hk26 : ∀ (v2 : Int32) (v3 : Int32) (v4 : Int32) (v6 : Int32) (v7 : Int32) (μ : Mu), J X G 9 3 y (emy y) rvI tpT 26 [(0, .ref (G.1 + a)), (1, .int v1), (2, .int v2), (3, .int v3), (4, .int v4), (5, .int v5), (6, .int v6), (7, .int v7)] [] (μ, y) (kb26 v2 v3 v4 v6 v7 μ)) (v2 : Int32) (v3 : Int32) (v4 : Int32) (v6 : Int32) (v7 : Int32)  (μ : Mu) : J X G 9 3 y (emy y) rvI tpT 26 [(0, .ref (G.1 + a)), (1, .int v1), (2, .int v2), (3, .int v3), (4, .int v4), (5, .int v5), (6, .int v6), (7, .int v7)] [] (μ, y) (Sf_door_26b a kb10 kb26 v1 v5 v2 v3 v4 v6 v7  μ) := by
  unfold Sf_door_26b
  refine J_iload (pc := 26) 7 hX (by decide +kernel) rfl ?_
  refine J_bipush (pc := 28) (n := 16) (v := 16) hX (by decide +kernel) (by decide +kernel) ?_
  refine J_icmp_ge (pc := 30) (off := 56) (tgt := 86) hX (by decide +kernel) (by decide +kernel) (fun _ => ?_) (fun _ => ?_)
  · refine J_iinc (pc := 86) (n := 1) 5 [(5, .int (v5 + 1)), (0, .ref (G.1 + a)), (1, .int v1), (2, .int v2), (3, .int v3), (4, .int v4), (6, .int v6), (7, .int v7)] hX (by decide +kernel) rfl rfl (by decide) rfl ?_
    refine J_goto (pc := 89) (off := -79) (tgt := 10) hX (by decide +kernel) (by decide +kernel) ?_
    exact J_sub [1, 2, 3, 4, 5, 0] _ rfl (hk10 v2 v3 v4 (v5 + 1) μ)
  · refine J_iload (pc := 33) 6 hX (by decide +kernel) rfl ?_
    refine J_aload_n (k0 := 0) (pc := 35) 0 hX (by decide +kernel) rfl rfl ?_
    refine J_gr (pc := 36) hX (by decide +kernel) fl_Sf_12 hL.1 rfl hL.2.1.1 ?_
    refine J_gr (pc := 39) hX (by decide +kernel) fl_Sf_58 hL.2.1.2.1 rfl hL.2.1.2.2.1.1 ?_
    refine J_iload (pc := 42) 7 hX (by decide +kernel) rfl ?_
    refine J_cVi (pc := 44) (idx := 206) [.int v7] hX (by decide +kernel) (mq mt_4 141 (by decide +kernel)) mv_Fg_heightAt hL.2.1.2.2.1.2.1 rfl rfl (Nat.le_of_ble_eq_true rfl) (Nat.le_of_ble_eq_true rfl) (c_Fg_heightAt hL.2.1.2.2.1.2 v7 μ) (fun x2 μ1 => ?_)
    refine J_mmin (pc := 47) (idx := 209) hX (by decide +kernel) (mq mt_2 200 (by decide +kernel)) (Nat.le_of_ble_eq_true rfl) (Nat.le_of_ble_eq_true rfl) ?_
    refine J_istore (pc := 50) [(6, .int (jmin v6 x2)), (0, .ref (G.1 + a)), (1, .int v1), (2, .int v2), (3, .int v3), (4, .int v4), (5, .int v5), (7, .int v7)] hX (by decide +kernel) (by decide) rfl ?_
    refine J_iload (pc := 52) 0 hX (by decide +kernel) rfl ?_
    refine J_iload (pc := 54) 7 hX (by decide +kernel) rfl ?_
    refine J_iload (pc := 56) 6 hX (by decide +kernel) rfl ?_
    refine J_isub (pc := 58) hX (by decide +kernel) ?_
    refine J_iconst (pc := 59) (n := 1) (v := 1) hX (by decide +kernel) (by decide +kernel) ?_
    refine J_iadd (pc := 60) hX (by decide +kernel) ?_
    refine J_imul (pc := 61) hX (by decide +kernel) ?_
    refine J_istore (pc := 62) [(8, .int ((jmin v6 x2) * ((v7 - v5) + 1))), (6, .int (jmin v6 x2)), (0, .ref (G.1 + a)), (1, .int v1), (2, .int v2), (3, .int v3), (4, .int v4), (5, .int v5), (7, .int v7)] hX (by decide +kernel) (by decide) rfl ?_
    refine J_iload (pc := 64) 0 hX (by decide +kernel) rfl ?_
    refine J_iload_n (k0 := 2) (pc := 66) 4 hX (by decide +kernel) rfl rfl ?_
    refine J_icmp_le (pc := 67) (off := 13) (tgt := 80) hX (by decide +kernel) (by decide +kernel) (fun _ => ?_) (fun _ => ?_)
    · exact J_sub [2, 3, 4, 5, 6, 7, 1, 8] _ rfl (jSf_door_80 hL hX v1 v2 v3 v4 v5 (jmin v6 x2) v7 hk10 hk26 μ1)
    · refine J_iload (pc := 70) 0 hX (by decide +kernel) rfl ?_
      refine J_istore_n (k0 := 2) (pc := 72) [(2, .int ((jmin v6 x2) * ((v7 - v5) + 1))), (8, .int ((jmin v6 x2) * ((v7 - v5) + 1))), (6, .int (jmin v6 x2)), (0, .ref (G.1 + a)), (1, .int v1), (3, .int v3), (4, .int v4), (5, .int v5), (7, .int v7)] hX (by decide +kernel) rfl (by decide) rfl ?_
      refine J_iload (pc := 73) 7 hX (by decide +kernel) rfl ?_
      refine J_istore_n (k0 := 3) (pc := 75) [(3, .int v5), (2, .int ((jmin v6 x2) * ((v7 - v5) + 1))), (8, .int ((jmin v6 x2) * ((v7 - v5) + 1))), (6, .int (jmin v6 x2)), (0, .ref (G.1 + a)), (1, .int v1), (4, .int v4), (5, .int v5), (7, .int v7)] hX (by decide +kernel) rfl (by decide) rfl ?_
      refine J_iload (pc := 76) 8 hX (by decide +kernel) rfl ?_
      refine J_istore (pc := 78) [(4, .int v7), (3, .int v5), (2, .int ((jmin v6 x2) * ((v7 - v5) + 1))), (8, .int ((jmin v6 x2) * ((v7 - v5) + 1))), (6, .int (jmin v6 x2)), (0, .ref (G.1 + a)), (1, .int v1), (5, .int v5), (7, .int v7)] hX (by decide +kernel) (by decide) rfl ?_
      exact J_sub [5, 6, 2, 1, 0, 7, 4, 8] _ rfl (jSf_door_80 hL hX v1 ((jmin v6 x2) * ((v7 - v5) + 1)) v5 v7 v5 (jmin v6 x2) v7 hk10 hk26 μ1)
set_option maxRecDepth 100000 in
set_option maxHeartbeats 4000000 in
theorem jSf_door_26 {X : Cx} {l : Launch} {G : Gx} {y : Ly} {a : Nat} (hL : LySf y a ) (hX : Ok X l G prog_1_method_17_code 9 (some .int) "SaltFigures") (v1 : Int32) (v5 : Int32) {kb10 : Int32 → Int32 → Int32 → Int32 → Mu → Option (Int32 × Mu)} (hk10 : ∀ (v2 : Int32) (v3 : Int32) (v4 : Int32) (v5 : Int32) (μ : Mu), J X G 9 3 y (emy y) rvI tpT 10 [(0, .ref (G.1 + a)), (1, .int v1), (2, .int v2), (3, .int v3), (4, .int v4), (5, .int v5)] [] (μ, y) (kb10 v2 v3 v4 v5 μ)) : ∀ (fu : Nat) (v2 : Int32) (v3 : Int32) (v4 : Int32) (v6 : Int32) (v7 : Int32) (μ : Mu), J X G 9 3 y (emy y) rvI tpT 26 [(0, .ref (G.1 + a)), (1, .int v1), (2, .int v2), (3, .int v3), (4, .int v4), (5, .int v5), (6, .int v6), (7, .int v7)] [] (μ, y) (Sf_door_26 a kb10 v1 v5 fu v2 v3 v4 v6 v7 μ) := by
  intro fu
  induction fu with
  | zero => intros; exact J_none
  | succ fu ih => intro v2 v3 v4 v6 v7 μ; exact jSf_door_26b hL hX v1 v5 hk10 ih v2 v3 v4 v6 v7 μ
set_option maxRecDepth 100000 in
set_option maxHeartbeats 4000000 in
theorem jSf_door_10b {X : Cx} {l : Launch} {G : Gx} {y : Ly} {a : Nat} (hL : LySf y a ) (hX : Ok X l G prog_1_method_17_code 9 (some .int) "SaltFigures") (v1 : Int32)  {kb10 : Int32 → Int32 → Int32 → Int32 → Mu → Option (Int32 × Mu)}  (hk10 : ∀ (v2 : Int32) (v3 : Int32) (v4 : Int32) (v5 : Int32) (μ : Mu), J X G 9 3 y (emy y) rvI tpT 10 [(0, .ref (G.1 + a)), (1, .int v1), (2, .int v2), (3, .int v3), (4, .int v4), (5, .int v5)] [] (μ, y) (kb10 v2 v3 v4 v5 μ)) (v2 : Int32) (v3 : Int32) (v4 : Int32) (v5 : Int32)  (μ : Mu) : J X G 9 3 y (emy y) rvI tpT 10 [(0, .ref (G.1 + a)), (1, .int v1), (2, .int v2), (3, .int v3), (4, .int v4), (5, .int v5)] [] (μ, y) (Sf_door_10b a  kb10 v1 v2 v3 v4 v5  μ) := by
  unfold Sf_door_10b
  refine J_iload (pc := 10) 5 hX (by decide +kernel) rfl ?_
  refine J_bipush (pc := 12) (n := 16) (v := 16) hX (by decide +kernel) (by decide +kernel) ?_
  refine J_icmp_ge (pc := 14) (off := 78) (tgt := 92) hX (by decide +kernel) (by decide +kernel) (fun _ => ?_) (fun _ => ?_)
  · refine J_iload_n (k0 := 1) (pc := 92) 1 hX (by decide +kernel) rfl rfl ?_
    refine J_if_ne (pc := 93) (off := 7) (tgt := 100) hX (by decide +kernel) (by decide +kernel) (fun _ => ?_) (fun _ => ?_)
    · refine J_iload_n (k0 := 1) (pc := 100) 1 hX (by decide +kernel) rfl rfl ?_
      refine J_iconst (pc := 101) (n := 1) (v := 1) hX (by decide +kernel) (by decide +kernel) ?_
      refine J_icmp_ne (pc := 102) (off := 7) (tgt := 109) hX (by decide +kernel) (by decide +kernel) (fun _ => ?_) (fun _ => ?_)
      · refine J_iload_n (k0 := 1) (pc := 109) 1 hX (by decide +kernel) rfl rfl ?_
        refine J_iconst (pc := 110) (n := 2) (v := 2) hX (by decide +kernel) (by decide +kernel) ?_
        refine J_icmp_ne (pc := 111) (off := 8) (tgt := 119) hX (by decide +kernel) (by decide +kernel) (fun _ => ?_) (fun _ => ?_)
        · refine J_iconst (pc := 119) (n := -1) (v := (-1)) hX (by decide +kernel) (by decide +kernel) ?_
          exact J_iret (pc := 120) hX (by decide +kernel) rfl trivial
        · refine J_iload (pc := 114) 4 hX (by decide +kernel) rfl ?_
          refine J_goto (pc := 116) (off := 4) (tgt := 120) hX (by decide +kernel) (by decide +kernel) ?_
          exact J_iret (pc := 120) hX (by decide +kernel) rfl trivial
      · refine J_iload_n (k0 := 3) (pc := 105) 3 hX (by decide +kernel) rfl rfl ?_
        refine J_goto (pc := 106) (off := 14) (tgt := 120) hX (by decide +kernel) (by decide +kernel) ?_
        exact J_iret (pc := 120) hX (by decide +kernel) rfl trivial
    · refine J_iload_n (k0 := 2) (pc := 96) 2 hX (by decide +kernel) rfl rfl ?_
      refine J_goto (pc := 97) (off := 23) (tgt := 120) hX (by decide +kernel) (by decide +kernel) ?_
      exact J_iret (pc := 120) hX (by decide +kernel) rfl trivial
  · refine J_sipush (pc := 17) (n := 9999) (v := 9999) hX (by decide +kernel) (by decide +kernel) ?_
    refine J_istore (pc := 20) [(6, .int 9999), (0, .ref (G.1 + a)), (1, .int v1), (2, .int v2), (3, .int v3), (4, .int v4), (5, .int v5)] hX (by decide +kernel) (by decide) rfl ?_
    refine J_iload (pc := 22) 6 hX (by decide +kernel) rfl ?_
    refine J_istore (pc := 24) [(7, .int v5), (6, .int 9999), (0, .ref (G.1 + a)), (1, .int v1), (2, .int v2), (3, .int v3), (4, .int v4), (5, .int v5)] hX (by decide +kernel) (by decide) rfl ?_
    exact J_sub [2, 3, 4, 5, 6, 7, 1, 0] _ rfl (jSf_door_26 hL hX v1 v5 hk10 FU v2 v3 v4 9999 v5 μ)
set_option maxRecDepth 100000 in
set_option maxHeartbeats 4000000 in
theorem jSf_door_10 {X : Cx} {l : Launch} {G : Gx} {y : Ly} {a : Nat} (hL : LySf y a ) (hX : Ok X l G prog_1_method_17_code 9 (some .int) "SaltFigures") (v1 : Int32)   : ∀ (fu : Nat) (v2 : Int32) (v3 : Int32) (v4 : Int32) (v5 : Int32) (μ : Mu), J X G 9 3 y (emy y) rvI tpT 10 [(0, .ref (G.1 + a)), (1, .int v1), (2, .int v2), (3, .int v3), (4, .int v4), (5, .int v5)] [] (μ, y) (Sf_door_10 a  v1 fu v2 v3 v4 v5 μ) := by
  intro fu
  induction fu with
  | zero => intros; exact J_none
  | succ fu ih => intro v2 v3 v4 v5 μ; exact jSf_door_10b hL hX v1  ih v2 v3 v4 v5 μ
set_option maxRecDepth 100000 in
set_option maxHeartbeats 4000000 in
theorem jSf_door {X : Cx} {l : Launch} {G : Gx} {y : Ly} {a : Nat} (hL : LySf y a ) (hX : Ok X l G prog_1_method_17_code 9 (some .int) "SaltFigures") (v1 : Int32) (μ : Mu) : J X G 9 3 y (emy y) rvI tpT 0 [(0, .ref (G.1 + a)), (1, .int v1)] [] (μ, y) (Sf_door a v1 μ) := by
  unfold Sf_door
  refine J_iconst (pc := 0) (n := 0) (v := 0) hX (by decide +kernel) (by decide +kernel) ?_
  refine J_istore_n (k0 := 2) (pc := 1) [(2, .int 0), (0, .ref (G.1 + a)), (1, .int v1)] hX (by decide +kernel) rfl (by decide) rfl ?_
  refine J_iconst (pc := 2) (n := -1) (v := (-1)) hX (by decide +kernel) (by decide +kernel) ?_
  refine J_istore_n (k0 := 3) (pc := 3) [(3, .int ((-1))), (2, .int 0), (0, .ref (G.1 + a)), (1, .int v1)] hX (by decide +kernel) rfl (by decide) rfl ?_
  refine J_iconst (pc := 4) (n := -1) (v := (-1)) hX (by decide +kernel) (by decide +kernel) ?_
  refine J_istore (pc := 5) [(4, .int ((-1))), (3, .int ((-1))), (2, .int 0), (0, .ref (G.1 + a)), (1, .int v1)] hX (by decide +kernel) (by decide) rfl ?_
  refine J_iconst (pc := 7) (n := 0) (v := 0) hX (by decide +kernel) (by decide +kernel) ?_
  refine J_istore (pc := 8) [(5, .int 0), (4, .int ((-1))), (3, .int ((-1))), (2, .int 0), (0, .ref (G.1 + a)), (1, .int v1)] hX (by decide +kernel) (by decide) rfl ?_
  exact J_sub [4, 5, 3, 2, 1, 0] _ rfl (jSf_door_10 hL hX v1 FU 0 ((-1)) ((-1)) 0 μ)
set_option maxRecDepth 100000 in
set_option maxHeartbeats 4000000 in
theorem c_Sf_door {l : Launch} {G : Gx} {y : Ly} {a : Nat} (hL : LySf y a ) (v1 : Int32) (μ : Mu) : Cn l G ⟨"SaltFigures", "door", "(I)I"⟩ prog_1_method_17_code 9 (some .int) 3 [.ref (G.1 + a), .int v1] (μ, y) (emy y) rvI tpT (Sf_door a v1 μ) := cn_of (by decide +kernel) (Nat.le_of_ble_eq_true rfl) (fun _ _ _ => ⟨List.prefix_refl _, trivial⟩) (fun X hX _ => jSf_door hL hX v1 μ)

def Rw_clear (a n : Nat)  (μ : Mu) : Option (Int32 × Mu) := pF μ a 3 0 (fun μ1 => gF μ1 a 3 (fun x2 => some (x2, μ1)))
set_option maxRecDepth 100000 in
set_option maxHeartbeats 4000000 in
theorem jRw_clear {X : Cx} {l : Launch} {G : Gx} {y : Ly} {a n : Nat} (hL : LyRw y a n) (hX : Ok X l G prog_7_method_3_code 1 (some .int) "SaltFigures$Row")  (μ : Mu) : J X G 1 1 y (emy y) rvI tpT 0 [(0, .ref (G.1 + a))] [] (μ, y) (Rw_clear a n  μ) := by
  unfold Rw_clear
  refine J_aload_n (k0 := 0) (pc := 0) 0 hX (by decide +kernel) rfl rfl ?_
  refine J_iconst (pc := 1) (n := 0) (v := 0) hX (by decide +kernel) (by decide +kernel) ?_
  refine J_pF (pc := 2) hX (by decide +kernel) fl_Rw_28 hL.1 rfl (fun μ1 => ?_)
  refine J_aload_n (k0 := 0) (pc := 5) 0 hX (by decide +kernel) rfl rfl ?_
  refine J_gF (pc := 6) hX (by decide +kernel) fl_Rw_28 hL.1 rfl (fun x2 => ?_)
  exact J_iret (pc := 9) hX (by decide +kernel) rfl trivial
set_option maxRecDepth 100000 in
set_option maxHeartbeats 4000000 in
theorem c_Rw_clear {l : Launch} {G : Gx} {y : Ly} {a n : Nat} (hL : LyRw y a n)  (μ : Mu) : Cn l G ⟨"SaltFigures$Row", "clear", "()I"⟩ prog_7_method_3_code 1 (some .int) 1 [.ref (G.1 + a)] (μ, y) (emy y) rvI tpT (Rw_clear a n  μ) := cn_of (by decide +kernel) (Nat.le_of_ble_eq_true rfl) (fun _ _ _ => ⟨List.prefix_refl _, trivial⟩) (fun X hX _ => jRw_clear hL hX  μ)

def Rw_append (a n : Nat) (v1 : Int32) (μ : Mu) : Option (Int32 × Mu) := gF μ a 0 (fun x1 => (if v1 < x1 then some ((-1), μ) else gF μ a 1 (fun x2 => (if x2 < v1 then some ((-1), μ) else gF μ a 3 (fun x3 => (if x3 < 0 then some ((-1), μ) else gF μ a 3 (fun x4 => (if x4 < (Int32.ofNat n) then gF μ a 3 (fun x5 => stA μ (a + 1) n x5 v1 (fun μ6 => gF μ6 a 3 (fun x7 => pF μ6 a 3 (x7 + 1) (fun μ8 => gF μ8 a 3 (fun x9 => some (x9, μ8)))))) else some ((-1), μ)))))))))
set_option maxRecDepth 100000 in
set_option maxHeartbeats 4000000 in
theorem jRw_append {X : Cx} {l : Launch} {G : Gx} {y : Ly} {a n : Nat} (hL : LyRw y a n) (hX : Ok X l G prog_7_method_6_code 2 (some .int) "SaltFigures$Row") (v1 : Int32) (μ : Mu) : J X G 2 1 y (emy y) rvI tpT 0 [(0, .ref (G.1 + a)), (1, .int v1)] [] (μ, y) (Rw_append a n v1 μ) := by
  unfold Rw_append
  refine J_iload_n (k0 := 1) (pc := 0) 1 hX (by decide +kernel) rfl rfl ?_
  refine J_aload_n (k0 := 0) (pc := 1) 0 hX (by decide +kernel) rfl rfl ?_
  refine J_gF (pc := 2) hX (by decide +kernel) fl_Rw_9 hL.1 rfl (fun x1 => ?_)
  refine J_icmp_lt (pc := 5) (off := 30) (tgt := 35) hX (by decide +kernel) (by decide +kernel) (fun _ => ?_) (fun _ => ?_)
  · refine J_iconst (pc := 35) (n := -1) (v := (-1)) hX (by decide +kernel) (by decide +kernel) ?_
    exact J_iret (pc := 36) hX (by decide +kernel) rfl trivial
  · refine J_iload_n (k0 := 1) (pc := 8) 1 hX (by decide +kernel) rfl rfl ?_
    refine J_aload_n (k0 := 0) (pc := 9) 0 hX (by decide +kernel) rfl rfl ?_
    refine J_gF (pc := 10) hX (by decide +kernel) fl_Rw_15 hL.1 rfl (fun x2 => ?_)
    refine J_icmp_gt (pc := 13) (off := 22) (tgt := 35) hX (by decide +kernel) (by decide +kernel) (fun _ => ?_) (fun _ => ?_)
    · refine J_iconst (pc := 35) (n := -1) (v := (-1)) hX (by decide +kernel) (by decide +kernel) ?_
      exact J_iret (pc := 36) hX (by decide +kernel) rfl trivial
    · refine J_aload_n (k0 := 0) (pc := 16) 0 hX (by decide +kernel) rfl rfl ?_
      refine J_gF (pc := 17) hX (by decide +kernel) fl_Rw_28 hL.1 rfl (fun x3 => ?_)
      refine J_if_lt (pc := 20) (off := 15) (tgt := 35) hX (by decide +kernel) (by decide +kernel) (fun _ => ?_) (fun _ => ?_)
      · refine J_iconst (pc := 35) (n := -1) (v := (-1)) hX (by decide +kernel) (by decide +kernel) ?_
        exact J_iret (pc := 36) hX (by decide +kernel) rfl trivial
      · refine J_aload_n (k0 := 0) (pc := 23) 0 hX (by decide +kernel) rfl rfl ?_
        refine J_gF (pc := 24) hX (by decide +kernel) fl_Rw_28 hL.1 rfl (fun x4 => ?_)
        refine J_aload_n (k0 := 0) (pc := 27) 0 hX (by decide +kernel) rfl rfl ?_
        refine J_gr (pc := 28) hX (by decide +kernel) fl_Rw_24 hL.1 rfl hL.2.1.1 ?_
        refine J_alen (pc := 31) hX (by decide +kernel) hL.2.1.2 (v := Int32.ofNat n) rfl ?_
        refine J_icmp_lt (pc := 32) (off := 5) (tgt := 37) hX (by decide +kernel) (by decide +kernel) (fun _ => ?_) (fun _ => ?_)
        · refine J_aload_n (k0 := 0) (pc := 37) 0 hX (by decide +kernel) rfl rfl ?_
          refine J_gr (pc := 38) hX (by decide +kernel) fl_Rw_24 hL.1 rfl hL.2.1.1 ?_
          refine J_aload_n (k0 := 0) (pc := 41) 0 hX (by decide +kernel) rfl rfl ?_
          refine J_gF (pc := 42) hX (by decide +kernel) fl_Rw_28 hL.1 rfl (fun x5 => ?_)
          refine J_iload_n (k0 := 1) (pc := 45) 1 hX (by decide +kernel) rfl rfl ?_
          refine J_stA (pc := 46) hX (by decide +kernel) hL.2.1.2 (fun μ6 => ?_)
          refine J_aload_n (k0 := 0) (pc := 47) 0 hX (by decide +kernel) rfl rfl ?_
          refine J_dup (pc := 48) hX (by decide +kernel) rfl ?_
          refine J_gF (pc := 49) hX (by decide +kernel) fl_Rw_28 hL.1 rfl (fun x7 => ?_)
          refine J_iconst (pc := 52) (n := 1) (v := 1) hX (by decide +kernel) (by decide +kernel) ?_
          refine J_iadd (pc := 53) hX (by decide +kernel) ?_
          refine J_pF (pc := 54) hX (by decide +kernel) fl_Rw_28 hL.1 rfl (fun μ8 => ?_)
          refine J_aload_n (k0 := 0) (pc := 57) 0 hX (by decide +kernel) rfl rfl ?_
          refine J_gF (pc := 58) hX (by decide +kernel) fl_Rw_28 hL.1 rfl (fun x9 => ?_)
          exact J_iret (pc := 61) hX (by decide +kernel) rfl trivial
        · refine J_iconst (pc := 35) (n := -1) (v := (-1)) hX (by decide +kernel) (by decide +kernel) ?_
          exact J_iret (pc := 36) hX (by decide +kernel) rfl trivial
set_option maxRecDepth 100000 in
set_option maxHeartbeats 4000000 in
theorem c_Rw_append {l : Launch} {G : Gx} {y : Ly} {a n : Nat} (hL : LyRw y a n) (v1 : Int32) (μ : Mu) : Cn l G ⟨"SaltFigures$Row", "append", "(I)I"⟩ prog_7_method_6_code 2 (some .int) 1 [.ref (G.1 + a), .int v1] (μ, y) (emy y) rvI tpT (Rw_append a n v1 μ) := cn_of (by decide +kernel) (Nat.le_of_ble_eq_true rfl) (fun _ _ _ => ⟨List.prefix_refl _, trivial⟩) (fun X hX _ => jRw_append hL hX v1 μ)

def Rw_tell (a n : Nat) (v1 : Int32) (μ : Mu) : Option (Int32 × Mu) := (if v1 = ((-1)) then cl (Rw_clear a n μ) (fun x4 μ3 => some (x4, μ3)) else cl (Rw_append a n v1 μ) (fun x2 μ1 => some (x2, μ1)))
set_option maxRecDepth 100000 in
set_option maxHeartbeats 4000000 in
theorem jRw_tell {X : Cx} {l : Launch} {G : Gx} {y : Ly} {a n : Nat} (hL : LyRw y a n) (hX : Ok X l G prog_7_method_5_code 2 (some .int) "SaltFigures$Row") (v1 : Int32) (μ : Mu) : J X G 2 2 y (emy y) rvI tpT 0 [(0, .ref (G.1 + a)), (1, .int v1)] [] (μ, y) (Rw_tell a n v1 μ) := by
  unfold Rw_tell
  refine J_iload_n (k0 := 1) (pc := 0) 1 hX (by decide +kernel) rfl rfl ?_
  refine J_iconst (pc := 1) (n := -1) (v := (-1)) hX (by decide +kernel) (by decide +kernel) ?_
  refine J_icmp_ne (pc := 2) (off := 8) (tgt := 10) hX (by decide +kernel) (by decide +kernel) (fun _ => ?_) (fun _ => ?_)
  · refine J_aload_n (k0 := 0) (pc := 10) 0 hX (by decide +kernel) rfl rfl ?_
    refine J_iload_n (k0 := 1) (pc := 11) 1 hX (by decide +kernel) rfl rfl ?_
    refine J_cVi (pc := 12) (idx := 44) [.int v1] hX (by decide +kernel) (mq mt_5 23 (by decide +kernel)) mv_Rw_append hL.1 rfl rfl (Nat.le_of_ble_eq_true rfl) (Nat.le_of_ble_eq_true rfl) (c_Rw_append hL v1 μ) (fun x2 μ1 => ?_)
    exact J_iret (pc := 15) hX (by decide +kernel) rfl trivial
  · refine J_aload_n (k0 := 0) (pc := 5) 0 hX (by decide +kernel) rfl rfl ?_
    refine J_cVi (pc := 6) (idx := 40) [] hX (by decide +kernel) (mq mt_5 22 (by decide +kernel)) mv_Rw_clear hL.1 rfl rfl (Nat.le_of_ble_eq_true rfl) (Nat.le_of_ble_eq_true rfl) (c_Rw_clear hL μ) (fun x4 μ3 => ?_)
    exact J_iret (pc := 9) hX (by decide +kernel) rfl trivial
set_option maxRecDepth 100000 in
set_option maxHeartbeats 4000000 in
theorem c_Rw_tell {l : Launch} {G : Gx} {y : Ly} {a n : Nat} (hL : LyRw y a n) (v1 : Int32) (μ : Mu) : Cn l G ⟨"SaltFigures$Row", "tell", "(I)I"⟩ prog_7_method_5_code 2 (some .int) 2 [.ref (G.1 + a), .int v1] (μ, y) (emy y) rvI tpT (Rw_tell a n v1 μ) := cn_of (by decide +kernel) (Nat.le_of_ble_eq_true rfl) (fun _ _ _ => ⟨List.prefix_refl _, trivial⟩) (fun X hX _ => jRw_tell hL hX v1 μ)

def Sf_drip (a : Nat) (v1 : Int32) (μ : Mu) : Option (Int32 × Mu) := cl (Rw_tell (a + 1 + 17 + 11) 6 v1 μ) (fun x2 μ1 => some (x2, μ1))
set_option maxRecDepth 100000 in
set_option maxHeartbeats 4000000 in
theorem jSf_drip {X : Cx} {l : Launch} {G : Gx} {y : Ly} {a : Nat} (hL : LySf y a ) (hX : Ok X l G prog_1_method_30_code 2 (some .int) "SaltFigures") (v1 : Int32) (μ : Mu) : J X G 2 3 y (emy y) rvI tpT 0 [(0, .ref (G.1 + a)), (1, .int v1)] [] (μ, y) (Sf_drip a v1 μ) := by
  unfold Sf_drip
  refine J_aload_n (k0 := 0) (pc := 0) 0 hX (by decide +kernel) rfl rfl ?_
  refine J_gr (pc := 1) hX (by decide +kernel) fl_Sf_12 hL.1 rfl hL.2.1.1 ?_
  refine J_gr (pc := 4) hX (by decide +kernel) fl_Sf_36 hL.2.1.2.1 rfl hL.2.1.2.2.2.2.2.1.1 ?_
  refine J_gr (pc := 7) hX (by decide +kernel) fl_Sf_298 hL.2.1.2.2.2.2.2.1.2.1 rfl hL.2.1.2.2.2.2.2.1.2.2.2.2.2.2.2.1.1 ?_
  refine J_iload_n (k0 := 1) (pc := 10) 1 hX (by decide +kernel) rfl rfl ?_
  refine J_cVi (pc := 11) (idx := 274) [.int v1] hX (by decide +kernel) (mq mt_5 18 (by decide +kernel)) mv_Rw_tell hL.2.1.2.2.2.2.2.1.2.2.2.2.2.2.2.1.2.1 rfl rfl (Nat.le_of_ble_eq_true rfl) (Nat.le_of_ble_eq_true rfl) (c_Rw_tell hL.2.1.2.2.2.2.2.1.2.2.2.2.2.2.2.1.2 v1 μ) (fun x2 μ1 => ?_)
  exact J_iret (pc := 14) hX (by decide +kernel) rfl trivial
set_option maxRecDepth 100000 in
set_option maxHeartbeats 4000000 in
theorem c_Sf_drip {l : Launch} {G : Gx} {y : Ly} {a : Nat} (hL : LySf y a ) (v1 : Int32) (μ : Mu) : Cn l G ⟨"SaltFigures", "drip", "(I)I"⟩ prog_1_method_30_code 2 (some .int) 3 [.ref (G.1 + a), .int v1] (μ, y) (emy y) rvI tpT (Sf_drip a v1 μ) := cn_of (by decide +kernel) (Nat.le_of_ble_eq_true rfl) (fun _ _ _ => ⟨List.prefix_refl _, trivial⟩) (fun X hX _ => jSf_drip hL hX v1 μ)

def Rw_at (a n : Nat) (v1 : Int32) (μ : Mu) : Option (Int32 × Mu) := (if v1 < 0 then some (0, μ) else gF μ a 3 (fun x1 => (if x1 ≤ v1 then some (0, μ) else (if (Int32.ofNat n) ≤ v1 then some (0, μ) else ldA μ (a + 1) n v1 (fun x2 => some (x2, μ))))))
set_option maxRecDepth 100000 in
set_option maxHeartbeats 4000000 in
theorem jRw_at {X : Cx} {l : Launch} {G : Gx} {y : Ly} {a n : Nat} (hL : LyRw y a n) (hX : Ok X l G prog_7_method_8_code 2 (some .int) "SaltFigures$Row") (v1 : Int32) (μ : Mu) : J X G 2 1 y (emy y) rvI tpT 0 [(0, .ref (G.1 + a)), (1, .int v1)] [] (μ, y) (Rw_at a n v1 μ) := by
  unfold Rw_at
  refine J_iload_n (k0 := 1) (pc := 0) 1 hX (by decide +kernel) rfl rfl ?_
  refine J_if_lt (pc := 1) (off := 29) (tgt := 30) hX (by decide +kernel) (by decide +kernel) (fun _ => ?_) (fun _ => ?_)
  · refine J_iconst (pc := 30) (n := 0) (v := 0) hX (by decide +kernel) (by decide +kernel) ?_
    exact J_iret (pc := 31) hX (by decide +kernel) rfl trivial
  · refine J_iload_n (k0 := 1) (pc := 4) 1 hX (by decide +kernel) rfl rfl ?_
    refine J_aload_n (k0 := 0) (pc := 5) 0 hX (by decide +kernel) rfl rfl ?_
    refine J_gF (pc := 6) hX (by decide +kernel) fl_Rw_28 hL.1 rfl (fun x1 => ?_)
    refine J_icmp_ge (pc := 9) (off := 21) (tgt := 30) hX (by decide +kernel) (by decide +kernel) (fun _ => ?_) (fun _ => ?_)
    · refine J_iconst (pc := 30) (n := 0) (v := 0) hX (by decide +kernel) (by decide +kernel) ?_
      exact J_iret (pc := 31) hX (by decide +kernel) rfl trivial
    · refine J_iload_n (k0 := 1) (pc := 12) 1 hX (by decide +kernel) rfl rfl ?_
      refine J_aload_n (k0 := 0) (pc := 13) 0 hX (by decide +kernel) rfl rfl ?_
      refine J_gr (pc := 14) hX (by decide +kernel) fl_Rw_24 hL.1 rfl hL.2.1.1 ?_
      refine J_alen (pc := 17) hX (by decide +kernel) hL.2.1.2 (v := Int32.ofNat n) rfl ?_
      refine J_icmp_ge (pc := 18) (off := 12) (tgt := 30) hX (by decide +kernel) (by decide +kernel) (fun _ => ?_) (fun _ => ?_)
      · refine J_iconst (pc := 30) (n := 0) (v := 0) hX (by decide +kernel) (by decide +kernel) ?_
        exact J_iret (pc := 31) hX (by decide +kernel) rfl trivial
      · refine J_aload_n (k0 := 0) (pc := 21) 0 hX (by decide +kernel) rfl rfl ?_
        refine J_gr (pc := 22) hX (by decide +kernel) fl_Rw_24 hL.1 rfl hL.2.1.1 ?_
        refine J_iload_n (k0 := 1) (pc := 25) 1 hX (by decide +kernel) rfl rfl ?_
        refine J_ldA (pc := 26) hX (by decide +kernel) hL.2.1.2 (fun x2 => ?_)
        refine J_goto (pc := 27) (off := 4) (tgt := 31) hX (by decide +kernel) (by decide +kernel) ?_
        exact J_iret (pc := 31) hX (by decide +kernel) rfl trivial
set_option maxRecDepth 100000 in
set_option maxHeartbeats 4000000 in
theorem c_Rw_at {l : Launch} {G : Gx} {y : Ly} {a n : Nat} (hL : LyRw y a n) (v1 : Int32) (μ : Mu) : Cn l G ⟨"SaltFigures$Row", "at", "(I)I"⟩ prog_7_method_8_code 2 (some .int) 1 [.ref (G.1 + a), .int v1] (μ, y) (emy y) rvI tpT (Rw_at a n v1 μ) := cn_of (by decide +kernel) (Nat.le_of_ble_eq_true rfl) (fun _ _ _ => ⟨List.prefix_refl _, trivial⟩) (fun X hX _ => jRw_at hL hX v1 μ)

def Sm_measure_7b   (kb7 : Int32 → Int32 → Int32 → Mu → Option (Int32 × Mu))  (v2 : Int32) (v3 : Int32) (v4 : Int32)  (μ : Mu) : Option (Int32 × Mu) := (if 64 ≤ v4 then some (v2, μ) else (if v3 = 0 then some (v2, μ) else nz v3 (kb7 v3 (jrem v2 v3) (v4 + 1) μ)))
def Sm_measure_7    (fu : Nat) : Int32 → Int32 → Int32 → Mu → Option (Int32 × Mu) := lp (fun kb => Sm_measure_7b   kb ) (fun _ _ _ _ => none) fu
def Sm_measure  (v0 : Int32) (v1 : Int32) (μ : Mu) : Option (Int32 × Mu) := Sm_measure_7 FU v0 v1 0 μ
set_option maxRecDepth 100000 in
set_option maxHeartbeats 4000000 in
theorem jSm_measure_7b {X : Cx} {l : Launch} {G : Gx} {y : Ly}   (hX : Ok X l G prog_8_method_13_code 6 (some .int) "SaltFigures$Sums")   {kb7 : Int32 → Int32 → Int32 → Mu → Option (Int32 × Mu)}  (hk7 : ∀ (v2 : Int32) (v3 : Int32) (v4 : Int32) (μ : Mu), J X G 6 1 y (emy y) rvI tpT 7 [(2, .int v2), (3, .int v3), (4, .int v4)] [] (μ, y) (kb7 v2 v3 v4 μ)) (v2 : Int32) (v3 : Int32) (v4 : Int32)  (μ : Mu) : J X G 6 1 y (emy y) rvI tpT 7 [(2, .int v2), (3, .int v3), (4, .int v4)] [] (μ, y) (Sm_measure_7b   kb7  v2 v3 v4  μ) := by
  unfold Sm_measure_7b
  refine J_iload (pc := 7) 2 hX (by decide +kernel) rfl ?_
  refine J_bipush (pc := 9) (n := 64) (v := 64) hX (by decide +kernel) (by decide +kernel) ?_
  refine J_icmp_ge (pc := 11) (off := 23) (tgt := 34) hX (by decide +kernel) (by decide +kernel) (fun _ => ?_) (fun _ => ?_)
  · refine J_iload_n (k0 := 2) (pc := 34) 0 hX (by decide +kernel) rfl rfl ?_
    exact J_iret (pc := 35) hX (by decide +kernel) rfl trivial
  · refine J_iload_n (k0 := 3) (pc := 14) 1 hX (by decide +kernel) rfl rfl ?_
    refine J_if_eq (pc := 15) (off := 19) (tgt := 34) hX (by decide +kernel) (by decide +kernel) (fun _ => ?_) (fun _ => ?_)
    · refine J_iload_n (k0 := 2) (pc := 34) 0 hX (by decide +kernel) rfl rfl ?_
      exact J_iret (pc := 35) hX (by decide +kernel) rfl trivial
    · refine J_iload_n (k0 := 2) (pc := 18) 0 hX (by decide +kernel) rfl rfl ?_
      refine J_iload_n (k0 := 3) (pc := 19) 1 hX (by decide +kernel) rfl rfl ?_
      refine J_irem (pc := 20) hX (by decide +kernel) (fun _ => ?_)
      refine J_istore (pc := 21) [(5, .int (jrem v2 v3)), (2, .int v2), (3, .int v3), (4, .int v4)] hX (by decide +kernel) (by decide) rfl ?_
      refine J_iload_n (k0 := 3) (pc := 23) 2 hX (by decide +kernel) rfl rfl ?_
      refine J_istore_n (k0 := 2) (pc := 24) [(2, .int v3), (5, .int (jrem v2 v3)), (3, .int v3), (4, .int v4)] hX (by decide +kernel) rfl (by decide) rfl ?_
      refine J_iload (pc := 25) 1 hX (by decide +kernel) rfl ?_
      refine J_istore_n (k0 := 3) (pc := 27) [(3, .int (jrem v2 v3)), (2, .int v3), (5, .int (jrem v2 v3)), (4, .int v4)] hX (by decide +kernel) rfl (by decide) rfl ?_
      refine J_iinc (pc := 28) (n := 1) 3 [(4, .int (v4 + 1)), (3, .int (jrem v2 v3)), (2, .int v3), (5, .int (jrem v2 v3))] hX (by decide +kernel) rfl rfl (by decide) rfl ?_
      refine J_goto (pc := 31) (off := -24) (tgt := 7) hX (by decide +kernel) (by decide +kernel) ?_
      exact J_sub [2, 1, 0] _ rfl (hk7 v3 (jrem v2 v3) (v4 + 1) μ)
set_option maxRecDepth 100000 in
set_option maxHeartbeats 4000000 in
theorem jSm_measure_7 {X : Cx} {l : Launch} {G : Gx} {y : Ly}   (hX : Ok X l G prog_8_method_13_code 6 (some .int) "SaltFigures$Sums")    : ∀ (fu : Nat) (v2 : Int32) (v3 : Int32) (v4 : Int32) (μ : Mu), J X G 6 1 y (emy y) rvI tpT 7 [(2, .int v2), (3, .int v3), (4, .int v4)] [] (μ, y) (Sm_measure_7    fu v2 v3 v4 μ) := by
  intro fu
  induction fu with
  | zero => intros; exact J_none
  | succ fu ih => intro v2 v3 v4 μ; exact jSm_measure_7b  hX   ih v2 v3 v4 μ
set_option maxRecDepth 100000 in
set_option maxHeartbeats 4000000 in
theorem jSm_measure {X : Cx} {l : Launch} {G : Gx} {y : Ly}   (hX : Ok X l G prog_8_method_13_code 6 (some .int) "SaltFigures$Sums") (v0 : Int32) (v1 : Int32) (μ : Mu) : J X G 6 1 y (emy y) rvI tpT 0 [(0, .int v0), (1, .int v1)] [] (μ, y) (Sm_measure  v0 v1 μ) := by
  unfold Sm_measure
  refine J_iload_n (k0 := 0) (pc := 0) 0 hX (by decide +kernel) rfl rfl ?_
  refine J_istore_n (k0 := 2) (pc := 1) [(2, .int v0), (0, .int v0), (1, .int v1)] hX (by decide +kernel) rfl (by decide) rfl ?_
  refine J_iload_n (k0 := 1) (pc := 2) 2 hX (by decide +kernel) rfl rfl ?_
  refine J_istore_n (k0 := 3) (pc := 3) [(3, .int v1), (2, .int v0), (0, .int v0), (1, .int v1)] hX (by decide +kernel) rfl (by decide) rfl ?_
  refine J_iconst (pc := 4) (n := 0) (v := 0) hX (by decide +kernel) (by decide +kernel) ?_
  refine J_istore (pc := 5) [(4, .int 0), (3, .int v1), (2, .int v0), (0, .int v0), (1, .int v1)] hX (by decide +kernel) (by decide) rfl ?_
  exact J_sub [2, 1, 0] _ rfl (jSm_measure_7 hX FU v0 v1 0 μ)
set_option maxRecDepth 100000 in
set_option maxHeartbeats 4000000 in
theorem c_Sm_measure {l : Launch} {G : Gx} {y : Ly}   (v0 : Int32) (v1 : Int32) (μ : Mu) : Cn l G ⟨"SaltFigures$Sums", "measure", "(II)I"⟩ prog_8_method_13_code 6 (some .int) 1 [.int v0, .int v1] (μ, y) (emy y) rvI tpT (Sm_measure  v0 v1 μ) := cn_of (by decide +kernel) (Nat.le_of_ble_eq_true rfl) (fun _ _ _ => ⟨List.prefix_refl _, trivial⟩) (fun X hX _ => jSm_measure  hX v0 v1 μ)

def Th_atOnce_56 (a tt : Nat) (kb4 : Int32 → Int32 → Mu → Option (Int32 × Mu))  (v1 : Int32) (v2 : Int32) (v3 : Int32)  (μ : Mu) : Option (Int32 × Mu) := kb4 v2 (v3 + 1) μ
def Th_atOnce_4b (a tt : Nat)  (kb4 : Int32 → Int32 → Mu → Option (Int32 × Mu)) (v1 : Int32) (v2 : Int32) (v3 : Int32)  (μ : Mu) : Option (Int32 × Mu) := gF μ (tt + 11) 3 (fun x1 => (if x1 ≤ v3 then some (v2, μ) else (if ((jshr v1 v3) &&& 1) = 1 then cl (Rw_at (tt + 11) 6 v3 μ) (fun x3 μ2 => cl (Sm_measure v2 x3 μ2) (fun x5 μ4 => nz (jmax 1 x5) (Th_atOnce_56 a tt kb4 v1 (v2 * (x3 / (jmax 1 x5))) v3 μ4))) else Th_atOnce_56 a tt kb4 v1 v2 v3 μ)))
def Th_atOnce_4 (a tt : Nat)  (v1 : Int32) (fu : Nat) : Int32 → Int32 → Mu → Option (Int32 × Mu) := lp (fun kb => Th_atOnce_4b a tt  kb v1) (fun _ _ _ => none) fu
def Th_atOnce (a tt : Nat) (v1 : Int32) (μ : Mu) : Option (Int32 × Mu) := Th_atOnce_4 a tt v1 FU 1 0 μ
set_option maxRecDepth 100000 in
set_option maxHeartbeats 4000000 in
theorem jTh_atOnce_56 {X : Cx} {l : Launch} {G : Gx} {y : Ly} {a tt : Nat} (hL : LyTh y a tt) (hX : Ok X l G prog_10_method_17_code 5 (some .int) "SaltFigures$Thinker")  (v1 : Int32) (v2 : Int32) (v3 : Int32)  {kb4 : Int32 → Int32 → Mu → Option (Int32 × Mu)} (hk4 : ∀ (v2 : Int32) (v3 : Int32) (μ : Mu), J X G 5 3 y (emy y) rvI tpT 4 [(0, .ref (G.1 + a)), (1, .int v1), (2, .int v2), (3, .int v3)] [] (μ, y) (kb4 v2 v3 μ)) (μ : Mu) : J X G 5 3 y (emy y) rvI tpT 56 [(0, .ref (G.1 + a)), (1, .int v1), (2, .int v2), (3, .int v3)] [] (μ, y) (Th_atOnce_56 a tt kb4  v1 v2 v3  μ) := by
  unfold Th_atOnce_56
  refine J_iinc (pc := 56) (n := 1) 3 [(3, .int (v3 + 1)), (0, .ref (G.1 + a)), (1, .int v1), (2, .int v2)] hX (by decide +kernel) rfl rfl (by decide) rfl ?_
  refine J_goto (pc := 59) (off := -55) (tgt := 4) hX (by decide +kernel) (by decide +kernel) ?_
  exact J_sub [1, 2, 3, 0] _ rfl (hk4 v2 (v3 + 1) μ)
set_option maxRecDepth 100000 in
set_option maxHeartbeats 4000000 in
theorem jTh_atOnce_4b {X : Cx} {l : Launch} {G : Gx} {y : Ly} {a tt : Nat} (hL : LyTh y a tt) (hX : Ok X l G prog_10_method_17_code 5 (some .int) "SaltFigures$Thinker") (v1 : Int32)  {kb4 : Int32 → Int32 → Mu → Option (Int32 × Mu)}  (hk4 : ∀ (v2 : Int32) (v3 : Int32) (μ : Mu), J X G 5 3 y (emy y) rvI tpT 4 [(0, .ref (G.1 + a)), (1, .int v1), (2, .int v2), (3, .int v3)] [] (μ, y) (kb4 v2 v3 μ)) (v2 : Int32) (v3 : Int32)  (μ : Mu) : J X G 5 3 y (emy y) rvI tpT 4 [(0, .ref (G.1 + a)), (1, .int v1), (2, .int v2), (3, .int v3)] [] (μ, y) (Th_atOnce_4b a tt  kb4 v1 v2 v3  μ) := by
  unfold Th_atOnce_4b
  refine J_iload_n (k0 := 3) (pc := 4) 3 hX (by decide +kernel) rfl rfl ?_
  refine J_aload_n (k0 := 0) (pc := 5) 0 hX (by decide +kernel) rfl rfl ?_
  refine J_gr (pc := 6) hX (by decide +kernel) fl_Th_18 hL.1 rfl hL.2.1.1 ?_
  refine J_gr (pc := 9) hX (by decide +kernel) fl_Th_94 hL.2.1.2.1 rfl hL.2.1.2.2.2.2.2.2.2.1.1 ?_
  refine J_gF (pc := 12) hX (by decide +kernel) fl_Th_28 hL.2.1.2.2.2.2.2.2.2.1.2.1 rfl (fun x1 => ?_)
  refine J_icmp_ge (pc := 15) (off := 47) (tgt := 62) hX (by decide +kernel) (by decide +kernel) (fun _ => ?_) (fun _ => ?_)
  · refine J_iload_n (k0 := 2) (pc := 62) 2 hX (by decide +kernel) rfl rfl ?_
    exact J_iret (pc := 63) hX (by decide +kernel) rfl trivial
  · refine J_iload_n (k0 := 1) (pc := 18) 1 hX (by decide +kernel) rfl rfl ?_
    refine J_iload_n (k0 := 3) (pc := 19) 3 hX (by decide +kernel) rfl rfl ?_
    refine J_ishr (pc := 20) hX (by decide +kernel) ?_
    refine J_iconst (pc := 21) (n := 1) (v := 1) hX (by decide +kernel) (by decide +kernel) ?_
    refine J_iand (pc := 22) hX (by decide +kernel) ?_
    refine J_iconst (pc := 23) (n := 1) (v := 1) hX (by decide +kernel) (by decide +kernel) ?_
    refine J_icmp_ne (pc := 24) (off := 32) (tgt := 56) hX (by decide +kernel) (by decide +kernel) (fun _ => ?_) (fun _ => ?_)
    · exact J_sub [0, 1, 2, 3] _ rfl (jTh_atOnce_56 hL hX v1 v2 v3 hk4 μ)
    · refine J_aload_n (k0 := 0) (pc := 27) 0 hX (by decide +kernel) rfl rfl ?_
      refine J_gr (pc := 28) hX (by decide +kernel) fl_Th_18 hL.1 rfl hL.2.1.1 ?_
      refine J_gr (pc := 31) hX (by decide +kernel) fl_Th_94 hL.2.1.2.1 rfl hL.2.1.2.2.2.2.2.2.2.1.1 ?_
      refine J_iload_n (k0 := 3) (pc := 34) 3 hX (by decide +kernel) rfl rfl ?_
      refine J_cVi (pc := 35) (idx := 34) [.int v3] hX (by decide +kernel) (mq mt_4 191 (by decide +kernel)) mv_Rw_at hL.2.1.2.2.2.2.2.2.2.1.2.1 rfl rfl (Nat.le_of_ble_eq_true rfl) (Nat.le_of_ble_eq_true rfl) (c_Rw_at hL.2.1.2.2.2.2.2.2.2.1.2 v3 μ) (fun x3 μ2 => ?_)
      refine J_istore (pc := 38) [(4, .int x3), (0, .ref (G.1 + a)), (1, .int v1), (2, .int v2), (3, .int v3)] hX (by decide +kernel) (by decide) rfl ?_
      refine J_iload_n (k0 := 2) (pc := 40) 3 hX (by decide +kernel) rfl rfl ?_
      refine J_iload (pc := 41) 0 hX (by decide +kernel) rfl ?_
      refine J_iconst (pc := 43) (n := 1) (v := 1) hX (by decide +kernel) (by decide +kernel) ?_
      refine J_iload_n (k0 := 2) (pc := 44) 3 hX (by decide +kernel) rfl rfl ?_
      refine J_iload (pc := 45) 0 hX (by decide +kernel) rfl ?_
      refine J_cSi (pc := 47) (idx := 110) [.int v2, .int x3] hX (by decide +kernel) (mq mt_5 92 (by decide +kernel)) mv_Sm_measure rfl rfl (Nat.le_of_ble_eq_true rfl) (Nat.le_of_ble_eq_true rfl) (c_Sm_measure v2 x3 μ2) (fun x5 μ4 => ?_)
      refine J_mmax (pc := 50) (idx := 100) hX (by decide +kernel) (mq mt_5 95 (by decide +kernel)) (Nat.le_of_ble_eq_true rfl) (Nat.le_of_ble_eq_true rfl) ?_
      refine J_idiv (pc := 53) hX (by decide +kernel) (fun _ => ?_)
      refine J_imul (pc := 54) hX (by decide +kernel) ?_
      refine J_istore_n (k0 := 2) (pc := 55) [(2, .int (v2 * (x3 / (jmax 1 x5)))), (4, .int x3), (0, .ref (G.1 + a)), (1, .int v1), (3, .int v3)] hX (by decide +kernel) rfl (by decide) rfl ?_
      exact J_sub [2, 3, 0, 4] _ rfl (jTh_atOnce_56 hL hX v1 (v2 * (x3 / (jmax 1 x5))) v3 hk4 μ4)
set_option maxRecDepth 100000 in
set_option maxHeartbeats 4000000 in
theorem jTh_atOnce_4 {X : Cx} {l : Launch} {G : Gx} {y : Ly} {a tt : Nat} (hL : LyTh y a tt) (hX : Ok X l G prog_10_method_17_code 5 (some .int) "SaltFigures$Thinker") (v1 : Int32)   : ∀ (fu : Nat) (v2 : Int32) (v3 : Int32) (μ : Mu), J X G 5 3 y (emy y) rvI tpT 4 [(0, .ref (G.1 + a)), (1, .int v1), (2, .int v2), (3, .int v3)] [] (μ, y) (Th_atOnce_4 a tt  v1 fu v2 v3 μ) := by
  intro fu
  induction fu with
  | zero => intros; exact J_none
  | succ fu ih => intro v2 v3 μ; exact jTh_atOnce_4b hL hX v1  ih v2 v3 μ
set_option maxRecDepth 100000 in
set_option maxHeartbeats 4000000 in
theorem jTh_atOnce {X : Cx} {l : Launch} {G : Gx} {y : Ly} {a tt : Nat} (hL : LyTh y a tt) (hX : Ok X l G prog_10_method_17_code 5 (some .int) "SaltFigures$Thinker") (v1 : Int32) (μ : Mu) : J X G 5 3 y (emy y) rvI tpT 0 [(0, .ref (G.1 + a)), (1, .int v1)] [] (μ, y) (Th_atOnce a tt v1 μ) := by
  unfold Th_atOnce
  refine J_iconst (pc := 0) (n := 1) (v := 1) hX (by decide +kernel) (by decide +kernel) ?_
  refine J_istore_n (k0 := 2) (pc := 1) [(2, .int 1), (0, .ref (G.1 + a)), (1, .int v1)] hX (by decide +kernel) rfl (by decide) rfl ?_
  refine J_iconst (pc := 2) (n := 0) (v := 0) hX (by decide +kernel) (by decide +kernel) ?_
  refine J_istore_n (k0 := 3) (pc := 3) [(3, .int 0), (2, .int 1), (0, .ref (G.1 + a)), (1, .int v1)] hX (by decide +kernel) rfl (by decide) rfl ?_
  exact J_sub [2, 3, 1, 0] _ rfl (jTh_atOnce_4 hL hX v1 FU 1 0 μ)
set_option maxRecDepth 100000 in
set_option maxHeartbeats 4000000 in
theorem c_Th_atOnce {l : Launch} {G : Gx} {y : Ly} {a tt : Nat} (hL : LyTh y a tt) (v1 : Int32) (μ : Mu) : Cn l G ⟨"SaltFigures$Thinker", "atOnce", "(I)I"⟩ prog_10_method_17_code 5 (some .int) 3 [.ref (G.1 + a), .int v1] (μ, y) (emy y) rvI tpT (Th_atOnce a tt v1 μ) := cn_of (by decide +kernel) (Nat.le_of_ble_eq_true rfl) (fun _ _ _ => ⟨List.prefix_refl _, trivial⟩) (fun X hX _ => jTh_atOnce hL hX v1 μ)

def Th_allAtOnce (a tt : Nat)  (μ : Mu) : Option (Int32 × Mu) := gF μ (tt + 11) 3 (fun x1 => (if x1 = 0 then some ((-1), μ) else gF μ (tt + 11) 3 (fun x2 => cl (Th_atOnce a tt ((jshl 1 x2) - 1) μ) (fun x4 μ3 => some (x4, μ3)))))
set_option maxRecDepth 100000 in
set_option maxHeartbeats 4000000 in
theorem jTh_allAtOnce {X : Cx} {l : Launch} {G : Gx} {y : Ly} {a tt : Nat} (hL : LyTh y a tt) (hX : Ok X l G prog_10_method_16_code 1 (some .int) "SaltFigures$Thinker")  (μ : Mu) : J X G 1 4 y (emy y) rvI tpT 0 [(0, .ref (G.1 + a))] [] (μ, y) (Th_allAtOnce a tt  μ) := by
  unfold Th_allAtOnce
  refine J_aload_n (k0 := 0) (pc := 0) 0 hX (by decide +kernel) rfl rfl ?_
  refine J_gr (pc := 1) hX (by decide +kernel) fl_Th_18 hL.1 rfl hL.2.1.1 ?_
  refine J_gr (pc := 4) hX (by decide +kernel) fl_Th_94 hL.2.1.2.1 rfl hL.2.1.2.2.2.2.2.2.2.1.1 ?_
  refine J_gF (pc := 7) hX (by decide +kernel) fl_Th_28 hL.2.1.2.2.2.2.2.2.2.1.2.1 rfl (fun x1 => ?_)
  refine J_if_ne (pc := 10) (off := 7) (tgt := 17) hX (by decide +kernel) (by decide +kernel) (fun _ => ?_) (fun _ => ?_)
  · refine J_aload_n (k0 := 0) (pc := 17) 0 hX (by decide +kernel) rfl rfl ?_
    refine J_iconst (pc := 18) (n := 1) (v := 1) hX (by decide +kernel) (by decide +kernel) ?_
    refine J_aload_n (k0 := 0) (pc := 19) 0 hX (by decide +kernel) rfl rfl ?_
    refine J_gr (pc := 20) hX (by decide +kernel) fl_Th_18 hL.1 rfl hL.2.1.1 ?_
    refine J_gr (pc := 23) hX (by decide +kernel) fl_Th_94 hL.2.1.2.1 rfl hL.2.1.2.2.2.2.2.2.2.1.1 ?_
    refine J_gF (pc := 26) hX (by decide +kernel) fl_Th_28 hL.2.1.2.2.2.2.2.2.2.1.2.1 rfl (fun x2 => ?_)
    refine J_ishl (pc := 29) hX (by decide +kernel) ?_
    refine J_iconst (pc := 30) (n := 1) (v := 1) hX (by decide +kernel) (by decide +kernel) ?_
    refine J_isub (pc := 31) hX (by decide +kernel) ?_
    refine J_cVi (pc := 32) (idx := 97) [.int ((jshl 1 x2) - 1)] hX (by decide +kernel) (mq mt_5 88 (by decide +kernel)) mv_Th_atOnce hL.1 rfl rfl (Nat.le_of_ble_eq_true rfl) (Nat.le_of_ble_eq_true rfl) (c_Th_atOnce hL ((jshl 1 x2) - 1) μ) (fun x4 μ3 => ?_)
    exact J_iret (pc := 35) hX (by decide +kernel) rfl trivial
  · refine J_iconst (pc := 13) (n := -1) (v := (-1)) hX (by decide +kernel) (by decide +kernel) ?_
    refine J_goto (pc := 14) (off := 21) (tgt := 35) hX (by decide +kernel) (by decide +kernel) ?_
    exact J_iret (pc := 35) hX (by decide +kernel) rfl trivial
set_option maxRecDepth 100000 in
set_option maxHeartbeats 4000000 in
theorem c_Th_allAtOnce {l : Launch} {G : Gx} {y : Ly} {a tt : Nat} (hL : LyTh y a tt)  (μ : Mu) : Cn l G ⟨"SaltFigures$Thinker", "allAtOnce", "()I"⟩ prog_10_method_16_code 1 (some .int) 4 [.ref (G.1 + a)] (μ, y) (emy y) rvI tpT (Th_allAtOnce a tt  μ) := cn_of (by decide +kernel) (Nat.le_of_ble_eq_true rfl) (fun _ _ _ => ⟨List.prefix_refl _, trivial⟩) (fun X hX _ => jTh_allAtOnce hL hX  μ)

def Jn_bitCount  (v0 : Int32) (μ : Mu) : Option (Int32 × Mu) := some ((((((((v0 - ((jushr v0 1) &&& 1431655765)) &&& 858993459) + ((jushr (v0 - ((jushr v0 1) &&& 1431655765)) 2) &&& 858993459)) + (jushr (((v0 - ((jushr v0 1) &&& 1431655765)) &&& 858993459) + ((jushr (v0 - ((jushr v0 1) &&& 1431655765)) 2) &&& 858993459)) 4)) &&& 252645135) + (jushr (((((v0 - ((jushr v0 1) &&& 1431655765)) &&& 858993459) + ((jushr (v0 - ((jushr v0 1) &&& 1431655765)) 2) &&& 858993459)) + (jushr (((v0 - ((jushr v0 1) &&& 1431655765)) &&& 858993459) + ((jushr (v0 - ((jushr v0 1) &&& 1431655765)) 2) &&& 858993459)) 4)) &&& 252645135) 8)) + (jushr ((((((v0 - ((jushr v0 1) &&& 1431655765)) &&& 858993459) + ((jushr (v0 - ((jushr v0 1) &&& 1431655765)) 2) &&& 858993459)) + (jushr (((v0 - ((jushr v0 1) &&& 1431655765)) &&& 858993459) + ((jushr (v0 - ((jushr v0 1) &&& 1431655765)) 2) &&& 858993459)) 4)) &&& 252645135) + (jushr (((((v0 - ((jushr v0 1) &&& 1431655765)) &&& 858993459) + ((jushr (v0 - ((jushr v0 1) &&& 1431655765)) 2) &&& 858993459)) + (jushr (((v0 - ((jushr v0 1) &&& 1431655765)) &&& 858993459) + ((jushr (v0 - ((jushr v0 1) &&& 1431655765)) 2) &&& 858993459)) 4)) &&& 252645135) 8)) 16)) &&& 63, μ)
set_option maxRecDepth 100000 in
set_option maxHeartbeats 4000000 in
theorem jJn_bitCount {X : Cx} {l : Launch} {G : Gx} {y : Ly}   (hX : Ok X l G prog_15_method_49_code 1 (some .int) "java/lang/Integer") (v0 : Int32) (μ : Mu) : J X G 1 1 y (emy y) rvI tpT 0 [(0, .int v0)] [] (μ, y) (Jn_bitCount  v0 μ) := by
  unfold Jn_bitCount
  refine J_iload_n (k0 := 0) (pc := 0) 0 hX (by decide +kernel) rfl rfl ?_
  refine J_iload_n (k0 := 0) (pc := 1) 0 hX (by decide +kernel) rfl rfl ?_
  refine J_iconst (pc := 2) (n := 1) (v := 1) hX (by decide +kernel) (by decide +kernel) ?_
  refine J_iushr (pc := 3) hX (by decide +kernel) ?_
  refine J_ldcw (pc := 4) (idx := 265) (v := 1431655765) hX (by decide +kernel) (mq mt_5 103 (by decide +kernel)) ?_
  refine J_iand (pc := 7) hX (by decide +kernel) ?_
  refine J_isub (pc := 8) hX (by decide +kernel) ?_
  refine J_istore_n (k0 := 0) (pc := 9) [(0, .int (v0 - ((jushr v0 1) &&& 1431655765)))] hX (by decide +kernel) rfl (by decide) rfl ?_
  refine J_iload_n (k0 := 0) (pc := 10) 0 hX (by decide +kernel) rfl rfl ?_
  refine J_ldcw (pc := 11) (idx := 266) (v := 858993459) hX (by decide +kernel) (mq mt_5 104 (by decide +kernel)) ?_
  refine J_iand (pc := 14) hX (by decide +kernel) ?_
  refine J_iload_n (k0 := 0) (pc := 15) 0 hX (by decide +kernel) rfl rfl ?_
  refine J_iconst (pc := 16) (n := 2) (v := 2) hX (by decide +kernel) (by decide +kernel) ?_
  refine J_iushr (pc := 17) hX (by decide +kernel) ?_
  refine J_ldcw (pc := 18) (idx := 266) (v := 858993459) hX (by decide +kernel) (mq mt_5 104 (by decide +kernel)) ?_
  refine J_iand (pc := 21) hX (by decide +kernel) ?_
  refine J_iadd (pc := 22) hX (by decide +kernel) ?_
  refine J_istore_n (k0 := 0) (pc := 23) [(0, .int (((v0 - ((jushr v0 1) &&& 1431655765)) &&& 858993459) + ((jushr (v0 - ((jushr v0 1) &&& 1431655765)) 2) &&& 858993459)))] hX (by decide +kernel) rfl (by decide) rfl ?_
  refine J_iload_n (k0 := 0) (pc := 24) 0 hX (by decide +kernel) rfl rfl ?_
  refine J_iload_n (k0 := 0) (pc := 25) 0 hX (by decide +kernel) rfl rfl ?_
  refine J_iconst (pc := 26) (n := 4) (v := 4) hX (by decide +kernel) (by decide +kernel) ?_
  refine J_iushr (pc := 27) hX (by decide +kernel) ?_
  refine J_iadd (pc := 28) hX (by decide +kernel) ?_
  refine J_ldcw (pc := 29) (idx := 267) (v := 252645135) hX (by decide +kernel) (mq mt_5 105 (by decide +kernel)) ?_
  refine J_iand (pc := 32) hX (by decide +kernel) ?_
  refine J_istore_n (k0 := 0) (pc := 33) [(0, .int (((((v0 - ((jushr v0 1) &&& 1431655765)) &&& 858993459) + ((jushr (v0 - ((jushr v0 1) &&& 1431655765)) 2) &&& 858993459)) + (jushr (((v0 - ((jushr v0 1) &&& 1431655765)) &&& 858993459) + ((jushr (v0 - ((jushr v0 1) &&& 1431655765)) 2) &&& 858993459)) 4)) &&& 252645135))] hX (by decide +kernel) rfl (by decide) rfl ?_
  refine J_iload_n (k0 := 0) (pc := 34) 0 hX (by decide +kernel) rfl rfl ?_
  refine J_iload_n (k0 := 0) (pc := 35) 0 hX (by decide +kernel) rfl rfl ?_
  refine J_bipush (pc := 36) (n := 8) (v := 8) hX (by decide +kernel) (by decide +kernel) ?_
  refine J_iushr (pc := 38) hX (by decide +kernel) ?_
  refine J_iadd (pc := 39) hX (by decide +kernel) ?_
  refine J_istore_n (k0 := 0) (pc := 40) [(0, .int ((((((v0 - ((jushr v0 1) &&& 1431655765)) &&& 858993459) + ((jushr (v0 - ((jushr v0 1) &&& 1431655765)) 2) &&& 858993459)) + (jushr (((v0 - ((jushr v0 1) &&& 1431655765)) &&& 858993459) + ((jushr (v0 - ((jushr v0 1) &&& 1431655765)) 2) &&& 858993459)) 4)) &&& 252645135) + (jushr (((((v0 - ((jushr v0 1) &&& 1431655765)) &&& 858993459) + ((jushr (v0 - ((jushr v0 1) &&& 1431655765)) 2) &&& 858993459)) + (jushr (((v0 - ((jushr v0 1) &&& 1431655765)) &&& 858993459) + ((jushr (v0 - ((jushr v0 1) &&& 1431655765)) 2) &&& 858993459)) 4)) &&& 252645135) 8)))] hX (by decide +kernel) rfl (by decide) rfl ?_
  refine J_iload_n (k0 := 0) (pc := 41) 0 hX (by decide +kernel) rfl rfl ?_
  refine J_iload_n (k0 := 0) (pc := 42) 0 hX (by decide +kernel) rfl rfl ?_
  refine J_bipush (pc := 43) (n := 16) (v := 16) hX (by decide +kernel) (by decide +kernel) ?_
  refine J_iushr (pc := 45) hX (by decide +kernel) ?_
  refine J_iadd (pc := 46) hX (by decide +kernel) ?_
  refine J_istore_n (k0 := 0) (pc := 47) [(0, .int (((((((v0 - ((jushr v0 1) &&& 1431655765)) &&& 858993459) + ((jushr (v0 - ((jushr v0 1) &&& 1431655765)) 2) &&& 858993459)) + (jushr (((v0 - ((jushr v0 1) &&& 1431655765)) &&& 858993459) + ((jushr (v0 - ((jushr v0 1) &&& 1431655765)) 2) &&& 858993459)) 4)) &&& 252645135) + (jushr (((((v0 - ((jushr v0 1) &&& 1431655765)) &&& 858993459) + ((jushr (v0 - ((jushr v0 1) &&& 1431655765)) 2) &&& 858993459)) + (jushr (((v0 - ((jushr v0 1) &&& 1431655765)) &&& 858993459) + ((jushr (v0 - ((jushr v0 1) &&& 1431655765)) 2) &&& 858993459)) 4)) &&& 252645135) 8)) + (jushr ((((((v0 - ((jushr v0 1) &&& 1431655765)) &&& 858993459) + ((jushr (v0 - ((jushr v0 1) &&& 1431655765)) 2) &&& 858993459)) + (jushr (((v0 - ((jushr v0 1) &&& 1431655765)) &&& 858993459) + ((jushr (v0 - ((jushr v0 1) &&& 1431655765)) 2) &&& 858993459)) 4)) &&& 252645135) + (jushr (((((v0 - ((jushr v0 1) &&& 1431655765)) &&& 858993459) + ((jushr (v0 - ((jushr v0 1) &&& 1431655765)) 2) &&& 858993459)) + (jushr (((v0 - ((jushr v0 1) &&& 1431655765)) &&& 858993459) + ((jushr (v0 - ((jushr v0 1) &&& 1431655765)) 2) &&& 858993459)) 4)) &&& 252645135) 8)) 16)))] hX (by decide +kernel) rfl (by decide) rfl ?_
  refine J_iload_n (k0 := 0) (pc := 48) 0 hX (by decide +kernel) rfl rfl ?_
  refine J_bipush (pc := 49) (n := 63) (v := 63) hX (by decide +kernel) (by decide +kernel) ?_
  refine J_iand (pc := 51) hX (by decide +kernel) ?_
  exact J_iret (pc := 52) hX (by decide +kernel) rfl trivial
set_option maxRecDepth 100000 in
set_option maxHeartbeats 4000000 in
theorem c_Jn_bitCount {l : Launch} {G : Gx} {y : Ly}   (v0 : Int32) (μ : Mu) : Cn l G ⟨"java/lang/Integer", "bitCount", "(I)I"⟩ prog_15_method_49_code 1 (some .int) 1 [.int v0] (μ, y) (emy y) rvI tpT (Jn_bitCount  v0 μ) := cn_of (by decide +kernel) (Nat.le_of_ble_eq_true rfl) (fun _ _ _ => ⟨List.prefix_refl _, trivial⟩) (fun X hX _ => jJn_bitCount  hX v0 μ)

def Th_dryMinutes_51 (a tt : Nat) (kb4 : Int32 → Int32 → Mu → Option (Int32 × Mu))  (v1 : Int32) (v3 : Int32) (s0 : Int32) (s1 : Int32) (μ : Mu) : Option (Int32 × Mu) := kb4 (s1 + s0) (v3 + 1) μ
def Th_dryMinutes_4b (a tt : Nat)  (kb4 : Int32 → Int32 → Mu → Option (Int32 × Mu)) (v1 : Int32) (v2 : Int32) (v3 : Int32)  (μ : Mu) : Option (Int32 × Mu) := gF μ (tt + 11) 3 (fun x1 => (if (jshl 1 x1) ≤ v3 then some (v2, μ) else cl (Th_atOnce a tt v3 μ) (fun x3 μ2 => nz (jmax 1 x3) (cl (Jn_bitCount v3 μ2) (fun x5 μ4 => (if (jrem x5 2) = 0 then Th_dryMinutes_51 a tt kb4 v1 v3 (v1 / (jmax 1 x3)) v2 μ4 else Th_dryMinutes_51 a tt kb4 v1 v3 (-(v1 / (jmax 1 x3))) v2 μ4))))))
def Th_dryMinutes_4 (a tt : Nat)  (v1 : Int32) (fu : Nat) : Int32 → Int32 → Mu → Option (Int32 × Mu) := lp (fun kb => Th_dryMinutes_4b a tt  kb v1) (fun _ _ _ => none) fu
def Th_dryMinutes (a tt : Nat) (v1 : Int32) (μ : Mu) : Option (Int32 × Mu) := Th_dryMinutes_4 a tt v1 FU 0 0 μ
set_option maxRecDepth 100000 in
set_option maxHeartbeats 4000000 in
theorem jTh_dryMinutes_51 {X : Cx} {l : Launch} {G : Gx} {y : Ly} {a tt : Nat} (hL : LyTh y a tt) (hX : Ok X l G prog_10_method_15_code 5 (some .int) "SaltFigures$Thinker")  (v1 : Int32) (v3 : Int32) (s0 : Int32) (s1 : Int32) {kb4 : Int32 → Int32 → Mu → Option (Int32 × Mu)} (hk4 : ∀ (v2 : Int32) (v3 : Int32) (μ : Mu), J X G 5 4 y (emy y) rvI tpT 4 [(0, .ref (G.1 + a)), (1, .int v1), (2, .int v2), (3, .int v3)] [] (μ, y) (kb4 v2 v3 μ)) (μ : Mu) : J X G 5 4 y (emy y) rvI tpT 51 [(0, .ref (G.1 + a)), (1, .int v1), (3, .int v3)] [.int s0, .int s1] (μ, y) (Th_dryMinutes_51 a tt kb4  v1 v3 s0 s1 μ) := by
  unfold Th_dryMinutes_51
  refine J_iadd (pc := 51) hX (by decide +kernel) ?_
  refine J_istore_n (k0 := 2) (pc := 52) [(2, .int (s1 + s0)), (0, .ref (G.1 + a)), (1, .int v1), (3, .int v3)] hX (by decide +kernel) rfl (by decide) rfl ?_
  refine J_iinc (pc := 53) (n := 1) 3 [(3, .int (v3 + 1)), (2, .int (s1 + s0)), (0, .ref (G.1 + a)), (1, .int v1)] hX (by decide +kernel) rfl rfl (by decide) rfl ?_
  refine J_goto (pc := 56) (off := -52) (tgt := 4) hX (by decide +kernel) (by decide +kernel) ?_
  exact J_sub [2, 3, 1, 0] _ rfl (hk4 (s1 + s0) (v3 + 1) μ)
set_option maxRecDepth 100000 in
set_option maxHeartbeats 4000000 in
theorem jTh_dryMinutes_4b {X : Cx} {l : Launch} {G : Gx} {y : Ly} {a tt : Nat} (hL : LyTh y a tt) (hX : Ok X l G prog_10_method_15_code 5 (some .int) "SaltFigures$Thinker") (v1 : Int32)  {kb4 : Int32 → Int32 → Mu → Option (Int32 × Mu)}  (hk4 : ∀ (v2 : Int32) (v3 : Int32) (μ : Mu), J X G 5 4 y (emy y) rvI tpT 4 [(0, .ref (G.1 + a)), (1, .int v1), (2, .int v2), (3, .int v3)] [] (μ, y) (kb4 v2 v3 μ)) (v2 : Int32) (v3 : Int32)  (μ : Mu) : J X G 5 4 y (emy y) rvI tpT 4 [(0, .ref (G.1 + a)), (1, .int v1), (2, .int v2), (3, .int v3)] [] (μ, y) (Th_dryMinutes_4b a tt  kb4 v1 v2 v3  μ) := by
  unfold Th_dryMinutes_4b
  refine J_iload_n (k0 := 3) (pc := 4) 3 hX (by decide +kernel) rfl rfl ?_
  refine J_iconst (pc := 5) (n := 1) (v := 1) hX (by decide +kernel) (by decide +kernel) ?_
  refine J_aload_n (k0 := 0) (pc := 6) 0 hX (by decide +kernel) rfl rfl ?_
  refine J_gr (pc := 7) hX (by decide +kernel) fl_Th_18 hL.1 rfl hL.2.1.1 ?_
  refine J_gr (pc := 10) hX (by decide +kernel) fl_Th_94 hL.2.1.2.1 rfl hL.2.1.2.2.2.2.2.2.2.1.1 ?_
  refine J_gF (pc := 13) hX (by decide +kernel) fl_Th_28 hL.2.1.2.2.2.2.2.2.2.1.2.1 rfl (fun x1 => ?_)
  refine J_ishl (pc := 16) hX (by decide +kernel) ?_
  refine J_icmp_ge (pc := 17) (off := 42) (tgt := 59) hX (by decide +kernel) (by decide +kernel) (fun _ => ?_) (fun _ => ?_)
  · refine J_iload_n (k0 := 2) (pc := 59) 2 hX (by decide +kernel) rfl rfl ?_
    exact J_iret (pc := 60) hX (by decide +kernel) rfl trivial
  · refine J_iload_n (k0 := 1) (pc := 20) 1 hX (by decide +kernel) rfl rfl ?_
    refine J_iconst (pc := 21) (n := 1) (v := 1) hX (by decide +kernel) (by decide +kernel) ?_
    refine J_aload_n (k0 := 0) (pc := 22) 0 hX (by decide +kernel) rfl rfl ?_
    refine J_iload_n (k0 := 3) (pc := 23) 3 hX (by decide +kernel) rfl rfl ?_
    refine J_cVi (pc := 24) (idx := 97) [.int v3] hX (by decide +kernel) (mq mt_5 88 (by decide +kernel)) mv_Th_atOnce hL.1 rfl rfl (Nat.le_of_ble_eq_true rfl) (Nat.le_of_ble_eq_true rfl) (c_Th_atOnce hL v3 μ) (fun x3 μ2 => ?_)
    refine J_mmax (pc := 27) (idx := 100) hX (by decide +kernel) (mq mt_5 95 (by decide +kernel)) (Nat.le_of_ble_eq_true rfl) (Nat.le_of_ble_eq_true rfl) ?_
    refine J_idiv (pc := 30) hX (by decide +kernel) (fun _ => ?_)
    refine J_istore (pc := 31) [(4, .int (v1 / (jmax 1 x3))), (0, .ref (G.1 + a)), (1, .int v1), (2, .int v2), (3, .int v3)] hX (by decide +kernel) (by decide) rfl ?_
    refine J_iload_n (k0 := 2) (pc := 33) 3 hX (by decide +kernel) rfl rfl ?_
    refine J_iload_n (k0 := 3) (pc := 34) 4 hX (by decide +kernel) rfl rfl ?_
    refine J_cSi (pc := 35) (idx := 105) [.int v3] hX (by decide +kernel) (mq mt_5 100 (by decide +kernel)) mv_Jn_bitCount rfl rfl (Nat.le_of_ble_eq_true rfl) (Nat.le_of_ble_eq_true rfl) (c_Jn_bitCount v3 μ2) (fun x5 μ4 => ?_)
    refine J_iconst (pc := 38) (n := 2) (v := 2) hX (by decide +kernel) (by decide +kernel) ?_
    refine J_iremK (pc := 39) hX (by decide +kernel) (by decide +kernel) ?_
    refine J_if_ne (pc := 40) (off := 8) (tgt := 48) hX (by decide +kernel) (by decide +kernel) (fun _ => ?_) (fun _ => ?_)
    · refine J_iload (pc := 48) 0 hX (by decide +kernel) rfl ?_
      refine J_ineg (pc := 50) hX (by decide +kernel) ?_
      exact J_sub [1, 2, 4] _ rfl (jTh_dryMinutes_51 hL hX v1 v3 (-(v1 / (jmax 1 x3))) v2 hk4 μ4)
    · refine J_iload (pc := 43) 0 hX (by decide +kernel) rfl ?_
      refine J_goto (pc := 45) (off := 6) (tgt := 51) hX (by decide +kernel) (by decide +kernel) ?_
      exact J_sub [1, 2, 4] _ rfl (jTh_dryMinutes_51 hL hX v1 v3 (v1 / (jmax 1 x3)) v2 hk4 μ4)
set_option maxRecDepth 100000 in
set_option maxHeartbeats 4000000 in
theorem jTh_dryMinutes_4 {X : Cx} {l : Launch} {G : Gx} {y : Ly} {a tt : Nat} (hL : LyTh y a tt) (hX : Ok X l G prog_10_method_15_code 5 (some .int) "SaltFigures$Thinker") (v1 : Int32)   : ∀ (fu : Nat) (v2 : Int32) (v3 : Int32) (μ : Mu), J X G 5 4 y (emy y) rvI tpT 4 [(0, .ref (G.1 + a)), (1, .int v1), (2, .int v2), (3, .int v3)] [] (μ, y) (Th_dryMinutes_4 a tt  v1 fu v2 v3 μ) := by
  intro fu
  induction fu with
  | zero => intros; exact J_none
  | succ fu ih => intro v2 v3 μ; exact jTh_dryMinutes_4b hL hX v1  ih v2 v3 μ
set_option maxRecDepth 100000 in
set_option maxHeartbeats 4000000 in
theorem jTh_dryMinutes {X : Cx} {l : Launch} {G : Gx} {y : Ly} {a tt : Nat} (hL : LyTh y a tt) (hX : Ok X l G prog_10_method_15_code 5 (some .int) "SaltFigures$Thinker") (v1 : Int32) (μ : Mu) : J X G 5 4 y (emy y) rvI tpT 0 [(0, .ref (G.1 + a)), (1, .int v1)] [] (μ, y) (Th_dryMinutes a tt v1 μ) := by
  unfold Th_dryMinutes
  refine J_iconst (pc := 0) (n := 0) (v := 0) hX (by decide +kernel) (by decide +kernel) ?_
  refine J_istore_n (k0 := 2) (pc := 1) [(2, .int 0), (0, .ref (G.1 + a)), (1, .int v1)] hX (by decide +kernel) rfl (by decide) rfl ?_
  refine J_iconst (pc := 2) (n := 0) (v := 0) hX (by decide +kernel) (by decide +kernel) ?_
  refine J_istore_n (k0 := 3) (pc := 3) [(3, .int 0), (2, .int 0), (0, .ref (G.1 + a)), (1, .int v1)] hX (by decide +kernel) rfl (by decide) rfl ?_
  exact J_sub [2, 3, 1, 0] _ rfl (jTh_dryMinutes_4 hL hX v1 FU 0 0 μ)
set_option maxRecDepth 100000 in
set_option maxHeartbeats 4000000 in
theorem c_Th_dryMinutes {l : Launch} {G : Gx} {y : Ly} {a tt : Nat} (hL : LyTh y a tt) (v1 : Int32) (μ : Mu) : Cn l G ⟨"SaltFigures$Thinker", "dryMinutes", "(I)I"⟩ prog_10_method_15_code 5 (some .int) 4 [.ref (G.1 + a), .int v1] (μ, y) (emy y) rvI tpT (Th_dryMinutes a tt v1 μ) := cn_of (by decide +kernel) (Nat.le_of_ble_eq_true rfl) (fun _ _ _ => ⟨List.prefix_refl _, trivial⟩) (fun X hX _ => jTh_dryMinutes hL hX v1 μ)

def Sf_drips (a : Nat) (v1 : Int32) (μ : Mu) : Option (Int32 × Mu) := (if v1 = ((-1)) then cl (Th_allAtOnce (a + 45) (a + 1 + 17) μ) (fun x6 μ5 => some (x6, μ5)) else cl (Sf_within v1 0 10000 μ) (fun x2 μ1 => (if x2 = 0 then some ((-1), μ1) else cl (Th_dryMinutes (a + 45) (a + 1 + 17) v1 μ1) (fun x4 μ3 => some (x4, μ3)))))
set_option maxRecDepth 100000 in
set_option maxHeartbeats 4000000 in
theorem jSf_drips {X : Cx} {l : Launch} {G : Gx} {y : Ly} {a : Nat} (hL : LySf y a ) (hX : Ok X l G prog_1_method_31_code 2 (some .int) "SaltFigures") (v1 : Int32) (μ : Mu) : J X G 2 5 y (emy y) rvI tpT 0 [(0, .ref (G.1 + a)), (1, .int v1)] [] (μ, y) (Sf_drips a v1 μ) := by
  unfold Sf_drips
  refine J_iload_n (k0 := 1) (pc := 0) 1 hX (by decide +kernel) rfl rfl ?_
  refine J_iconst (pc := 1) (n := -1) (v := (-1)) hX (by decide +kernel) (by decide +kernel) ?_
  refine J_icmp_ne (pc := 2) (off := 11) (tgt := 13) hX (by decide +kernel) (by decide +kernel) (fun _ => ?_) (fun _ => ?_)
  · refine J_iload_n (k0 := 1) (pc := 13) 1 hX (by decide +kernel) rfl rfl ?_
    refine J_iconst (pc := 14) (n := 0) (v := 0) hX (by decide +kernel) (by decide +kernel) ?_
    refine J_sipush (pc := 15) (n := 10000) (v := 10000) hX (by decide +kernel) (by decide +kernel) ?_
    refine J_cSi (pc := 18) (idx := 68) [.int v1, .int 0, .int 10000] hX (by decide +kernel) (mq mt_2 148 (by decide +kernel)) mv_Sf_within rfl rfl (Nat.le_of_ble_eq_true rfl) (Nat.le_of_ble_eq_true rfl) (c_Sf_within v1 0 10000 μ) (fun x2 μ1 => ?_)
    refine J_if_eq (pc := 21) (off := 14) (tgt := 35) hX (by decide +kernel) (by decide +kernel) (fun _ => ?_) (fun _ => ?_)
    · refine J_iconst (pc := 35) (n := -1) (v := (-1)) hX (by decide +kernel) (by decide +kernel) ?_
      exact J_iret (pc := 36) hX (by decide +kernel) rfl trivial
    · refine J_aload_n (k0 := 0) (pc := 24) 0 hX (by decide +kernel) rfl rfl ?_
      refine J_gr (pc := 25) hX (by decide +kernel) fl_Sf_43 hL.1 rfl hL.2.2.2.2.1.1 ?_
      refine J_iload_n (k0 := 1) (pc := 28) 1 hX (by decide +kernel) rfl rfl ?_
      refine J_cVi (pc := 29) (idx := 304) [.int v1] hX (by decide +kernel) (mq mt_5 96 (by decide +kernel)) mv_Th_dryMinutes hL.2.2.2.2.1.2.1 rfl rfl (Nat.le_of_ble_eq_true rfl) (Nat.le_of_ble_eq_true rfl) (c_Th_dryMinutes hL.2.2.2.2.1.2 v1 μ1) (fun x4 μ3 => ?_)
      refine J_goto (pc := 32) (off := 4) (tgt := 36) hX (by decide +kernel) (by decide +kernel) ?_
      exact J_iret (pc := 36) hX (by decide +kernel) rfl trivial
  · refine J_aload_n (k0 := 0) (pc := 5) 0 hX (by decide +kernel) rfl rfl ?_
    refine J_gr (pc := 6) hX (by decide +kernel) fl_Sf_43 hL.1 rfl hL.2.2.2.2.1.1 ?_
    refine J_cVi (pc := 9) (idx := 301) [] hX (by decide +kernel) (mq mt_5 84 (by decide +kernel)) mv_Th_allAtOnce hL.2.2.2.2.1.2.1 rfl rfl (Nat.le_of_ble_eq_true rfl) (Nat.le_of_ble_eq_true rfl) (c_Th_allAtOnce hL.2.2.2.2.1.2 μ) (fun x6 μ5 => ?_)
    exact J_iret (pc := 12) hX (by decide +kernel) rfl trivial
set_option maxRecDepth 100000 in
set_option maxHeartbeats 4000000 in
theorem c_Sf_drips {l : Launch} {G : Gx} {y : Ly} {a : Nat} (hL : LySf y a ) (v1 : Int32) (μ : Mu) : Cn l G ⟨"SaltFigures", "drips", "(I)I"⟩ prog_1_method_31_code 2 (some .int) 5 [.ref (G.1 + a), .int v1] (μ, y) (emy y) rvI tpT (Sf_drips a v1 μ) := cn_of (by decide +kernel) (Nat.le_of_ble_eq_true rfl) (fun _ _ _ => ⟨List.prefix_refl _, trivial⟩) (fun X hX _ => jSf_drips hL hX v1 μ)
