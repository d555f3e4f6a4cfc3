/-! THE CLASS: models and their rows (by program) -/
def Sf_of (a : Nat) (v1 : Int32) (v2 : Int32) (μ : Mu) : Option (Int32 × Mu) := cl (Fg_isPerson (a + 1 + 1) v1 μ) (fun x2 μ1 => (if x2 = 0 then some ((-2), μ1) else cl (Sf_within v2 0 10 μ1) (fun x4 μ3 => (if x4 = 0 then some ((-2), μ3) else (if 7 ≤ v2 then (if v2 = 10 then cl (Tx_heirOf (a + 1 + 5) v1 μ3) (fun x8 μ7 => some (x8, μ7)) else cl (Dy_asks (a + 39) (a + 1) (a + 1 + 1) v1 ((v2 - 7) + 1) μ3) (fun x6 μ5 => some (x6, μ5))) else cl (Fg_get (a + 1 + 1) v1 v2 μ3) (fun x10 μ9 => some (x10, μ9)))))))
set_option maxRecDepth 100000 in
set_option maxHeartbeats 4000000 in
theorem jSf_of {X : Cx} {l : Launch} {G : Gx} {y : Ly} {a : Nat} (hL : LySf y a ) (hX : Ok X l G prog_1_method_13_code 4 (some .int) "SaltFigures") (v1 : Int32) (v2 : Int32) (μ : Mu) : J X G 4 5 y (emy y) rvI tpT 0 [(0, .ref (G.1 + a)), (1, .int v1), (2, .int v2)] [] (μ, y) (Sf_of a v1 v2 μ) := by
  unfold Sf_of
  refine J_aload_n (k0 := 0) (pc := 0) 0 hX (by decide +kernel) rfl rfl ?_
  refine J_gr (pc := 1) hX (by decide +kernel) fl_Sf_12 hL.1 rfl hL.2.1.1 ?_
  refine J_gr (pc := 4) hX (by decide +kernel) fl_Sf_58 hL.2.1.2.1 rfl hL.2.1.2.2.1.1 ?_
  refine J_astore_n (k0 := 3) (pc := 7) [(3, .ref (G.1 + (a + 1 + 1))), (0, .ref (G.1 + a)), (1, .int v1), (2, .int v2)] hX (by decide +kernel) rfl (by decide) rfl ?_
  refine J_aload_n (k0 := 3) (pc := 8) 0 hX (by decide +kernel) rfl rfl ?_
  refine J_iload_n (k0 := 1) (pc := 9) 2 hX (by decide +kernel) rfl rfl ?_
  refine J_cVi (pc := 10) (idx := 183) [.int v1] hX (by decide +kernel) (mq mt_4 111 (by decide +kernel)) mv_Fg_isPerson hL.2.1.2.2.1.2.1 rfl rfl (Nat.le_of_ble_eq_true rfl) (Nat.le_of_ble_eq_true rfl) (c_Fg_isPerson hL.2.1.2.2.1.2 v1 μ) (fun x2 μ1 => ?_)
  refine J_if_eq (pc := 13) (off := 13) (tgt := 26) hX (by decide +kernel) (by decide +kernel) (fun _ => ?_) (fun _ => ?_)
  · refine J_bipush (pc := 26) (n := -2) (v := (-2)) hX (by decide +kernel) (by decide +kernel) ?_
    exact J_iret (pc := 28) hX (by decide +kernel) rfl trivial
  · refine J_iload_n (k0 := 2) (pc := 16) 3 hX (by decide +kernel) rfl rfl ?_
    refine J_iconst (pc := 17) (n := 0) (v := 0) hX (by decide +kernel) (by decide +kernel) ?_
    refine J_bipush (pc := 18) (n := 10) (v := 10) hX (by decide +kernel) (by decide +kernel) ?_
    refine J_cSi (pc := 20) (idx := 68) [.int v2, .int 0, .int 10] hX (by decide +kernel) (mq mt_2 148 (by decide +kernel)) mv_Sf_within rfl rfl (Nat.le_of_ble_eq_true rfl) (Nat.le_of_ble_eq_true rfl) (c_Sf_within v2 0 10 μ1) (fun x4 μ3 => ?_)
    refine J_if_ne (pc := 23) (off := 6) (tgt := 29) hX (by decide +kernel) (by decide +kernel) (fun _ => ?_) (fun _ => ?_)
    · refine J_iload_n (k0 := 2) (pc := 29) 3 hX (by decide +kernel) rfl rfl ?_
      refine J_bipush (pc := 30) (n := 7) (v := 7) hX (by decide +kernel) (by decide +kernel) ?_
      refine J_icmp_ge (pc := 32) (off := 10) (tgt := 42) hX (by decide +kernel) (by decide +kernel) (fun _ => ?_) (fun _ => ?_)
      · refine J_iload_n (k0 := 2) (pc := 42) 3 hX (by decide +kernel) rfl rfl ?_
        refine J_bipush (pc := 43) (n := 10) (v := 10) hX (by decide +kernel) (by decide +kernel) ?_
        refine J_icmp_ne (pc := 45) (off := 17) (tgt := 62) hX (by decide +kernel) (by decide +kernel) (fun _ => ?_) (fun _ => ?_)
        · refine J_aload_n (k0 := 0) (pc := 62) 1 hX (by decide +kernel) rfl rfl ?_
          refine J_gr (pc := 63) hX (by decide +kernel) fl_Sf_21 hL.1 rfl hL.2.2.1.1 ?_
          refine J_aload_n (k0 := 3) (pc := 66) 0 hX (by decide +kernel) rfl rfl ?_
          refine J_iload_n (k0 := 1) (pc := 67) 2 hX (by decide +kernel) rfl rfl ?_
          refine J_iload_n (k0 := 2) (pc := 68) 3 hX (by decide +kernel) rfl rfl ?_
          refine J_bipush (pc := 69) (n := 7) (v := 7) hX (by decide +kernel) (by decide +kernel) ?_
          refine J_isub (pc := 71) hX (by decide +kernel) ?_
          refine J_iconst (pc := 72) (n := 1) (v := 1) hX (by decide +kernel) (by decide +kernel) ?_
          refine J_iadd (pc := 73) hX (by decide +kernel) ?_
          refine J_cVi (pc := 74) (idx := 189) [.ref (G.1 + (a + 1 + 1)), .int v1, .int ((v2 - 7) + 1)] hX (by decide +kernel) (mq mt_4 116 (by decide +kernel)) mv_Dy_asks hL.2.2.1.2.1 rfl rfl (Nat.le_of_ble_eq_true rfl) (Nat.le_of_ble_eq_true rfl) (c_Dy_asks hL.2.2.1.2 hL.2.1.2.2.1.2 v1 ((v2 - 7) + 1) μ3) (fun x6 μ5 => ?_)
          exact J_iret (pc := 77) hX (by decide +kernel) rfl trivial
        · refine J_aload_n (k0 := 0) (pc := 48) 1 hX (by decide +kernel) rfl rfl ?_
          refine J_gr (pc := 49) hX (by decide +kernel) fl_Sf_12 hL.1 rfl hL.2.1.1 ?_
          refine J_gr (pc := 52) hX (by decide +kernel) fl_Sf_162 hL.2.1.2.1 rfl hL.2.1.2.2.2.2.1.1 ?_
          refine J_iload_n (k0 := 1) (pc := 55) 2 hX (by decide +kernel) rfl rfl ?_
          refine J_cVi (pc := 56) (idx := 186) [.int v1] hX (by decide +kernel) (mq mt_4 115 (by decide +kernel)) mv_Tx_heirOf hL.2.1.2.2.2.2.1.2.1 rfl rfl (Nat.le_of_ble_eq_true rfl) (Nat.le_of_ble_eq_true rfl) (c_Tx_heirOf hL.2.1.2.2.2.2.1.2 v1 μ3) (fun x8 μ7 => ?_)
          refine J_goto (pc := 59) (off := 18) (tgt := 77) hX (by decide +kernel) (by decide +kernel) ?_
          exact J_iret (pc := 77) hX (by decide +kernel) rfl trivial
      · refine J_aload_n (k0 := 3) (pc := 35) 0 hX (by decide +kernel) rfl rfl ?_
        refine J_iload_n (k0 := 1) (pc := 36) 2 hX (by decide +kernel) rfl rfl ?_
        refine J_iload_n (k0 := 2) (pc := 37) 3 hX (by decide +kernel) rfl rfl ?_
        refine J_cVi (pc := 38) (idx := 114) [.int v1, .int v2] hX (by decide +kernel) (mq mt_2 180 (by decide +kernel)) mv_Fg_get hL.2.1.2.2.1.2.1 rfl rfl (Nat.le_of_ble_eq_true rfl) (Nat.le_of_ble_eq_true rfl) (c_Fg_get hL.2.1.2.2.1.2 v1 v2 μ3) (fun x10 μ9 => ?_)
        exact J_iret (pc := 41) hX (by decide +kernel) rfl trivial
    · refine J_bipush (pc := 26) (n := -2) (v := (-2)) hX (by decide +kernel) (by decide +kernel) ?_
      exact J_iret (pc := 28) hX (by decide +kernel) rfl trivial
set_option maxRecDepth 100000 in
set_option maxHeartbeats 4000000 in
theorem c_Sf_of {l : Launch} {G : Gx} {y : Ly} {a : Nat} (hL : LySf y a ) (v1 : Int32) (v2 : Int32) (μ : Mu) : Cn l G ⟨"SaltFigures", "of", "(II)I"⟩ prog_1_method_13_code 4 (some .int) 5 [.ref (G.1 + a), .int v1, .int v2] (μ, y) (emy y) rvI tpT (Sf_of a v1 v2 μ) := cn_of (by decide +kernel) (Nat.le_of_ble_eq_true rfl) (fun _ _ _ => ⟨List.prefix_refl _, trivial⟩) (fun X hX _ => jSf_of hL hX v1 v2 μ)

def Fg_come (a : Nat) (v1 : Int32) (μ : Mu) : Option (Int32 × Mu) := gF μ a 3 (fun x1 => (if x1 < 16 then gF μ a 3 (fun x2 => gF μ a 3 (fun x3 => pF μ a 3 (x3 + 1) (fun μ4 => cl (Fg_put a x2 0 v1 μ4) (fun _ μ5 => cl (Fg_put a x2 5 1 μ5) (fun _ μ6 => cl (Fg_put a x2 6 ((-1)) μ6) (fun _ μ7 => some (x2, μ7))))))) else some ((-1), μ)))
set_option maxRecDepth 100000 in
set_option maxHeartbeats 4000000 in
theorem jFg_come {X : Cx} {l : Launch} {G : Gx} {y : Ly} {a : Nat} (hL : LyFg y a ) (hX : Ok X l G prog_3_method_3_code 3 (some .int) "SaltFigures$Figures") (v1 : Int32) (μ : Mu) : J X G 3 2 y (emy y) rvI tpT 0 [(0, .ref (G.1 + a)), (1, .int v1)] [] (μ, y) (Fg_come a v1 μ) := by
  unfold Fg_come
  refine J_aload_n (k0 := 0) (pc := 0) 0 hX (by decide +kernel) rfl rfl ?_
  refine J_gF (pc := 1) hX (by decide +kernel) fl_Fg_34 hL.1 rfl (fun x1 => ?_)
  refine J_bipush (pc := 4) (n := 16) (v := 16) hX (by decide +kernel) (by decide +kernel) ?_
  refine J_icmp_lt (pc := 6) (off := 5) (tgt := 11) hX (by decide +kernel) (by decide +kernel) (fun _ => ?_) (fun _ => ?_)
  · refine J_aload_n (k0 := 0) (pc := 11) 0 hX (by decide +kernel) rfl rfl ?_
    refine J_gF (pc := 12) hX (by decide +kernel) fl_Fg_34 hL.1 rfl (fun x2 => ?_)
    refine J_istore_n (k0 := 2) (pc := 15) [(2, .int x2), (0, .ref (G.1 + a)), (1, .int v1)] hX (by decide +kernel) rfl (by decide) rfl ?_
    refine J_aload_n (k0 := 0) (pc := 16) 1 hX (by decide +kernel) rfl rfl ?_
    refine J_dup (pc := 17) hX (by decide +kernel) rfl ?_
    refine J_gF (pc := 18) hX (by decide +kernel) fl_Fg_34 hL.1 rfl (fun x3 => ?_)
    refine J_iconst (pc := 21) (n := 1) (v := 1) hX (by decide +kernel) (by decide +kernel) ?_
    refine J_iadd (pc := 22) hX (by decide +kernel) ?_
    refine J_pF (pc := 23) hX (by decide +kernel) fl_Fg_34 hL.1 rfl (fun μ4 => ?_)
    refine J_aload_n (k0 := 0) (pc := 26) 1 hX (by decide +kernel) rfl rfl ?_
    refine J_iload_n (k0 := 2) (pc := 27) 0 hX (by decide +kernel) rfl rfl ?_
    refine J_iconst (pc := 28) (n := 0) (v := 0) hX (by decide +kernel) (by decide +kernel) ?_
    refine J_iload_n (k0 := 1) (pc := 29) 2 hX (by decide +kernel) rfl rfl ?_
    refine J_cVv (pc := 30) (idx := 56) [.int x2, .int 0, .int v1] hX (by decide +kernel) (mq mt_2 155 (by decide +kernel)) mv_Fg_put hL.1 rfl rfl (Nat.le_of_ble_eq_true rfl) (Nat.le_of_ble_eq_true rfl) (c_Fg_put hL x2 0 v1 μ4) (fun μ5 => ?_)
    refine J_aload_n (k0 := 0) (pc := 33) 1 hX (by decide +kernel) rfl rfl ?_
    refine J_iload_n (k0 := 2) (pc := 34) 0 hX (by decide +kernel) rfl rfl ?_
    refine J_iconst (pc := 35) (n := 5) (v := 5) hX (by decide +kernel) (by decide +kernel) ?_
    refine J_iconst (pc := 36) (n := 1) (v := 1) hX (by decide +kernel) (by decide +kernel) ?_
    refine J_cVv (pc := 37) (idx := 56) [.int x2, .int 5, .int 1] hX (by decide +kernel) (mq mt_2 155 (by decide +kernel)) mv_Fg_put hL.1 rfl rfl (Nat.le_of_ble_eq_true rfl) (Nat.le_of_ble_eq_true rfl) (c_Fg_put hL x2 5 1 μ5) (fun μ6 => ?_)
    refine J_aload_n (k0 := 0) (pc := 40) 1 hX (by decide +kernel) rfl rfl ?_
    refine J_iload_n (k0 := 2) (pc := 41) 0 hX (by decide +kernel) rfl rfl ?_
    refine J_bipush (pc := 42) (n := 6) (v := 6) hX (by decide +kernel) (by decide +kernel) ?_
    refine J_iconst (pc := 44) (n := -1) (v := (-1)) hX (by decide +kernel) (by decide +kernel) ?_
    refine J_cVv (pc := 45) (idx := 56) [.int x2, .int 6, .int ((-1))] hX (by decide +kernel) (mq mt_2 155 (by decide +kernel)) mv_Fg_put hL.1 rfl rfl (Nat.le_of_ble_eq_true rfl) (Nat.le_of_ble_eq_true rfl) (c_Fg_put hL x2 6 ((-1)) μ6) (fun μ7 => ?_)
    refine J_iload_n (k0 := 2) (pc := 48) 0 hX (by decide +kernel) rfl rfl ?_
    exact J_iret (pc := 49) hX (by decide +kernel) rfl trivial
  · refine J_iconst (pc := 9) (n := -1) (v := (-1)) hX (by decide +kernel) (by decide +kernel) ?_
    exact J_iret (pc := 10) hX (by decide +kernel) rfl trivial
set_option maxRecDepth 100000 in
set_option maxHeartbeats 4000000 in
theorem c_Fg_come {l : Launch} {G : Gx} {y : Ly} {a : Nat} (hL : LyFg y a ) (v1 : Int32) (μ : Mu) : Cn l G ⟨"SaltFigures$Figures", "come", "(I)I"⟩ prog_3_method_3_code 3 (some .int) 2 [.ref (G.1 + a), .int v1] (μ, y) (emy y) rvI tpT (Fg_come a v1 μ) := cn_of (by decide +kernel) (Nat.le_of_ble_eq_true rfl) (fun _ _ _ => ⟨List.prefix_refl _, trivial⟩) (fun X hX _ => jFg_come hL hX v1 μ)

def Sf_person (a : Nat) (v1 : Int32) (μ : Mu) : Option (Int32 × Mu) := cl (Sf_within v1 0 9 μ) (fun x2 μ1 => (if x2 = 0 then some ((-1), μ1) else gF μ1 (a + 1 + 1) 3 (fun x3 => (if x3 < 16 then cl (Sf_forget a μ1) (fun _ μ4 => cl (Fg_come (a + 1 + 1) v1 μ4) (fun x6 μ5 => some (x6, μ5))) else some ((-1), μ1)))))
set_option maxRecDepth 100000 in
set_option maxHeartbeats 4000000 in
theorem jSf_person {X : Cx} {l : Launch} {G : Gx} {y : Ly} {a : Nat} (hL : LySf y a ) (hX : Ok X l G prog_1_method_3_code 3 (some .int) "SaltFigures") (v1 : Int32) (μ : Mu) : J X G 3 3 y (emy y) rvI tpT 0 [(0, .ref (G.1 + a)), (1, .int v1)] [] (μ, y) (Sf_person a v1 μ) := by
  unfold Sf_person
  refine J_aload_n (k0 := 0) (pc := 0) 0 hX (by decide +kernel) rfl rfl ?_
  refine J_gr (pc := 1) hX (by decide +kernel) fl_Sf_12 hL.1 rfl hL.2.1.1 ?_
  refine J_gr (pc := 4) hX (by decide +kernel) fl_Sf_58 hL.2.1.2.1 rfl hL.2.1.2.2.1.1 ?_
  refine J_astore_n (k0 := 2) (pc := 7) [(2, .ref (G.1 + (a + 1 + 1))), (0, .ref (G.1 + a)), (1, .int v1)] hX (by decide +kernel) rfl (by decide) rfl ?_
  refine J_iload_n (k0 := 1) (pc := 8) 2 hX (by decide +kernel) rfl rfl ?_
  refine J_iconst (pc := 9) (n := 0) (v := 0) hX (by decide +kernel) (by decide +kernel) ?_
  refine J_bipush (pc := 10) (n := 9) (v := 9) hX (by decide +kernel) (by decide +kernel) ?_
  refine J_cSi (pc := 12) (idx := 68) [.int v1, .int 0, .int 9] hX (by decide +kernel) (mq mt_2 148 (by decide +kernel)) mv_Sf_within rfl rfl (Nat.le_of_ble_eq_true rfl) (Nat.le_of_ble_eq_true rfl) (c_Sf_within v1 0 9 μ) (fun x2 μ1 => ?_)
  refine J_if_eq (pc := 15) (off := 12) (tgt := 27) hX (by decide +kernel) (by decide +kernel) (fun _ => ?_) (fun _ => ?_)
  · refine J_iconst (pc := 27) (n := -1) (v := (-1)) hX (by decide +kernel) (by decide +kernel) ?_
    exact J_iret (pc := 28) hX (by decide +kernel) rfl trivial
  · refine J_aload_n (k0 := 2) (pc := 18) 0 hX (by decide +kernel) rfl rfl ?_
    refine J_gF (pc := 19) hX (by decide +kernel) fl_Sf_72 hL.2.1.2.2.1.2.1 rfl (fun x3 => ?_)
    refine J_bipush (pc := 22) (n := 16) (v := 16) hX (by decide +kernel) (by decide +kernel) ?_
    refine J_icmp_lt (pc := 24) (off := 5) (tgt := 29) hX (by decide +kernel) (by decide +kernel) (fun _ => ?_) (fun _ => ?_)
    · refine J_aload_n (k0 := 0) (pc := 29) 1 hX (by decide +kernel) rfl rfl ?_
      refine J_cVv (pc := 30) (idx := 65) [] hX (by decide +kernel) (mq mt_2 140 (by decide +kernel)) mv_Sf_forget hL.1 rfl rfl (Nat.le_of_ble_eq_true rfl) (Nat.le_of_ble_eq_true rfl) (c_Sf_forget hL μ1) (fun μ4 => ?_)
      refine J_aload_n (k0 := 2) (pc := 33) 0 hX (by decide +kernel) rfl rfl ?_
      refine J_iload_n (k0 := 1) (pc := 34) 2 hX (by decide +kernel) rfl rfl ?_
      refine J_cVi (pc := 35) (idx := 75) [.int v1] hX (by decide +kernel) (mq mt_2 151 (by decide +kernel)) mv_Fg_come hL.2.1.2.2.1.2.1 rfl rfl (Nat.le_of_ble_eq_true rfl) (Nat.le_of_ble_eq_true rfl) (c_Fg_come hL.2.1.2.2.1.2 v1 μ4) (fun x6 μ5 => ?_)
      exact J_iret (pc := 38) hX (by decide +kernel) rfl trivial
    · refine J_iconst (pc := 27) (n := -1) (v := (-1)) hX (by decide +kernel) (by decide +kernel) ?_
      exact J_iret (pc := 28) hX (by decide +kernel) rfl trivial
set_option maxRecDepth 100000 in
set_option maxHeartbeats 4000000 in
theorem c_Sf_person {l : Launch} {G : Gx} {y : Ly} {a : Nat} (hL : LySf y a ) (v1 : Int32) (μ : Mu) : Cn l G ⟨"SaltFigures", "person", "(I)I"⟩ prog_1_method_3_code 3 (some .int) 3 [.ref (G.1 + a), .int v1] (μ, y) (emy y) rvI tpT (Sf_person a v1 μ) := cn_of (by decide +kernel) (Nat.le_of_ble_eq_true rfl) (fun _ _ _ => ⟨List.prefix_refl _, trivial⟩) (fun X hX _ => jSf_person hL hX v1 μ)

def Rw_takes (a n : Nat) (v1 : Int32) (μ : Mu) : Option (Int32 × Mu) := gF μ a 0 (fun x1 => (if v1 < x1 then some (0, μ) else gF μ a 1 (fun x2 => (if x2 < v1 then some (0, μ) else gF μ a 3 (fun x3 => (if (Int32.ofNat n) ≤ x3 then some (0, μ) else some (1, μ)))))))
set_option maxRecDepth 100000 in
set_option maxHeartbeats 4000000 in
theorem jRw_takes {X : Cx} {l : Launch} {G : Gx} {y : Ly} {a n : Nat} (hL : LyRw y a n) (hX : Ok X l G prog_7_method_4_code 2 (some .boolean) "SaltFigures$Row") (v1 : Int32) (μ : Mu) : J X G 2 1 y (emy y) rvI tpT 0 [(0, .ref (G.1 + a)), (1, .int v1)] [] (μ, y) (Rw_takes a n v1 μ) := by
  unfold Rw_takes
  refine J_iload_n (k0 := 1) (pc := 0) 1 hX (by decide +kernel) rfl rfl ?_
  refine J_aload_n (k0 := 0) (pc := 1) 0 hX (by decide +kernel) rfl rfl ?_
  refine J_gF (pc := 2) hX (by decide +kernel) fl_Rw_9 hL.1 rfl (fun x1 => ?_)
  refine J_icmp_lt (pc := 5) (off := 27) (tgt := 32) hX (by decide +kernel) (by decide +kernel) (fun _ => ?_) (fun _ => ?_)
  · refine J_iconst (pc := 32) (n := 0) (v := 0) hX (by decide +kernel) (by decide +kernel) ?_
    exact J_zret (pc := 33) hX (by decide +kernel) rfl (by decide +kernel) trivial
  · refine J_iload_n (k0 := 1) (pc := 8) 1 hX (by decide +kernel) rfl rfl ?_
    refine J_aload_n (k0 := 0) (pc := 9) 0 hX (by decide +kernel) rfl rfl ?_
    refine J_gF (pc := 10) hX (by decide +kernel) fl_Rw_15 hL.1 rfl (fun x2 => ?_)
    refine J_icmp_gt (pc := 13) (off := 19) (tgt := 32) hX (by decide +kernel) (by decide +kernel) (fun _ => ?_) (fun _ => ?_)
    · refine J_iconst (pc := 32) (n := 0) (v := 0) hX (by decide +kernel) (by decide +kernel) ?_
      exact J_zret (pc := 33) hX (by decide +kernel) rfl (by decide +kernel) trivial
    · refine J_aload_n (k0 := 0) (pc := 16) 0 hX (by decide +kernel) rfl rfl ?_
      refine J_gF (pc := 17) hX (by decide +kernel) fl_Rw_28 hL.1 rfl (fun x3 => ?_)
      refine J_aload_n (k0 := 0) (pc := 20) 0 hX (by decide +kernel) rfl rfl ?_
      refine J_gr (pc := 21) hX (by decide +kernel) fl_Rw_24 hL.1 rfl hL.2.1.1 ?_
      refine J_alen (pc := 24) hX (by decide +kernel) hL.2.1.2 (v := Int32.ofNat n) rfl ?_
      refine J_icmp_ge (pc := 25) (off := 7) (tgt := 32) hX (by decide +kernel) (by decide +kernel) (fun _ => ?_) (fun _ => ?_)
      · refine J_iconst (pc := 32) (n := 0) (v := 0) hX (by decide +kernel) (by decide +kernel) ?_
        exact J_zret (pc := 33) hX (by decide +kernel) rfl (by decide +kernel) trivial
      · refine J_iconst (pc := 28) (n := 1) (v := 1) hX (by decide +kernel) (by decide +kernel) ?_
        refine J_goto (pc := 29) (off := 4) (tgt := 33) hX (by decide +kernel) (by decide +kernel) ?_
        exact J_zret (pc := 33) hX (by decide +kernel) rfl (by decide +kernel) trivial
set_option maxRecDepth 100000 in
set_option maxHeartbeats 4000000 in
theorem c_Rw_takes {l : Launch} {G : Gx} {y : Ly} {a n : Nat} (hL : LyRw y a n) (v1 : Int32) (μ : Mu) : Cn l G ⟨"SaltFigures$Row", "takes", "(I)Z"⟩ prog_7_method_4_code 2 (some .boolean) 1 [.ref (G.1 + a), .int v1] (μ, y) (emy y) rvI tpT (Rw_takes a n v1 μ) := cn_of (by decide +kernel) (Nat.le_of_ble_eq_true rfl) (fun _ _ _ => ⟨List.prefix_refl _, trivial⟩) (fun X hX _ => jRw_takes hL hX v1 μ)

def Th_addBoth (f0 n0 f2 n2 : Nat) (v1 : Int32) (v3 : Int32) (μ : Mu) : Option (Int32 × Mu) := cl (Rw_takes f0 n0 v1 μ) (fun x2 μ1 => (if x2 = 0 then some ((-1), μ1) else cl (Rw_takes f2 n2 v3 μ1) (fun x4 μ3 => (if x4 = 0 then some ((-1), μ3) else cl (Rw_append f0 n0 v1 μ3) (fun x6 μ5 => cl (Rw_append f2 n2 v3 μ5) (fun x8 μ7 => some (x8, μ7)))))))
set_option maxRecDepth 100000 in
set_option maxHeartbeats 4000000 in
theorem jTh_addBoth {X : Cx} {l : Launch} {G : Gx} {y : Ly} {f0 n0 f2 n2 : Nat} (hf0 : LyRw y f0 n0) (hf2 : LyRw y f2 n2) (hX : Ok X l G prog_10_method_4_code 4 (some .int) "SaltFigures$Thinker") (v1 : Int32) (v3 : Int32) (μ : Mu) : J X G 4 2 y (emy y) rvI tpT 0 [(0, .ref (G.1 + f0)), (1, .int v1), (2, .ref (G.1 + f2)), (3, .int v3)] [] (μ, y) (Th_addBoth f0 n0 f2 n2 v1 v3 μ) := by
  unfold Th_addBoth
  refine J_aload_n (k0 := 0) (pc := 0) 0 hX (by decide +kernel) rfl rfl ?_
  refine J_iload_n (k0 := 1) (pc := 1) 1 hX (by decide +kernel) rfl rfl ?_
  refine J_cVi (pc := 2) (idx := 51) [.int v1] hX (by decide +kernel) (mq mt_4 198 (by decide +kernel)) mv_Rw_takes hf0.1 rfl rfl (Nat.le_of_ble_eq_true rfl) (Nat.le_of_ble_eq_true rfl) (c_Rw_takes hf0 v1 μ) (fun x2 μ1 => ?_)
  refine J_if_eq (pc := 5) (off := 11) (tgt := 16) hX (by decide +kernel) (by decide +kernel) (fun _ => ?_) (fun _ => ?_)
  · refine J_iconst (pc := 16) (n := -1) (v := (-1)) hX (by decide +kernel) (by decide +kernel) ?_
    exact J_iret (pc := 17) hX (by decide +kernel) rfl trivial
  · refine J_aload_n (k0 := 2) (pc := 8) 2 hX (by decide +kernel) rfl rfl ?_
    refine J_iload_n (k0 := 3) (pc := 9) 3 hX (by decide +kernel) rfl rfl ?_
    refine J_cVi (pc := 10) (idx := 51) [.int v3] hX (by decide +kernel) (mq mt_4 198 (by decide +kernel)) mv_Rw_takes hf2.1 rfl rfl (Nat.le_of_ble_eq_true rfl) (Nat.le_of_ble_eq_true rfl) (c_Rw_takes hf2 v3 μ1) (fun x4 μ3 => ?_)
    refine J_if_ne (pc := 13) (off := 5) (tgt := 18) hX (by decide +kernel) (by decide +kernel) (fun _ => ?_) (fun _ => ?_)
    · refine J_aload_n (k0 := 0) (pc := 18) 0 hX (by decide +kernel) rfl rfl ?_
      refine J_iload_n (k0 := 1) (pc := 19) 1 hX (by decide +kernel) rfl rfl ?_
      refine J_cVi (pc := 20) (idx := 55) [.int v1] hX (by decide +kernel) (mq mt_4 202 (by decide +kernel)) mv_Rw_append hf0.1 rfl rfl (Nat.le_of_ble_eq_true rfl) (Nat.le_of_ble_eq_true rfl) (c_Rw_append hf0 v1 μ3) (fun x6 μ5 => ?_)
      refine J_pop (pc := 23) hX (by decide +kernel) rfl ?_
      refine J_aload_n (k0 := 2) (pc := 24) 2 hX (by decide +kernel) rfl rfl ?_
      refine J_iload_n (k0 := 3) (pc := 25) 3 hX (by decide +kernel) rfl rfl ?_
      refine J_cVi (pc := 26) (idx := 55) [.int v3] hX (by decide +kernel) (mq mt_4 202 (by decide +kernel)) mv_Rw_append hf2.1 rfl rfl (Nat.le_of_ble_eq_true rfl) (Nat.le_of_ble_eq_true rfl) (c_Rw_append hf2 v3 μ5) (fun x8 μ7 => ?_)
      exact J_iret (pc := 29) hX (by decide +kernel) rfl trivial
    · refine J_iconst (pc := 16) (n := -1) (v := (-1)) hX (by decide +kernel) (by decide +kernel) ?_
      exact J_iret (pc := 17) hX (by decide +kernel) rfl trivial
set_option maxRecDepth 100000 in
set_option maxHeartbeats 4000000 in
theorem c_Th_addBoth {l : Launch} {G : Gx} {y : Ly} {f0 n0 f2 n2 : Nat} (hf0 : LyRw y f0 n0) (hf2 : LyRw y f2 n2) (v1 : Int32) (v3 : Int32) (μ : Mu) : Cn l G ⟨"SaltFigures$Thinker", "addBoth", "(LSaltFigures$Row;ILSaltFigures$Row;I)I"⟩ prog_10_method_4_code 4 (some .int) 2 [.ref (G.1 + f0), .int v1, .ref (G.1 + f2), .int v3] (μ, y) (emy y) rvI tpT (Th_addBoth f0 n0 f2 n2 v1 v3 μ) := cn_of (by decide +kernel) (Nat.le_of_ble_eq_true rfl) (fun _ _ _ => ⟨List.prefix_refl _, trivial⟩) (fun X hX _ => jTh_addBoth hf0 hf2 hX v1 v3 μ)

def Th_addPoint_48 (a tt : Nat) (kb2 : Int32 → Mu → Option (Int32 × Mu))  (v1 : Int32) (v2 : Int32) (v3 : Int32)  (μ : Mu) : Option (Int32 × Mu) := kb2 (v3 + 1) μ
def Th_addPoint_2b (a tt : Nat)  (kb2 : Int32 → Mu → Option (Int32 × Mu)) (v1 : Int32) (v2 : Int32) (v3 : Int32)  (μ : Mu) : Option (Int32 × Mu) := gF μ (tt + 1) 3 (fun x1 => (if x1 ≤ v3 then cl (Th_addBoth (tt + 1) 8 (tt + 3) 8 v1 v2 μ) (fun x3 μ2 => some (x3, μ2)) else cl (Rw_at (tt + 1) 8 v3 μ) (fun x5 μ4 => (if x5 = v1 then cl (Rw_at (tt + 3) 8 v3 μ4) (fun x7 μ6 => (if x7 = v2 then some ((-1), μ6) else Th_addPoint_48 a tt kb2 v1 v2 v3 μ6)) else Th_addPoint_48 a tt kb2 v1 v2 v3 μ4))))
def Th_addPoint_2 (a tt : Nat)  (v1 : Int32) (v2 : Int32) (fu : Nat) : Int32 → Mu → Option (Int32 × Mu) := lp (fun kb => Th_addPoint_2b a tt  kb v1 v2) (fun _ _ => none) fu
def Th_addPoint (a tt : Nat) (v1 : Int32) (v2 : Int32) (μ : Mu) : Option (Int32 × Mu) := Th_addPoint_2 a tt v1 v2 FU 0 μ
set_option maxRecDepth 100000 in
set_option maxHeartbeats 4000000 in
theorem jTh_addPoint_48 {X : Cx} {l : Launch} {G : Gx} {y : Ly} {a tt : Nat} (hL : LyTh y a tt) (hX : Ok X l G prog_10_method_2_code 4 (some .int) "SaltFigures$Thinker")  (v1 : Int32) (v2 : Int32) (v3 : Int32)  {kb2 : Int32 → Mu → Option (Int32 × Mu)} (hk2 : ∀ (v3 : Int32) (μ : Mu), J X G 4 3 y (emy y) rvI tpT 2 [(0, .ref (G.1 + a)), (1, .int v1), (2, .int v2), (3, .int v3)] [] (μ, y) (kb2 v3 μ)) (μ : Mu) : J X G 4 3 y (emy y) rvI tpT 48 [(0, .ref (G.1 + a)), (1, .int v1), (2, .int v2), (3, .int v3)] [] (μ, y) (Th_addPoint_48 a tt kb2  v1 v2 v3  μ) := by
  unfold Th_addPoint_48
  refine J_iinc (pc := 48) (n := 1) 3 [(3, .int (v3 + 1)), (0, .ref (G.1 + a)), (1, .int v1), (2, .int v2)] hX (by decide +kernel) rfl rfl (by decide) rfl ?_
  refine J_goto (pc := 51) (off := -49) (tgt := 2) hX (by decide +kernel) (by decide +kernel) ?_
  exact J_sub [1, 2, 3, 0] _ rfl (hk2 (v3 + 1) μ)
set_option maxRecDepth 100000 in
set_option maxHeartbeats 4000000 in
theorem jTh_addPoint_2b {X : Cx} {l : Launch} {G : Gx} {y : Ly} {a tt : Nat} (hL : LyTh y a tt) (hX : Ok X l G prog_10_method_2_code 4 (some .int) "SaltFigures$Thinker") (v1 : Int32) (v2 : Int32)  {kb2 : Int32 → Mu → Option (Int32 × Mu)}  (hk2 : ∀ (v3 : Int32) (μ : Mu), J X G 4 3 y (emy y) rvI tpT 2 [(0, .ref (G.1 + a)), (1, .int v1), (2, .int v2), (3, .int v3)] [] (μ, y) (kb2 v3 μ)) (v3 : Int32)  (μ : Mu) : J X G 4 3 y (emy y) rvI tpT 2 [(0, .ref (G.1 + a)), (1, .int v1), (2, .int v2), (3, .int v3)] [] (μ, y) (Th_addPoint_2b a tt  kb2 v1 v2 v3  μ) := by
  unfold Th_addPoint_2b
  refine J_iload_n (k0 := 3) (pc := 2) 3 hX (by decide +kernel) rfl rfl ?_
  refine J_aload_n (k0 := 0) (pc := 3) 0 hX (by decide +kernel) rfl rfl ?_
  refine J_gr (pc := 4) hX (by decide +kernel) fl_Th_18 hL.1 rfl hL.2.1.1 ?_
  refine J_gr (pc := 7) hX (by decide +kernel) fl_Th_22 hL.2.1.2.1 rfl hL.2.1.2.2.1.1 ?_
  refine J_gF (pc := 10) hX (by decide +kernel) fl_Th_28 hL.2.1.2.2.1.2.1 rfl (fun x1 => ?_)
  refine J_icmp_ge (pc := 13) (off := 41) (tgt := 54) hX (by decide +kernel) (by decide +kernel) (fun _ => ?_) (fun _ => ?_)
  · refine J_aload_n (k0 := 0) (pc := 54) 0 hX (by decide +kernel) rfl rfl ?_
    refine J_gr (pc := 55) hX (by decide +kernel) fl_Th_18 hL.1 rfl hL.2.1.1 ?_
    refine J_gr (pc := 58) hX (by decide +kernel) fl_Th_22 hL.2.1.2.1 rfl hL.2.1.2.2.1.1 ?_
    refine J_iload_n (k0 := 1) (pc := 61) 1 hX (by decide +kernel) rfl rfl ?_
    refine J_aload_n (k0 := 0) (pc := 62) 0 hX (by decide +kernel) rfl rfl ?_
    refine J_gr (pc := 63) hX (by decide +kernel) fl_Th_18 hL.1 rfl hL.2.1.1 ?_
    refine J_gr (pc := 66) hX (by decide +kernel) fl_Th_38 hL.2.1.2.1 rfl hL.2.1.2.2.2.1.1 ?_
    refine J_iload_n (k0 := 2) (pc := 69) 2 hX (by decide +kernel) rfl rfl ?_
    refine J_cSi (pc := 70) (idx := 41) [.ref (G.1 + (tt + 1)), .int v1, .ref (G.1 + (tt + 3)), .int v2] hX (by decide +kernel) (mq mt_4 195 (by decide +kernel)) mv_Th_addBoth rfl rfl (Nat.le_of_ble_eq_true rfl) (Nat.le_of_ble_eq_true rfl) (c_Th_addBoth hL.2.1.2.2.1.2 hL.2.1.2.2.2.1.2 v1 v2 μ) (fun x3 μ2 => ?_)
    exact J_iret (pc := 73) hX (by decide +kernel) rfl trivial
  · refine J_aload_n (k0 := 0) (pc := 16) 0 hX (by decide +kernel) rfl rfl ?_
    refine J_gr (pc := 17) hX (by decide +kernel) fl_Th_18 hL.1 rfl hL.2.1.1 ?_
    refine J_gr (pc := 20) hX (by decide +kernel) fl_Th_22 hL.2.1.2.1 rfl hL.2.1.2.2.1.1 ?_
    refine J_iload_n (k0 := 3) (pc := 23) 3 hX (by decide +kernel) rfl rfl ?_
    refine J_cVi (pc := 24) (idx := 34) [.int v3] hX (by decide +kernel) (mq mt_4 191 (by decide +kernel)) mv_Rw_at hL.2.1.2.2.1.2.1 rfl rfl (Nat.le_of_ble_eq_true rfl) (Nat.le_of_ble_eq_true rfl) (c_Rw_at hL.2.1.2.2.1.2 v3 μ) (fun x5 μ4 => ?_)
    refine J_iload_n (k0 := 1) (pc := 27) 1 hX (by decide +kernel) rfl rfl ?_
    refine J_icmp_ne (pc := 28) (off := 20) (tgt := 48) hX (by decide +kernel) (by decide +kernel) (fun _ => ?_) (fun _ => ?_)
    · exact J_sub [0, 1, 2, 3] _ rfl (jTh_addPoint_48 hL hX v1 v2 v3 hk2 μ4)
    · refine J_aload_n (k0 := 0) (pc := 31) 0 hX (by decide +kernel) rfl rfl ?_
      refine J_gr (pc := 32) hX (by decide +kernel) fl_Th_18 hL.1 rfl hL.2.1.1 ?_
      refine J_gr (pc := 35) hX (by decide +kernel) fl_Th_38 hL.2.1.2.1 rfl hL.2.1.2.2.2.1.1 ?_
      refine J_iload_n (k0 := 3) (pc := 38) 3 hX (by decide +kernel) rfl rfl ?_
      refine J_cVi (pc := 39) (idx := 34) [.int v3] hX (by decide +kernel) (mq mt_4 191 (by decide +kernel)) mv_Rw_at hL.2.1.2.2.2.1.2.1 rfl rfl (Nat.le_of_ble_eq_true rfl) (Nat.le_of_ble_eq_true rfl) (c_Rw_at hL.2.1.2.2.2.1.2 v3 μ4) (fun x7 μ6 => ?_)
      refine J_iload_n (k0 := 2) (pc := 42) 2 hX (by decide +kernel) rfl rfl ?_
      refine J_icmp_ne (pc := 43) (off := 5) (tgt := 48) hX (by decide +kernel) (by decide +kernel) (fun _ => ?_) (fun _ => ?_)
      · exact J_sub [0, 1, 2, 3] _ rfl (jTh_addPoint_48 hL hX v1 v2 v3 hk2 μ6)
      · refine J_iconst (pc := 46) (n := -1) (v := (-1)) hX (by decide +kernel) (by decide +kernel) ?_
        exact J_iret (pc := 47) hX (by decide +kernel) rfl trivial
set_option maxRecDepth 100000 in
set_option maxHeartbeats 4000000 in
theorem jTh_addPoint_2 {X : Cx} {l : Launch} {G : Gx} {y : Ly} {a tt : Nat} (hL : LyTh y a tt) (hX : Ok X l G prog_10_method_2_code 4 (some .int) "SaltFigures$Thinker") (v1 : Int32) (v2 : Int32)   : ∀ (fu : Nat) (v3 : Int32) (μ : Mu), J X G 4 3 y (emy y) rvI tpT 2 [(0, .ref (G.1 + a)), (1, .int v1), (2, .int v2), (3, .int v3)] [] (μ, y) (Th_addPoint_2 a tt  v1 v2 fu v3 μ) := by
  intro fu
  induction fu with
  | zero => intros; exact J_none
  | succ fu ih => intro v3 μ; exact jTh_addPoint_2b hL hX v1 v2  ih v3 μ
set_option maxRecDepth 100000 in
set_option maxHeartbeats 4000000 in
theorem jTh_addPoint {X : Cx} {l : Launch} {G : Gx} {y : Ly} {a tt : Nat} (hL : LyTh y a tt) (hX : Ok X l G prog_10_method_2_code 4 (some .int) "SaltFigures$Thinker") (v1 : Int32) (v2 : Int32) (μ : Mu) : J X G 4 3 y (emy y) rvI tpT 0 [(0, .ref (G.1 + a)), (1, .int v1), (2, .int v2)] [] (μ, y) (Th_addPoint a tt v1 v2 μ) := by
  unfold Th_addPoint
  refine J_iconst (pc := 0) (n := 0) (v := 0) hX (by decide +kernel) (by decide +kernel) ?_
  refine J_istore_n (k0 := 3) (pc := 1) [(3, .int 0), (0, .ref (G.1 + a)), (1, .int v1), (2, .int v2)] hX (by decide +kernel) rfl (by decide) rfl ?_
  exact J_sub [1, 2, 3, 0] _ rfl (jTh_addPoint_2 hL hX v1 v2 FU 0 μ)
set_option maxRecDepth 100000 in
set_option maxHeartbeats 4000000 in
theorem c_Th_addPoint {l : Launch} {G : Gx} {y : Ly} {a tt : Nat} (hL : LyTh y a tt) (v1 : Int32) (v2 : Int32) (μ : Mu) : Cn l G ⟨"SaltFigures$Thinker", "addPoint", "(II)I"⟩ prog_10_method_2_code 4 (some .int) 3 [.ref (G.1 + a), .int v1, .int v2] (μ, y) (emy y) rvI tpT (Th_addPoint a tt v1 v2 μ) := cn_of (by decide +kernel) (Nat.le_of_ble_eq_true rfl) (fun _ _ _ => ⟨List.prefix_refl _, trivial⟩) (fun X hX _ => jTh_addPoint hL hX v1 v2 μ)

def Sf_point (a : Nat) (v1 : Int32) (v2 : Int32) (μ : Mu) : Option (Int32 × Mu) := (if v1 = ((-1000)) then cl (Rw_clear (a + 1 + 17 + 1) 8 μ) (fun x4 μ3 => cl (Rw_clear (a + 1 + 17 + 3) 8 μ3) (fun x6 μ5 => some (x6, μ5))) else cl (Th_addPoint (a + 45) (a + 1 + 17) v1 v2 μ) (fun x2 μ1 => some (x2, μ1)))
set_option maxRecDepth 100000 in
set_option maxHeartbeats 4000000 in
theorem jSf_point {X : Cx} {l : Launch} {G : Gx} {y : Ly} {a : Nat} (hL : LySf y a ) (hX : Ok X l G prog_1_method_20_code 3 (some .int) "SaltFigures") (v1 : Int32) (v2 : Int32) (μ : Mu) : J X G 3 4 y (emy y) rvI tpT 0 [(0, .ref (G.1 + a)), (1, .int v1), (2, .int v2)] [] (μ, y) (Sf_point a v1 v2 μ) := by
  unfold Sf_point
  refine J_iload_n (k0 := 1) (pc := 0) 1 hX (by decide +kernel) rfl rfl ?_
  refine J_sipush (pc := 1) (n := -1000) (v := (-1000)) hX (by decide +kernel) (by decide +kernel) ?_
  refine J_icmp_ne (pc := 4) (off := 31) (tgt := 35) hX (by decide +kernel) (by decide +kernel) (fun _ => ?_) (fun _ => ?_)
  · refine J_aload_n (k0 := 0) (pc := 35) 0 hX (by decide +kernel) rfl rfl ?_
    refine J_gr (pc := 36) hX (by decide +kernel) fl_Sf_43 hL.1 rfl hL.2.2.2.2.1.1 ?_
    refine J_iload_n (k0 := 1) (pc := 39) 1 hX (by decide +kernel) rfl rfl ?_
    refine J_iload_n (k0 := 2) (pc := 40) 2 hX (by decide +kernel) rfl rfl ?_
    refine J_cVi (pc := 41) (idx := 248) [.int v1, .int v2] hX (by decide +kernel) (mq mt_4 187 (by decide +kernel)) mv_Th_addPoint hL.2.2.2.2.1.2.1 rfl rfl (Nat.le_of_ble_eq_true rfl) (Nat.le_of_ble_eq_true rfl) (c_Th_addPoint hL.2.2.2.2.1.2 v1 v2 μ) (fun x2 μ1 => ?_)
    exact J_iret (pc := 44) hX (by decide +kernel) rfl trivial
  · refine J_aload_n (k0 := 0) (pc := 7) 0 hX (by decide +kernel) rfl rfl ?_
    refine J_gr (pc := 8) hX (by decide +kernel) fl_Sf_12 hL.1 rfl hL.2.1.1 ?_
    refine J_gr (pc := 11) hX (by decide +kernel) fl_Sf_36 hL.2.1.2.1 rfl hL.2.1.2.2.2.2.2.1.1 ?_
    refine J_gr (pc := 14) hX (by decide +kernel) fl_Sf_235 hL.2.1.2.2.2.2.2.1.2.1 rfl hL.2.1.2.2.2.2.2.1.2.2.1.1 ?_
    refine J_cVi (pc := 17) (idx := 239) [] hX (by decide +kernel) (mq mt_4 183 (by decide +kernel)) mv_Rw_clear hL.2.1.2.2.2.2.2.1.2.2.1.2.1 rfl rfl (Nat.le_of_ble_eq_true rfl) (Nat.le_of_ble_eq_true rfl) (c_Rw_clear hL.2.1.2.2.2.2.2.1.2.2.1.2 μ) (fun x4 μ3 => ?_)
    refine J_pop (pc := 20) hX (by decide +kernel) rfl ?_
    refine J_aload_n (k0 := 0) (pc := 21) 0 hX (by decide +kernel) rfl rfl ?_
    refine J_gr (pc := 22) hX (by decide +kernel) fl_Sf_12 hL.1 rfl hL.2.1.1 ?_
    refine J_gr (pc := 25) hX (by decide +kernel) fl_Sf_36 hL.2.1.2.1 rfl hL.2.1.2.2.2.2.2.1.1 ?_
    refine J_gr (pc := 28) hX (by decide +kernel) fl_Sf_245 hL.2.1.2.2.2.2.2.1.2.1 rfl hL.2.1.2.2.2.2.2.1.2.2.2.1.1 ?_
    refine J_cVi (pc := 31) (idx := 239) [] hX (by decide +kernel) (mq mt_4 183 (by decide +kernel)) mv_Rw_clear hL.2.1.2.2.2.2.2.1.2.2.2.1.2.1 rfl rfl (Nat.le_of_ble_eq_true rfl) (Nat.le_of_ble_eq_true rfl) (c_Rw_clear hL.2.1.2.2.2.2.2.1.2.2.2.1.2 μ3) (fun x6 μ5 => ?_)
    exact J_iret (pc := 34) hX (by decide +kernel) rfl trivial
set_option maxRecDepth 100000 in
set_option maxHeartbeats 4000000 in
theorem c_Sf_point {l : Launch} {G : Gx} {y : Ly} {a : Nat} (hL : LySf y a ) (v1 : Int32) (v2 : Int32) (μ : Mu) : Cn l G ⟨"SaltFigures", "point", "(II)I"⟩ prog_1_method_20_code 3 (some .int) 4 [.ref (G.1 + a), .int v1, .int v2] (μ, y) (emy y) rvI tpT (Sf_point a v1 v2 μ) := cn_of (by decide +kernel) (Nat.le_of_ble_eq_true rfl) (fun _ _ _ => ⟨List.prefix_refl _, trivial⟩) (fun X hX _ => jSf_point hL hX v1 v2 μ)

def Th_addPost (a tt : Nat) (v1 : Int32) (v2 : Int32) (μ : Mu) : Option (Int32 × Mu) := cl (Th_addBoth (tt + 15) 8 (tt + 17) 8 v1 v2 μ) (fun x2 μ1 => some (x2, μ1))
set_option maxRecDepth 100000 in
set_option maxHeartbeats 4000000 in
theorem jTh_addPost {X : Cx} {l : Launch} {G : Gx} {y : Ly} {a tt : Nat} (hL : LyTh y a tt) (hX : Ok X l G prog_10_method_3_code 3 (some .int) "SaltFigures$Thinker") (v1 : Int32) (v2 : Int32) (μ : Mu) : J X G 3 3 y (emy y) rvI tpT 0 [(0, .ref (G.1 + a)), (1, .int v1), (2, .int v2)] [] (μ, y) (Th_addPost a tt v1 v2 μ) := by
  unfold Th_addPost
  refine J_aload_n (k0 := 0) (pc := 0) 0 hX (by decide +kernel) rfl rfl ?_
  refine J_gr (pc := 1) hX (by decide +kernel) fl_Th_18 hL.1 rfl hL.2.1.1 ?_
  refine J_gr (pc := 4) hX (by decide +kernel) fl_Th_45 hL.2.1.2.1 rfl hL.2.1.2.2.2.2.2.2.2.2.2.1.1 ?_
  refine J_iload_n (k0 := 1) (pc := 7) 1 hX (by decide +kernel) rfl rfl ?_
  refine J_aload_n (k0 := 0) (pc := 8) 0 hX (by decide +kernel) rfl rfl ?_
  refine J_gr (pc := 9) hX (by decide +kernel) fl_Th_18 hL.1 rfl hL.2.1.1 ?_
  refine J_gr (pc := 12) hX (by decide +kernel) fl_Th_48 hL.2.1.2.1 rfl hL.2.1.2.2.2.2.2.2.2.2.2.2.1.1 ?_
  refine J_iload_n (k0 := 2) (pc := 15) 2 hX (by decide +kernel) rfl rfl ?_
  refine J_cSi (pc := 16) (idx := 41) [.ref (G.1 + (tt + 15)), .int v1, .ref (G.1 + (tt + 17)), .int v2] hX (by decide +kernel) (mq mt_4 195 (by decide +kernel)) mv_Th_addBoth rfl rfl (Nat.le_of_ble_eq_true rfl) (Nat.le_of_ble_eq_true rfl) (c_Th_addBoth hL.2.1.2.2.2.2.2.2.2.2.2.1.2 hL.2.1.2.2.2.2.2.2.2.2.2.2.1.2 v1 v2 μ) (fun x2 μ1 => ?_)
  exact J_iret (pc := 19) hX (by decide +kernel) rfl trivial
set_option maxRecDepth 100000 in
set_option maxHeartbeats 4000000 in
theorem c_Th_addPost {l : Launch} {G : Gx} {y : Ly} {a tt : Nat} (hL : LyTh y a tt) (v1 : Int32) (v2 : Int32) (μ : Mu) : Cn l G ⟨"SaltFigures$Thinker", "addPost", "(II)I"⟩ prog_10_method_3_code 3 (some .int) 3 [.ref (G.1 + a), .int v1, .int v2] (μ, y) (emy y) rvI tpT (Th_addPost a tt v1 v2 μ) := cn_of (by decide +kernel) (Nat.le_of_ble_eq_true rfl) (fun _ _ _ => ⟨List.prefix_refl _, trivial⟩) (fun X hX _ => jTh_addPost hL hX v1 v2 μ)

def Sf_post (a : Nat) (v1 : Int32) (v2 : Int32) (μ : Mu) : Option (Int32 × Mu) := (if v1 = ((-1)) then cl (Rw_clear (a + 1 + 17 + 15) 8 μ) (fun x4 μ3 => cl (Rw_clear (a + 1 + 17 + 17) 8 μ3) (fun x6 μ5 => some (x6, μ5))) else cl (Th_addPost (a + 45) (a + 1 + 17) v1 v2 μ) (fun x2 μ1 => some (x2, μ1)))
set_option maxRecDepth 100000 in
set_option maxHeartbeats 4000000 in
theorem jSf_post {X : Cx} {l : Launch} {G : Gx} {y : Ly} {a : Nat} (hL : LySf y a ) (hX : Ok X l G prog_1_method_36_code 3 (some .int) "SaltFigures") (v1 : Int32) (v2 : Int32) (μ : Mu) : J X G 3 4 y (emy y) rvI tpT 0 [(0, .ref (G.1 + a)), (1, .int v1), (2, .int v2)] [] (μ, y) (Sf_post a v1 v2 μ) := by
  unfold Sf_post
  refine J_iload_n (k0 := 1) (pc := 0) 1 hX (by decide +kernel) rfl rfl ?_
  refine J_iconst (pc := 1) (n := -1) (v := (-1)) hX (by decide +kernel) (by decide +kernel) ?_
  refine J_icmp_ne (pc := 2) (off := 31) (tgt := 33) hX (by decide +kernel) (by decide +kernel) (fun _ => ?_) (fun _ => ?_)
  · refine J_aload_n (k0 := 0) (pc := 33) 0 hX (by decide +kernel) rfl rfl ?_
    refine J_gr (pc := 34) hX (by decide +kernel) fl_Sf_43 hL.1 rfl hL.2.2.2.2.1.1 ?_
    refine J_iload_n (k0 := 1) (pc := 37) 1 hX (by decide +kernel) rfl rfl ?_
    refine J_iload_n (k0 := 2) (pc := 38) 2 hX (by decide +kernel) rfl rfl ?_
    refine J_cVi (pc := 39) (idx := 340) [.int v1, .int v2] hX (by decide +kernel) (mq mt_5 161 (by decide +kernel)) mv_Th_addPost hL.2.2.2.2.1.2.1 rfl rfl (Nat.le_of_ble_eq_true rfl) (Nat.le_of_ble_eq_true rfl) (c_Th_addPost hL.2.2.2.2.1.2 v1 v2 μ) (fun x2 μ1 => ?_)
    exact J_iret (pc := 42) hX (by decide +kernel) rfl trivial
  · refine J_aload_n (k0 := 0) (pc := 5) 0 hX (by decide +kernel) rfl rfl ?_
    refine J_gr (pc := 6) hX (by decide +kernel) fl_Sf_12 hL.1 rfl hL.2.1.1 ?_
    refine J_gr (pc := 9) hX (by decide +kernel) fl_Sf_36 hL.2.1.2.1 rfl hL.2.1.2.2.2.2.2.1.1 ?_
    refine J_gr (pc := 12) hX (by decide +kernel) fl_Sf_334 hL.2.1.2.2.2.2.2.1.2.1 rfl hL.2.1.2.2.2.2.2.1.2.2.2.2.2.2.2.2.2.1.1 ?_
    refine J_cVi (pc := 15) (idx := 239) [] hX (by decide +kernel) (mq mt_4 183 (by decide +kernel)) mv_Rw_clear hL.2.1.2.2.2.2.2.1.2.2.2.2.2.2.2.2.2.1.2.1 rfl rfl (Nat.le_of_ble_eq_true rfl) (Nat.le_of_ble_eq_true rfl) (c_Rw_clear hL.2.1.2.2.2.2.2.1.2.2.2.2.2.2.2.2.2.1.2 μ) (fun x4 μ3 => ?_)
    refine J_pop (pc := 18) hX (by decide +kernel) rfl ?_
    refine J_aload_n (k0 := 0) (pc := 19) 0 hX (by decide +kernel) rfl rfl ?_
    refine J_gr (pc := 20) hX (by decide +kernel) fl_Sf_12 hL.1 rfl hL.2.1.1 ?_
    refine J_gr (pc := 23) hX (by decide +kernel) fl_Sf_36 hL.2.1.2.1 rfl hL.2.1.2.2.2.2.2.1.1 ?_
    refine J_gr (pc := 26) hX (by decide +kernel) fl_Sf_337 hL.2.1.2.2.2.2.2.1.2.1 rfl hL.2.1.2.2.2.2.2.1.2.2.2.2.2.2.2.2.2.2.1.1 ?_
    refine J_cVi (pc := 29) (idx := 239) [] hX (by decide +kernel) (mq mt_4 183 (by decide +kernel)) mv_Rw_clear hL.2.1.2.2.2.2.2.1.2.2.2.2.2.2.2.2.2.2.1.2.1 rfl rfl (Nat.le_of_ble_eq_true rfl) (Nat.le_of_ble_eq_true rfl) (c_Rw_clear hL.2.1.2.2.2.2.2.1.2.2.2.2.2.2.2.2.2.2.1.2 μ3) (fun x6 μ5 => ?_)
    exact J_iret (pc := 32) hX (by decide +kernel) rfl trivial
set_option maxRecDepth 100000 in
set_option maxHeartbeats 4000000 in
theorem c_Sf_post {l : Launch} {G : Gx} {y : Ly} {a : Nat} (hL : LySf y a ) (v1 : Int32) (v2 : Int32) (μ : Mu) : Cn l G ⟨"SaltFigures", "post", "(II)I"⟩ prog_1_method_36_code 3 (some .int) 4 [.ref (G.1 + a), .int v1, .int v2] (μ, y) (emy y) rvI tpT (Sf_post a v1 v2 μ) := cn_of (by decide +kernel) (Nat.le_of_ble_eq_true rfl) (fun _ _ _ => ⟨List.prefix_refl _, trivial⟩) (fun X hX _ => jSf_post hL hX v1 v2 μ)

def Sf_row (a : Nat) (v1 : Int32) (v2 : Int32) (μ : Mu) : Option (Int32 × Mu) := (if v1 = 0 then cl (Rw_tell (a + 1 + 17 + 7) 10 v2 μ) (fun x4 μ3 => some (x4, μ3)) else (if v1 = 1 then cl (Rw_tell (a + 1 + 17 + 9) 10 v2 μ) (fun x2 μ1 => some (x2, μ1)) else some ((-1), μ)))
set_option maxRecDepth 100000 in
set_option maxHeartbeats 4000000 in
theorem jSf_row {X : Cx} {l : Launch} {G : Gx} {y : Ly} {a : Nat} (hL : LySf y a ) (hX : Ok X l G prog_1_method_28_code 3 (some .int) "SaltFigures") (v1 : Int32) (v2 : Int32) (μ : Mu) : J X G 3 3 y (emy y) rvI tpT 0 [(0, .ref (G.1 + a)), (1, .int v1), (2, .int v2)] [] (μ, y) (Sf_row a v1 v2 μ) := by
  unfold Sf_row
  refine J_iload_n (k0 := 1) (pc := 0) 1 hX (by decide +kernel) rfl rfl ?_
  refine J_if_ne (pc := 1) (off := 20) (tgt := 21) hX (by decide +kernel) (by decide +kernel) (fun _ => ?_) (fun _ => ?_)
  · refine J_iload_n (k0 := 1) (pc := 21) 1 hX (by decide +kernel) rfl rfl ?_
    refine J_iconst (pc := 22) (n := 1) (v := 1) hX (by decide +kernel) (by decide +kernel) ?_
    refine J_icmp_ne (pc := 23) (off := 20) (tgt := 43) hX (by decide +kernel) (by decide +kernel) (fun _ => ?_) (fun _ => ?_)
    · refine J_iconst (pc := 43) (n := -1) (v := (-1)) hX (by decide +kernel) (by decide +kernel) ?_
      exact J_iret (pc := 44) hX (by decide +kernel) rfl trivial
    · refine J_aload_n (k0 := 0) (pc := 26) 0 hX (by decide +kernel) rfl rfl ?_
      refine J_gr (pc := 27) hX (by decide +kernel) fl_Sf_12 hL.1 rfl hL.2.1.1 ?_
      refine J_gr (pc := 30) hX (by decide +kernel) fl_Sf_36 hL.2.1.2.1 rfl hL.2.1.2.2.2.2.2.1.1 ?_
      refine J_gr (pc := 33) hX (by decide +kernel) fl_Sf_292 hL.2.1.2.2.2.2.2.1.2.1 rfl hL.2.1.2.2.2.2.2.1.2.2.2.2.2.2.1.1 ?_
      refine J_iload_n (k0 := 2) (pc := 36) 2 hX (by decide +kernel) rfl rfl ?_
      refine J_cVi (pc := 37) (idx := 274) [.int v2] hX (by decide +kernel) (mq mt_5 18 (by decide +kernel)) mv_Rw_tell hL.2.1.2.2.2.2.2.1.2.2.2.2.2.2.1.2.1 rfl rfl (Nat.le_of_ble_eq_true rfl) (Nat.le_of_ble_eq_true rfl) (c_Rw_tell hL.2.1.2.2.2.2.2.1.2.2.2.2.2.2.1.2 v2 μ) (fun x2 μ1 => ?_)
      refine J_goto (pc := 40) (off := 4) (tgt := 44) hX (by decide +kernel) (by decide +kernel) ?_
      exact J_iret (pc := 44) hX (by decide +kernel) rfl trivial
  · refine J_aload_n (k0 := 0) (pc := 4) 0 hX (by decide +kernel) rfl rfl ?_
    refine J_gr (pc := 5) hX (by decide +kernel) fl_Sf_12 hL.1 rfl hL.2.1.1 ?_
    refine J_gr (pc := 8) hX (by decide +kernel) fl_Sf_36 hL.2.1.2.1 rfl hL.2.1.2.2.2.2.2.1.1 ?_
    refine J_gr (pc := 11) hX (by decide +kernel) fl_Sf_289 hL.2.1.2.2.2.2.2.1.2.1 rfl hL.2.1.2.2.2.2.2.1.2.2.2.2.2.1.1 ?_
    refine J_iload_n (k0 := 2) (pc := 14) 2 hX (by decide +kernel) rfl rfl ?_
    refine J_cVi (pc := 15) (idx := 274) [.int v2] hX (by decide +kernel) (mq mt_5 18 (by decide +kernel)) mv_Rw_tell hL.2.1.2.2.2.2.2.1.2.2.2.2.2.1.2.1 rfl rfl (Nat.le_of_ble_eq_true rfl) (Nat.le_of_ble_eq_true rfl) (c_Rw_tell hL.2.1.2.2.2.2.2.1.2.2.2.2.2.1.2 v2 μ) (fun x4 μ3 => ?_)
    refine J_goto (pc := 18) (off := 26) (tgt := 44) hX (by decide +kernel) (by decide +kernel) ?_
    exact J_iret (pc := 44) hX (by decide +kernel) rfl trivial
set_option maxRecDepth 100000 in
set_option maxHeartbeats 4000000 in
theorem c_Sf_row {l : Launch} {G : Gx} {y : Ly} {a : Nat} (hL : LySf y a ) (v1 : Int32) (v2 : Int32) (μ : Mu) : Cn l G ⟨"SaltFigures", "row", "(II)I"⟩ prog_1_method_28_code 3 (some .int) 3 [.ref (G.1 + a), .int v1, .int v2] (μ, y) (emy y) rvI tpT (Sf_row a v1 v2 μ) := cn_of (by decide +kernel) (Nat.le_of_ble_eq_true rfl) (fun _ _ _ => ⟨List.prefix_refl _, trivial⟩) (fun X hX _ => jSf_row hL hX v1 v2 μ)

def Sf_set_105 (a : Nat)     (μ : Mu) : Option (Int32 × Mu) := cl (Sf_forget a μ) (fun _ μ1 => some (1, μ1))
def Sf_set_67 (a : Nat)   (v1 : Int32) (v2 : Int32) (v3 : Int32)  (μ : Mu) : Option (Int32 × Mu) := (if v1 = 1 then cl (Fg_isAlive (a + 1 + 1) v2 μ) (fun x2 μ1 => (if x2 = 0 then some (0, μ1) else cl (Sf_within v3 0 9999 μ1) (fun x4 μ3 => (if x4 = 0 then some (0, μ3) else cl (Fg_put (a + 1 + 1) v2 1 v3 μ3) (fun _ μ5 => Sf_set_105 a μ5))))) else some (0, μ))
def Sf_set_33 (a : Nat)   (v1 : Int32) (v2 : Int32) (v3 : Int32)  (μ : Mu) : Option (Int32 × Mu) := (if v1 = 0 then cl (Fg_isAlive (a + 1 + 1) v2 μ) (fun x2 μ1 => (if x2 = 0 then Sf_set_67 a v1 v2 v3 μ1 else cl (Sf_within v3 0 9 μ1) (fun x4 μ3 => (if x4 = 0 then Sf_set_67 a v1 v2 v3 μ3 else cl (Fg_put (a + 1 + 1) v2 0 v3 μ3) (fun _ μ5 => Sf_set_105 a μ5))))) else Sf_set_67 a v1 v2 v3 μ)
def Sf_set (a : Nat) (v1 : Int32) (v2 : Int32) (v3 : Int32) (μ : Mu) : Option (Int32 × Mu) := (if v1 = 2 then cl (Sf_within v3 0 9 μ) (fun x2 μ1 => (if x2 = 0 then Sf_set_33 a v1 v2 v3 μ1 else pF μ1 (a + 1 + 1) 4 v3 (fun μ3 => Sf_set_105 a μ3))) else Sf_set_33 a v1 v2 v3 μ)
set_option maxRecDepth 100000 in
set_option maxHeartbeats 4000000 in
theorem jSf_set_105 {X : Cx} {l : Launch} {G : Gx} {y : Ly} {a : Nat} (hL : LySf y a ) (hX : Ok X l G prog_1_method_4_code 5 (some .boolean) "SaltFigures")      (μ : Mu) : J X G 5 3 y (emy y) rvI tpT 105 [(0, .ref (G.1 + a))] [] (μ, y) (Sf_set_105 a     μ) := by
  unfold Sf_set_105
  refine J_aload_n (k0 := 0) (pc := 105) 0 hX (by decide +kernel) rfl rfl ?_
  refine J_cVv (pc := 106) (idx := 65) [] hX (by decide +kernel) (mq mt_2 140 (by decide +kernel)) mv_Sf_forget hL.1 rfl rfl (Nat.le_of_ble_eq_true rfl) (Nat.le_of_ble_eq_true rfl) (c_Sf_forget hL μ) (fun μ1 => ?_)
  refine J_iconst (pc := 109) (n := 1) (v := 1) hX (by decide +kernel) (by decide +kernel) ?_
  exact J_zret (pc := 110) hX (by decide +kernel) rfl (by decide +kernel) trivial
set_option maxRecDepth 100000 in
set_option maxHeartbeats 4000000 in
theorem jSf_set_67 {X : Cx} {l : Launch} {G : Gx} {y : Ly} {a : Nat} (hL : LySf y a ) (hX : Ok X l G prog_1_method_4_code 5 (some .boolean) "SaltFigures")  (v1 : Int32) (v2 : Int32) (v3 : Int32)    (μ : Mu) : J X G 5 3 y (emy y) rvI tpT 67 [(0, .ref (G.1 + a)), (1, .int v1), (2, .int v2), (3, .int v3), (4, .ref (G.1 + (a + 1 + 1)))] [] (μ, y) (Sf_set_67 a   v1 v2 v3  μ) := by
  unfold Sf_set_67
  refine J_iload_n (k0 := 1) (pc := 67) 1 hX (by decide +kernel) rfl rfl ?_
  refine J_iconst (pc := 68) (n := 1) (v := 1) hX (by decide +kernel) (by decide +kernel) ?_
  refine J_icmp_ne (pc := 69) (off := 34) (tgt := 103) hX (by decide +kernel) (by decide +kernel) (fun _ => ?_) (fun _ => ?_)
  · refine J_iconst (pc := 103) (n := 0) (v := 0) hX (by decide +kernel) (by decide +kernel) ?_
    exact J_zret (pc := 104) hX (by decide +kernel) rfl (by decide +kernel) trivial
  · refine J_aload (pc := 72) 4 hX (by decide +kernel) rfl ?_
    refine J_iload_n (k0 := 2) (pc := 74) 2 hX (by decide +kernel) rfl rfl ?_
    refine J_cVi (pc := 75) (idx := 82) [.int v2] hX (by decide +kernel) (mq mt_2 163 (by decide +kernel)) mv_Fg_isAlive hL.2.1.2.2.1.2.1 rfl rfl (Nat.le_of_ble_eq_true rfl) (Nat.le_of_ble_eq_true rfl) (c_Fg_isAlive hL.2.1.2.2.1.2 v2 μ) (fun x2 μ1 => ?_)
    refine J_if_eq (pc := 78) (off := 25) (tgt := 103) hX (by decide +kernel) (by decide +kernel) (fun _ => ?_) (fun _ => ?_)
    · refine J_iconst (pc := 103) (n := 0) (v := 0) hX (by decide +kernel) (by decide +kernel) ?_
      exact J_zret (pc := 104) hX (by decide +kernel) rfl (by decide +kernel) trivial
    · refine J_iload_n (k0 := 3) (pc := 81) 3 hX (by decide +kernel) rfl rfl ?_
      refine J_iconst (pc := 82) (n := 0) (v := 0) hX (by decide +kernel) (by decide +kernel) ?_
      refine J_sipush (pc := 83) (n := 9999) (v := 9999) hX (by decide +kernel) (by decide +kernel) ?_
      refine J_cSi (pc := 86) (idx := 68) [.int v3, .int 0, .int 9999] hX (by decide +kernel) (mq mt_2 148 (by decide +kernel)) mv_Sf_within rfl rfl (Nat.le_of_ble_eq_true rfl) (Nat.le_of_ble_eq_true rfl) (c_Sf_within v3 0 9999 μ1) (fun x4 μ3 => ?_)
      refine J_if_eq (pc := 89) (off := 14) (tgt := 103) hX (by decide +kernel) (by decide +kernel) (fun _ => ?_) (fun _ => ?_)
      · refine J_iconst (pc := 103) (n := 0) (v := 0) hX (by decide +kernel) (by decide +kernel) ?_
        exact J_zret (pc := 104) hX (by decide +kernel) rfl (by decide +kernel) trivial
      · refine J_aload (pc := 92) 4 hX (by decide +kernel) rfl ?_
        refine J_iload_n (k0 := 2) (pc := 94) 2 hX (by decide +kernel) rfl rfl ?_
        refine J_iconst (pc := 95) (n := 1) (v := 1) hX (by decide +kernel) (by decide +kernel) ?_
        refine J_iload_n (k0 := 3) (pc := 96) 3 hX (by decide +kernel) rfl rfl ?_
        refine J_cVv (pc := 97) (idx := 86) [.int v2, .int 1, .int v3] hX (by decide +kernel) (mq mt_2 171 (by decide +kernel)) mv_Fg_put hL.2.1.2.2.1.2.1 rfl rfl (Nat.le_of_ble_eq_true rfl) (Nat.le_of_ble_eq_true rfl) (c_Fg_put hL.2.1.2.2.1.2 v2 1 v3 μ3) (fun μ5 => ?_)
        refine J_goto (pc := 100) (off := 5) (tgt := 105) hX (by decide +kernel) (by decide +kernel) ?_
        exact J_sub [0] _ rfl (jSf_set_105 hL hX μ5)
set_option maxRecDepth 100000 in
set_option maxHeartbeats 4000000 in
theorem jSf_set_33 {X : Cx} {l : Launch} {G : Gx} {y : Ly} {a : Nat} (hL : LySf y a ) (hX : Ok X l G prog_1_method_4_code 5 (some .boolean) "SaltFigures")  (v1 : Int32) (v2 : Int32) (v3 : Int32)    (μ : Mu) : J X G 5 3 y (emy y) rvI tpT 33 [(0, .ref (G.1 + a)), (1, .int v1), (2, .int v2), (3, .int v3), (4, .ref (G.1 + (a + 1 + 1)))] [] (μ, y) (Sf_set_33 a   v1 v2 v3  μ) := by
  unfold Sf_set_33
  refine J_iload_n (k0 := 1) (pc := 33) 1 hX (by decide +kernel) rfl rfl ?_
  refine J_if_ne (pc := 34) (off := 33) (tgt := 67) hX (by decide +kernel) (by decide +kernel) (fun _ => ?_) (fun _ => ?_)
  · exact J_sub [0, 1, 2, 3, 4] _ rfl (jSf_set_67 hL hX v1 v2 v3 μ)
  · refine J_aload (pc := 37) 4 hX (by decide +kernel) rfl ?_
    refine J_iload_n (k0 := 2) (pc := 39) 2 hX (by decide +kernel) rfl rfl ?_
    refine J_cVi (pc := 40) (idx := 82) [.int v2] hX (by decide +kernel) (mq mt_2 163 (by decide +kernel)) mv_Fg_isAlive hL.2.1.2.2.1.2.1 rfl rfl (Nat.le_of_ble_eq_true rfl) (Nat.le_of_ble_eq_true rfl) (c_Fg_isAlive hL.2.1.2.2.1.2 v2 μ) (fun x2 μ1 => ?_)
    refine J_if_eq (pc := 43) (off := 24) (tgt := 67) hX (by decide +kernel) (by decide +kernel) (fun _ => ?_) (fun _ => ?_)
    · exact J_sub [0, 1, 2, 3, 4] _ rfl (jSf_set_67 hL hX v1 v2 v3 μ1)
    · refine J_iload_n (k0 := 3) (pc := 46) 3 hX (by decide +kernel) rfl rfl ?_
      refine J_iconst (pc := 47) (n := 0) (v := 0) hX (by decide +kernel) (by decide +kernel) ?_
      refine J_bipush (pc := 48) (n := 9) (v := 9) hX (by decide +kernel) (by decide +kernel) ?_
      refine J_cSi (pc := 50) (idx := 68) [.int v3, .int 0, .int 9] hX (by decide +kernel) (mq mt_2 148 (by decide +kernel)) mv_Sf_within rfl rfl (Nat.le_of_ble_eq_true rfl) (Nat.le_of_ble_eq_true rfl) (c_Sf_within v3 0 9 μ1) (fun x4 μ3 => ?_)
      refine J_if_eq (pc := 53) (off := 14) (tgt := 67) hX (by decide +kernel) (by decide +kernel) (fun _ => ?_) (fun _ => ?_)
      · exact J_sub [0, 1, 2, 3, 4] _ rfl (jSf_set_67 hL hX v1 v2 v3 μ3)
      · refine J_aload (pc := 56) 4 hX (by decide +kernel) rfl ?_
        refine J_iload_n (k0 := 2) (pc := 58) 2 hX (by decide +kernel) rfl rfl ?_
        refine J_iconst (pc := 59) (n := 0) (v := 0) hX (by decide +kernel) (by decide +kernel) ?_
        refine J_iload_n (k0 := 3) (pc := 60) 3 hX (by decide +kernel) rfl rfl ?_
        refine J_cVv (pc := 61) (idx := 86) [.int v2, .int 0, .int v3] hX (by decide +kernel) (mq mt_2 171 (by decide +kernel)) mv_Fg_put hL.2.1.2.2.1.2.1 rfl rfl (Nat.le_of_ble_eq_true rfl) (Nat.le_of_ble_eq_true rfl) (c_Fg_put hL.2.1.2.2.1.2 v2 0 v3 μ3) (fun μ5 => ?_)
        refine J_goto (pc := 64) (off := 41) (tgt := 105) hX (by decide +kernel) (by decide +kernel) ?_
        exact J_sub [0] _ rfl (jSf_set_105 hL hX μ5)
set_option maxRecDepth 100000 in
set_option maxHeartbeats 4000000 in
theorem jSf_set {X : Cx} {l : Launch} {G : Gx} {y : Ly} {a : Nat} (hL : LySf y a ) (hX : Ok X l G prog_1_method_4_code 5 (some .boolean) "SaltFigures") (v1 : Int32) (v2 : Int32) (v3 : Int32) (μ : Mu) : J X G 5 3 y (emy y) rvI tpT 0 [(0, .ref (G.1 + a)), (1, .int v1), (2, .int v2), (3, .int v3)] [] (μ, y) (Sf_set a v1 v2 v3 μ) := by
  unfold Sf_set
  refine J_aload_n (k0 := 0) (pc := 0) 0 hX (by decide +kernel) rfl rfl ?_
  refine J_gr (pc := 1) hX (by decide +kernel) fl_Sf_12 hL.1 rfl hL.2.1.1 ?_
  refine J_gr (pc := 4) hX (by decide +kernel) fl_Sf_58 hL.2.1.2.1 rfl hL.2.1.2.2.1.1 ?_
  refine J_astore (pc := 7) [(4, .ref (G.1 + (a + 1 + 1))), (0, .ref (G.1 + a)), (1, .int v1), (2, .int v2), (3, .int v3)] hX (by decide +kernel) (by decide) rfl ?_
  refine J_iload_n (k0 := 1) (pc := 9) 2 hX (by decide +kernel) rfl rfl ?_
  refine J_iconst (pc := 10) (n := 2) (v := 2) hX (by decide +kernel) (by decide +kernel) ?_
  refine J_icmp_ne (pc := 11) (off := 22) (tgt := 33) hX (by decide +kernel) (by decide +kernel) (fun _ => ?_) (fun _ => ?_)
  · exact J_sub [1, 2, 3, 4, 0] _ rfl (jSf_set_33 hL hX v1 v2 v3 μ)
  · refine J_iload_n (k0 := 3) (pc := 14) 4 hX (by decide +kernel) rfl rfl ?_
    refine J_iconst (pc := 15) (n := 0) (v := 0) hX (by decide +kernel) (by decide +kernel) ?_
    refine J_bipush (pc := 16) (n := 9) (v := 9) hX (by decide +kernel) (by decide +kernel) ?_
    refine J_cSi (pc := 18) (idx := 68) [.int v3, .int 0, .int 9] hX (by decide +kernel) (mq mt_2 148 (by decide +kernel)) mv_Sf_within rfl rfl (Nat.le_of_ble_eq_true rfl) (Nat.le_of_ble_eq_true rfl) (c_Sf_within v3 0 9 μ) (fun x2 μ1 => ?_)
    refine J_if_eq (pc := 21) (off := 12) (tgt := 33) hX (by decide +kernel) (by decide +kernel) (fun _ => ?_) (fun _ => ?_)
    · exact J_sub [1, 2, 3, 4, 0] _ rfl (jSf_set_33 hL hX v1 v2 v3 μ1)
    · refine J_aload (pc := 24) 0 hX (by decide +kernel) rfl ?_
      refine J_iload_n (k0 := 3) (pc := 26) 4 hX (by decide +kernel) rfl rfl ?_
      refine J_pF (pc := 27) hX (by decide +kernel) fl_Sf_79 hL.2.1.2.2.1.2.1 rfl (fun μ3 => ?_)
      refine J_goto (pc := 30) (off := 75) (tgt := 105) hX (by decide +kernel) (by decide +kernel) ?_
      exact J_sub [1] _ rfl (jSf_set_105 hL hX μ3)
set_option maxRecDepth 100000 in
set_option maxHeartbeats 4000000 in
theorem c_Sf_set {l : Launch} {G : Gx} {y : Ly} {a : Nat} (hL : LySf y a ) (v1 : Int32) (v2 : Int32) (v3 : Int32) (μ : Mu) : Cn l G ⟨"SaltFigures", "set", "(III)Z"⟩ prog_1_method_4_code 5 (some .boolean) 3 [.ref (G.1 + a), .int v1, .int v2, .int v3] (μ, y) (emy y) rvI tpT (Sf_set a v1 v2 v3 μ) := cn_of (by decide +kernel) (Nat.le_of_ble_eq_true rfl) (fun _ _ _ => ⟨List.prefix_refl _, trivial⟩) (fun X hX _ => jSf_set hL hX v1 v2 v3 μ)

def Th_shadowWays_106 (a tt : Nat) (kb28 : Int32 → Mu → Option (Int32 × Mu))  (v1 : Int32) (v2 : Int32)  (μ : Mu) : Option (Int32 × Mu) := kb28 (v2 + 1) μ
def Th_shadowWays_100 (a tt : Nat) (kb28 : Int32 → Mu → Option (Int32 × Mu)) (kb44 : Int32 → Mu → Option (Int32 × Mu))  (v1 : Int32) (v2 : Int32) (v3 : Int32)  (μ : Mu) : Option (Int32 × Mu) := kb44 (v3 + (-1)) μ
def Th_shadowWays_44b (a tt : Nat) (kb28 : Int32 → Mu → Option (Int32 × Mu)) (kb44 : Int32 → Mu → Option (Int32 × Mu)) (v1 : Int32) (v2 : Int32) (v3 : Int32)  (μ : Mu) : Option (Int32 × Mu) := (if v3 < 1 then Th_shadowWays_106 a tt kb28 v1 v2 μ else (if 361 ≤ v3 then Th_shadowWays_106 a tt kb28 v1 v2 μ else cl (Rw_at (tt + 7) 10 v2 μ) (fun x2 μ1 => cl (Rw_at (tt + 9) 10 (v3 - 1) μ1) (fun x4 μ3 => (if x2 = x4 then ldA μ3 (a + 1) 361 v3 (fun x5 => ldA μ3 (a + 1) 361 (v3 - 1) (fun x6 => stA μ3 (a + 1) 361 v3 (x5 + x6) (fun μ7 => Th_shadowWays_100 a tt kb28 kb44 v1 v2 v3 μ7))) else Th_shadowWays_100 a tt kb28 kb44 v1 v2 v3 μ3)))))
def Th_shadowWays_44 (a tt : Nat) (kb28 : Int32 → Mu → Option (Int32 × Mu)) (v1 : Int32) (v2 : Int32) (fu : Nat) : Int32 → Mu → Option (Int32 × Mu) := lp (fun kb => Th_shadowWays_44b a tt kb28 kb v1 v2) (fun _ _ => none) fu
def Th_shadowWays_28b (a tt : Nat)  (kb28 : Int32 → Mu → Option (Int32 × Mu)) (v1 : Int32) (v2 : Int32)  (μ : Mu) : Option (Int32 × Mu) := gF μ (tt + 7) 3 (fun x1 => (if x1 ≤ v2 then (if v1 < 0 then some (0, μ) else (if 361 ≤ v1 then some (0, μ) else ldA μ (a + 1) 361 v1 (fun x2 => some (x2, μ)))) else Th_shadowWays_44 a tt kb28 v1 v2 FU v1 μ))
def Th_shadowWays_28 (a tt : Nat)  (v1 : Int32) (fu : Nat) : Int32 → Mu → Option (Int32 × Mu) := lp (fun kb => Th_shadowWays_28b a tt  kb v1) (fun _ _ => none) fu
def Th_shadowWays (a tt : Nat)  (μ : Mu) : Option (Int32 × Mu) := gF μ (tt + 9) 3 (fun x1 => cl (Ja_fill (a + 1) 361 0 μ) (fun _ μ2 => stA μ2 (a + 1) 361 0 1 (fun μ3 => Th_shadowWays_28 a tt x1 FU 0 μ3)))
set_option maxRecDepth 100000 in
set_option maxHeartbeats 4000000 in
theorem jTh_shadowWays_106 {X : Cx} {l : Launch} {G : Gx} {y : Ly} {a tt : Nat} (hL : LyTh y a tt) (hX : Ok X l G prog_10_method_14_code 4 (some .int) "SaltFigures$Thinker")  (v1 : Int32) (v2 : Int32)  {kb28 : Int32 → Mu → Option (Int32 × Mu)} (hk28 : ∀ (v2 : Int32) (μ : Mu), J X G 4 2 y (emy y) rvI tpT 28 [(0, .ref (G.1 + a)), (1, .int v1), (2, .int v2)] [] (μ, y) (kb28 v2 μ)) (μ : Mu) : J X G 4 2 y (emy y) rvI tpT 106 [(0, .ref (G.1 + a)), (1, .int v1), (2, .int v2)] [] (μ, y) (Th_shadowWays_106 a tt kb28  v1 v2  μ) := by
  unfold Th_shadowWays_106
  refine J_iinc (pc := 106) (n := 1) 2 [(2, .int (v2 + 1)), (0, .ref (G.1 + a)), (1, .int v1)] hX (by decide +kernel) rfl rfl (by decide) rfl ?_
  refine J_goto (pc := 109) (off := -81) (tgt := 28) hX (by decide +kernel) (by decide +kernel) ?_
  exact J_sub [1, 2, 0] _ rfl (hk28 (v2 + 1) μ)
set_option maxRecDepth 100000 in
set_option maxHeartbeats 4000000 in
theorem jTh_shadowWays_100 {X : Cx} {l : Launch} {G : Gx} {y : Ly} {a tt : Nat} (hL : LyTh y a tt) (hX : Ok X l G prog_10_method_14_code 4 (some .int) "SaltFigures$Thinker")  (v1 : Int32) (v2 : Int32) (v3 : Int32)  {kb28 : Int32 → Mu → Option (Int32 × Mu)} {kb44 : Int32 → Mu → Option (Int32 × Mu)} (hk28 : ∀ (v2 : Int32) (μ : Mu), J X G 4 2 y (emy y) rvI tpT 28 [(0, .ref (G.1 + a)), (1, .int v1), (2, .int v2)] [] (μ, y) (kb28 v2 μ)) (hk44 : ∀ (v3 : Int32) (μ : Mu), J X G 4 2 y (emy y) rvI tpT 44 [(0, .ref (G.1 + a)), (1, .int v1), (2, .int v2), (3, .int v3)] [] (μ, y) (kb44 v3 μ)) (μ : Mu) : J X G 4 2 y (emy y) rvI tpT 100 [(0, .ref (G.1 + a)), (1, .int v1), (2, .int v2), (3, .int v3)] [] (μ, y) (Th_shadowWays_100 a tt kb28 kb44  v1 v2 v3  μ) := by
  unfold Th_shadowWays_100
  refine J_iinc (pc := 100) (n := -1) 3 [(3, .int (v3 + (-1))), (0, .ref (G.1 + a)), (1, .int v1), (2, .int v2)] hX (by decide +kernel) rfl rfl (by decide) rfl ?_
  refine J_goto (pc := 103) (off := -59) (tgt := 44) hX (by decide +kernel) (by decide +kernel) ?_
  exact J_sub [1, 2, 3, 0] _ rfl (hk44 (v3 + (-1)) μ)
set_option maxRecDepth 100000 in
set_option maxHeartbeats 4000000 in
theorem jTh_shadowWays_44b {X : Cx} {l : Launch} {G : Gx} {y : Ly} {a tt : Nat} (hL : LyTh y a tt) (hX : Ok X l G prog_10_method_14_code 4 (some .int) "SaltFigures$Thinker") (v1 : Int32) (v2 : Int32) {kb28 : Int32 → Mu → Option (Int32 × Mu)} {kb44 : Int32 → Mu → Option (Int32 × Mu)} (hk28 : ∀ (v2 : Int32) (μ : Mu), J X G 4 2 y (emy y) rvI tpT 28 [(0, .ref (G.1 + a)), (1, .int v1), (2, .int v2)] [] (μ, y) (kb28 v2 μ)) (hk44 : ∀ (v3 : Int32) (μ : Mu), J X G 4 2 y (emy y) rvI tpT 44 [(0, .ref (G.1 + a)), (1, .int v1), (2, .int v2), (3, .int v3)] [] (μ, y) (kb44 v3 μ)) (v3 : Int32)  (μ : Mu) : J X G 4 2 y (emy y) rvI tpT 44 [(0, .ref (G.1 + a)), (1, .int v1), (2, .int v2), (3, .int v3)] [] (μ, y) (Th_shadowWays_44b a tt kb28 kb44 v1 v2 v3  μ) := by
  unfold Th_shadowWays_44b
  refine J_iload_n (k0 := 3) (pc := 44) 3 hX (by decide +kernel) rfl rfl ?_
  refine J_iconst (pc := 45) (n := 1) (v := 1) hX (by decide +kernel) (by decide +kernel) ?_
  refine J_icmp_lt (pc := 46) (off := 60) (tgt := 106) hX (by decide +kernel) (by decide +kernel) (fun _ => ?_) (fun _ => ?_)
  · exact J_sub [0, 1, 2] _ rfl (jTh_shadowWays_106 hL hX v1 v2 hk28 μ)
  · refine J_iload_n (k0 := 3) (pc := 49) 3 hX (by decide +kernel) rfl rfl ?_
    refine J_sipush (pc := 50) (n := 361) (v := 361) hX (by decide +kernel) (by decide +kernel) ?_
    refine J_icmp_ge (pc := 53) (off := 53) (tgt := 106) hX (by decide +kernel) (by decide +kernel) (fun _ => ?_) (fun _ => ?_)
    · exact J_sub [0, 1, 2] _ rfl (jTh_shadowWays_106 hL hX v1 v2 hk28 μ)
    · refine J_aload_n (k0 := 0) (pc := 56) 0 hX (by decide +kernel) rfl rfl ?_
      refine J_gr (pc := 57) hX (by decide +kernel) fl_Th_18 hL.1 rfl hL.2.1.1 ?_
      refine J_gr (pc := 60) hX (by decide +kernel) fl_Th_91 hL.2.1.2.1 rfl hL.2.1.2.2.2.2.2.1.1 ?_
      refine J_iload_n (k0 := 2) (pc := 63) 2 hX (by decide +kernel) rfl rfl ?_
      refine J_cVi (pc := 64) (idx := 34) [.int v2] hX (by decide +kernel) (mq mt_4 191 (by decide +kernel)) mv_Rw_at hL.2.1.2.2.2.2.2.1.2.1 rfl rfl (Nat.le_of_ble_eq_true rfl) (Nat.le_of_ble_eq_true rfl) (c_Rw_at hL.2.1.2.2.2.2.2.1.2 v2 μ) (fun x2 μ1 => ?_)
      refine J_aload_n (k0 := 0) (pc := 67) 0 hX (by decide +kernel) rfl rfl ?_
      refine J_gr (pc := 68) hX (by decide +kernel) fl_Th_18 hL.1 rfl hL.2.1.1 ?_
      refine J_gr (pc := 71) hX (by decide +kernel) fl_Th_88 hL.2.1.2.1 rfl hL.2.1.2.2.2.2.2.2.1.1 ?_
      refine J_iload_n (k0 := 3) (pc := 74) 3 hX (by decide +kernel) rfl rfl ?_
      refine J_iconst (pc := 75) (n := 1) (v := 1) hX (by decide +kernel) (by decide +kernel) ?_
      refine J_isub (pc := 76) hX (by decide +kernel) ?_
      refine J_cVi (pc := 77) (idx := 34) [.int (v3 - 1)] hX (by decide +kernel) (mq mt_4 191 (by decide +kernel)) mv_Rw_at hL.2.1.2.2.2.2.2.2.1.2.1 rfl rfl (Nat.le_of_ble_eq_true rfl) (Nat.le_of_ble_eq_true rfl) (c_Rw_at hL.2.1.2.2.2.2.2.2.1.2 (v3 - 1) μ1) (fun x4 μ3 => ?_)
      refine J_icmp_ne (pc := 80) (off := 20) (tgt := 100) hX (by decide +kernel) (by decide +kernel) (fun _ => ?_) (fun _ => ?_)
      · exact J_sub [0, 1, 2, 3] _ rfl (jTh_shadowWays_100 hL hX v1 v2 v3 hk28 hk44 μ3)
      · refine J_aload_n (k0 := 0) (pc := 83) 0 hX (by decide +kernel) rfl rfl ?_
        refine J_gr (pc := 84) hX (by decide +kernel) fl_Th_11 hL.1 rfl hL.2.2.1.1 ?_
        refine J_iload_n (k0 := 3) (pc := 87) 3 hX (by decide +kernel) rfl rfl ?_
        refine J_dup2 (pc := 88) hX (by decide +kernel) rfl rfl ?_
        refine J_ldA (pc := 89) hX (by decide +kernel) hL.2.2.1.2 (fun x5 => ?_)
        refine J_aload_n (k0 := 0) (pc := 90) 0 hX (by decide +kernel) rfl rfl ?_
        refine J_gr (pc := 91) hX (by decide +kernel) fl_Th_11 hL.1 rfl hL.2.2.1.1 ?_
        refine J_iload_n (k0 := 3) (pc := 94) 3 hX (by decide +kernel) rfl rfl ?_
        refine J_iconst (pc := 95) (n := 1) (v := 1) hX (by decide +kernel) (by decide +kernel) ?_
        refine J_isub (pc := 96) hX (by decide +kernel) ?_
        refine J_ldA (pc := 97) hX (by decide +kernel) hL.2.2.1.2 (fun x6 => ?_)
        refine J_iadd (pc := 98) hX (by decide +kernel) ?_
        refine J_stA (pc := 99) hX (by decide +kernel) hL.2.2.1.2 (fun μ7 => ?_)
        exact J_sub [0, 1, 2, 3] _ rfl (jTh_shadowWays_100 hL hX v1 v2 v3 hk28 hk44 μ7)
set_option maxRecDepth 100000 in
set_option maxHeartbeats 4000000 in
theorem jTh_shadowWays_44 {X : Cx} {l : Launch} {G : Gx} {y : Ly} {a tt : Nat} (hL : LyTh y a tt) (hX : Ok X l G prog_10_method_14_code 4 (some .int) "SaltFigures$Thinker") (v1 : Int32) (v2 : Int32) {kb28 : Int32 → Mu → Option (Int32 × Mu)} (hk28 : ∀ (v2 : Int32) (μ : Mu), J X G 4 2 y (emy y) rvI tpT 28 [(0, .ref (G.1 + a)), (1, .int v1), (2, .int v2)] [] (μ, y) (kb28 v2 μ)) : ∀ (fu : Nat) (v3 : Int32) (μ : Mu), J X G 4 2 y (emy y) rvI tpT 44 [(0, .ref (G.1 + a)), (1, .int v1), (2, .int v2), (3, .int v3)] [] (μ, y) (Th_shadowWays_44 a tt kb28 v1 v2 fu v3 μ) := by
  intro fu
  induction fu with
  | zero => intros; exact J_none
  | succ fu ih => intro v3 μ; exact jTh_shadowWays_44b hL hX v1 v2 hk28 ih v3 μ
set_option maxRecDepth 100000 in
set_option maxHeartbeats 4000000 in
theorem jTh_shadowWays_28b {X : Cx} {l : Launch} {G : Gx} {y : Ly} {a tt : Nat} (hL : LyTh y a tt) (hX : Ok X l G prog_10_method_14_code 4 (some .int) "SaltFigures$Thinker") (v1 : Int32)  {kb28 : Int32 → Mu → Option (Int32 × Mu)}  (hk28 : ∀ (v2 : Int32) (μ : Mu), J X G 4 2 y (emy y) rvI tpT 28 [(0, .ref (G.1 + a)), (1, .int v1), (2, .int v2)] [] (μ, y) (kb28 v2 μ)) (v2 : Int32)  (μ : Mu) : J X G 4 2 y (emy y) rvI tpT 28 [(0, .ref (G.1 + a)), (1, .int v1), (2, .int v2)] [] (μ, y) (Th_shadowWays_28b a tt  kb28 v1 v2  μ) := by
  unfold Th_shadowWays_28b
  refine J_iload_n (k0 := 2) (pc := 28) 2 hX (by decide +kernel) rfl rfl ?_
  refine J_aload_n (k0 := 0) (pc := 29) 0 hX (by decide +kernel) rfl rfl ?_
  refine J_gr (pc := 30) hX (by decide +kernel) fl_Th_18 hL.1 rfl hL.2.1.1 ?_
  refine J_gr (pc := 33) hX (by decide +kernel) fl_Th_91 hL.2.1.2.1 rfl hL.2.1.2.2.2.2.2.1.1 ?_
  refine J_gF (pc := 36) hX (by decide +kernel) fl_Th_28 hL.2.1.2.2.2.2.2.1.2.1 rfl (fun x1 => ?_)
  refine J_icmp_ge (pc := 39) (off := 73) (tgt := 112) hX (by decide +kernel) (by decide +kernel) (fun _ => ?_) (fun _ => ?_)
  · refine J_iload_n (k0 := 1) (pc := 112) 1 hX (by decide +kernel) rfl rfl ?_
    refine J_if_lt (pc := 113) (off := 19) (tgt := 132) hX (by decide +kernel) (by decide +kernel) (fun _ => ?_) (fun _ => ?_)
    · refine J_iconst (pc := 132) (n := 0) (v := 0) hX (by decide +kernel) (by decide +kernel) ?_
      exact J_iret (pc := 133) hX (by decide +kernel) rfl trivial
    · refine J_iload_n (k0 := 1) (pc := 116) 1 hX (by decide +kernel) rfl rfl ?_
      refine J_sipush (pc := 117) (n := 361) (v := 361) hX (by decide +kernel) (by decide +kernel) ?_
      refine J_icmp_ge (pc := 120) (off := 12) (tgt := 132) hX (by decide +kernel) (by decide +kernel) (fun _ => ?_) (fun _ => ?_)
      · refine J_iconst (pc := 132) (n := 0) (v := 0) hX (by decide +kernel) (by decide +kernel) ?_
        exact J_iret (pc := 133) hX (by decide +kernel) rfl trivial
      · refine J_aload_n (k0 := 0) (pc := 123) 0 hX (by decide +kernel) rfl rfl ?_
        refine J_gr (pc := 124) hX (by decide +kernel) fl_Th_11 hL.1 rfl hL.2.2.1.1 ?_
        refine J_iload_n (k0 := 1) (pc := 127) 1 hX (by decide +kernel) rfl rfl ?_
        refine J_ldA (pc := 128) hX (by decide +kernel) hL.2.2.1.2 (fun x2 => ?_)
        refine J_goto (pc := 129) (off := 4) (tgt := 133) hX (by decide +kernel) (by decide +kernel) ?_
        exact J_iret (pc := 133) hX (by decide +kernel) rfl trivial
  · refine J_iload_n (k0 := 1) (pc := 42) 1 hX (by decide +kernel) rfl rfl ?_
    refine J_istore_n (k0 := 3) (pc := 43) [(3, .int v1), (0, .ref (G.1 + a)), (1, .int v1), (2, .int v2)] hX (by decide +kernel) rfl (by decide) rfl ?_
    exact J_sub [1, 2, 3, 0] _ rfl (jTh_shadowWays_44 hL hX v1 v2 hk28 FU v1 μ)
set_option maxRecDepth 100000 in
set_option maxHeartbeats 4000000 in
theorem jTh_shadowWays_28 {X : Cx} {l : Launch} {G : Gx} {y : Ly} {a tt : Nat} (hL : LyTh y a tt) (hX : Ok X l G prog_10_method_14_code 4 (some .int) "SaltFigures$Thinker") (v1 : Int32)   : ∀ (fu : Nat) (v2 : Int32) (μ : Mu), J X G 4 2 y (emy y) rvI tpT 28 [(0, .ref (G.1 + a)), (1, .int v1), (2, .int v2)] [] (μ, y) (Th_shadowWays_28 a tt  v1 fu v2 μ) := by
  intro fu
  induction fu with
  | zero => intros; exact J_none
  | succ fu ih => intro v2 μ; exact jTh_shadowWays_28b hL hX v1  ih v2 μ
set_option maxRecDepth 100000 in
set_option maxHeartbeats 4000000 in
theorem jTh_shadowWays {X : Cx} {l : Launch} {G : Gx} {y : Ly} {a tt : Nat} (hL : LyTh y a tt) (hX : Ok X l G prog_10_method_14_code 4 (some .int) "SaltFigures$Thinker")  (μ : Mu) : J X G 4 2 y (emy y) rvI tpT 0 [(0, .ref (G.1 + a))] [] (μ, y) (Th_shadowWays a tt  μ) := by
  unfold Th_shadowWays
  refine J_aload_n (k0 := 0) (pc := 0) 0 hX (by decide +kernel) rfl rfl ?_
  refine J_gr (pc := 1) hX (by decide +kernel) fl_Th_18 hL.1 rfl hL.2.1.1 ?_
  refine J_gr (pc := 4) hX (by decide +kernel) fl_Th_88 hL.2.1.2.1 rfl hL.2.1.2.2.2.2.2.2.1.1 ?_
  refine J_gF (pc := 7) hX (by decide +kernel) fl_Th_28 hL.2.1.2.2.2.2.2.2.1.2.1 rfl (fun x1 => ?_)
  refine J_istore_n (k0 := 1) (pc := 10) [(1, .int x1), (0, .ref (G.1 + a))] hX (by decide +kernel) rfl (by decide) rfl ?_
  refine J_aload_n (k0 := 0) (pc := 11) 1 hX (by decide +kernel) rfl rfl ?_
  refine J_gr (pc := 12) hX (by decide +kernel) fl_Th_11 hL.1 rfl hL.2.2.1.1 ?_
  refine J_iconst (pc := 15) (n := 0) (v := 0) hX (by decide +kernel) (by decide +kernel) ?_
  refine J_cSv (pc := 16) (idx := 79) [.ref (G.1 + (a + 1)), .int 0] hX (by decide +kernel) (mq mt_5 32 (by decide +kernel)) mv_Ja_fill rfl rfl (Nat.le_of_ble_eq_true rfl) (Nat.le_of_ble_eq_true rfl) (c_Ja_fill hL.2.2.1.2 0 μ) (fun μ2 => ?_)
  refine J_aload_n (k0 := 0) (pc := 19) 1 hX (by decide +kernel) rfl rfl ?_
  refine J_gr (pc := 20) hX (by decide +kernel) fl_Th_11 hL.1 rfl hL.2.2.1.1 ?_
  refine J_iconst (pc := 23) (n := 0) (v := 0) hX (by decide +kernel) (by decide +kernel) ?_
  refine J_iconst (pc := 24) (n := 1) (v := 1) hX (by decide +kernel) (by decide +kernel) ?_
  refine J_stA (pc := 25) hX (by decide +kernel) hL.2.2.1.2 (fun μ3 => ?_)
  refine J_iconst (pc := 26) (n := 0) (v := 0) hX (by decide +kernel) (by decide +kernel) ?_
  refine J_istore_n (k0 := 2) (pc := 27) [(2, .int 0), (1, .int x1), (0, .ref (G.1 + a))] hX (by decide +kernel) rfl (by decide) rfl ?_
  exact J_sub [2, 1, 0] _ rfl (jTh_shadowWays_28 hL hX x1 FU 0 μ3)
set_option maxRecDepth 100000 in
set_option maxHeartbeats 4000000 in
theorem c_Th_shadowWays {l : Launch} {G : Gx} {y : Ly} {a tt : Nat} (hL : LyTh y a tt)  (μ : Mu) : Cn l G ⟨"SaltFigures$Thinker", "shadowWays", "()I"⟩ prog_10_method_14_code 4 (some .int) 2 [.ref (G.1 + a)] (μ, y) (emy y) rvI tpT (Th_shadowWays a tt  μ) := cn_of (by decide +kernel) (Nat.le_of_ble_eq_true rfl) (fun _ _ _ => ⟨List.prefix_refl _, trivial⟩) (fun X hX _ => jTh_shadowWays hL hX  μ)

def Sf_shadow (a : Nat) (v1 : Int32) (μ : Mu) : Option (Int32 × Mu) := cl (Sf_within v1 0 1 μ) (fun x2 μ1 => (if x2 = 0 then some ((-1), μ1) else cl (Th_shadowWays (a + 45) (a + 1 + 17) μ1) (fun x4 μ3 => (if v1 = 0 then some (jmin x4 1, μ3) else some (x4, μ3)))))
set_option maxRecDepth 100000 in
set_option maxHeartbeats 4000000 in
theorem jSf_shadow {X : Cx} {l : Launch} {G : Gx} {y : Ly} {a : Nat} (hL : LySf y a ) (hX : Ok X l G prog_1_method_29_code 3 (some .int) "SaltFigures") (v1 : Int32) (μ : Mu) : J X G 3 3 y (emy y) rvI tpT 0 [(0, .ref (G.1 + a)), (1, .int v1)] [] (μ, y) (Sf_shadow a v1 μ) := by
  unfold Sf_shadow
  refine J_iload_n (k0 := 1) (pc := 0) 1 hX (by decide +kernel) rfl rfl ?_
  refine J_iconst (pc := 1) (n := 0) (v := 0) hX (by decide +kernel) (by decide +kernel) ?_
  refine J_iconst (pc := 2) (n := 1) (v := 1) hX (by decide +kernel) (by decide +kernel) ?_
  refine J_cSi (pc := 3) (idx := 68) [.int v1, .int 0, .int 1] hX (by decide +kernel) (mq mt_2 148 (by decide +kernel)) mv_Sf_within rfl rfl (Nat.le_of_ble_eq_true rfl) (Nat.le_of_ble_eq_true rfl) (c_Sf_within v1 0 1 μ) (fun x2 μ1 => ?_)
  refine J_if_ne (pc := 6) (off := 5) (tgt := 11) hX (by decide +kernel) (by decide +kernel) (fun _ => ?_) (fun _ => ?_)
  · refine J_aload_n (k0 := 0) (pc := 11) 0 hX (by decide +kernel) rfl rfl ?_
    refine J_gr (pc := 12) hX (by decide +kernel) fl_Sf_43 hL.1 rfl hL.2.2.2.2.1.1 ?_
    refine J_cVi (pc := 15) (idx := 295) [] hX (by decide +kernel) (mq mt_5 72 (by decide +kernel)) mv_Th_shadowWays hL.2.2.2.2.1.2.1 rfl rfl (Nat.le_of_ble_eq_true rfl) (Nat.le_of_ble_eq_true rfl) (c_Th_shadowWays hL.2.2.2.2.1.2 μ1) (fun x4 μ3 => ?_)
    refine J_istore_n (k0 := 2) (pc := 18) [(2, .int x4), (0, .ref (G.1 + a)), (1, .int v1)] hX (by decide +kernel) rfl (by decide) rfl ?_
    refine J_iload_n (k0 := 1) (pc := 19) 2 hX (by decide +kernel) rfl rfl ?_
    refine J_if_ne (pc := 20) (off := 11) (tgt := 31) hX (by decide +kernel) (by decide +kernel) (fun _ => ?_) (fun _ => ?_)
    · refine J_iload_n (k0 := 2) (pc := 31) 0 hX (by decide +kernel) rfl rfl ?_
      exact J_iret (pc := 32) hX (by decide +kernel) rfl trivial
    · refine J_iload_n (k0 := 2) (pc := 23) 0 hX (by decide +kernel) rfl rfl ?_
      refine J_iconst (pc := 24) (n := 1) (v := 1) hX (by decide +kernel) (by decide +kernel) ?_
      refine J_mmin (pc := 25) (idx := 209) hX (by decide +kernel) (mq mt_2 200 (by decide +kernel)) (Nat.le_of_ble_eq_true rfl) (Nat.le_of_ble_eq_true rfl) ?_
      refine J_goto (pc := 28) (off := 4) (tgt := 32) hX (by decide +kernel) (by decide +kernel) ?_
      exact J_iret (pc := 32) hX (by decide +kernel) rfl trivial
  · refine J_iconst (pc := 9) (n := -1) (v := (-1)) hX (by decide +kernel) (by decide +kernel) ?_
    exact J_iret (pc := 10) hX (by decide +kernel) rfl trivial
set_option maxRecDepth 100000 in
set_option maxHeartbeats 4000000 in
theorem c_Sf_shadow {l : Launch} {G : Gx} {y : Ly} {a : Nat} (hL : LySf y a ) (v1 : Int32) (μ : Mu) : Cn l G ⟨"SaltFigures", "shadow", "(I)I"⟩ prog_1_method_29_code 3 (some .int) 3 [.ref (G.1 + a), .int v1] (μ, y) (emy y) rvI tpT (Sf_shadow a v1 μ) := cn_of (by decide +kernel) (Nat.le_of_ble_eq_true rfl) (fun _ _ _ => ⟨List.prefix_refl _, trivial⟩) (fun X hX _ => jSf_shadow hL hX v1 μ)

def Jn_signum  (v0 : Int32) (μ : Mu) : Option (Int32 × Mu) := some ((jshr v0 31) ||| (jushr (-v0) 31), μ)
set_option maxRecDepth 100000 in
set_option maxHeartbeats 4000000 in
theorem jJn_signum {X : Cx} {l : Launch} {G : Gx} {y : Ly}   (hX : Ok X l G prog_15_method_56_code 1 (some .int) "java/lang/Integer") (v0 : Int32) (μ : Mu) : J X G 1 1 y (emy y) rvI tpT 0 [(0, .int v0)] [] (μ, y) (Jn_signum  v0 μ) := by
  unfold Jn_signum
  refine J_iload_n (k0 := 0) (pc := 0) 0 hX (by decide +kernel) rfl rfl ?_
  refine J_bipush (pc := 1) (n := 31) (v := 31) hX (by decide +kernel) (by decide +kernel) ?_
  refine J_ishr (pc := 3) hX (by decide +kernel) ?_
  refine J_iload_n (k0 := 0) (pc := 4) 0 hX (by decide +kernel) rfl rfl ?_
  refine J_ineg (pc := 5) hX (by decide +kernel) ?_
  refine J_bipush (pc := 6) (n := 31) (v := 31) hX (by decide +kernel) (by decide +kernel) ?_
  refine J_iushr (pc := 8) hX (by decide +kernel) ?_
  refine J_ior (pc := 9) hX (by decide +kernel) ?_
  exact J_iret (pc := 10) hX (by decide +kernel) rfl trivial
set_option maxRecDepth 100000 in
set_option maxHeartbeats 4000000 in
theorem c_Jn_signum {l : Launch} {G : Gx} {y : Ly}   (v0 : Int32) (μ : Mu) : Cn l G ⟨"java/lang/Integer", "signum", "(I)I"⟩ prog_15_method_56_code 1 (some .int) 1 [.int v0] (μ, y) (emy y) rvI tpT (Jn_signum  v0 μ) := cn_of (by decide +kernel) (Nat.le_of_ble_eq_true rfl) (fun _ _ _ => ⟨List.prefix_refl _, trivial⟩) (fun X hX _ => jJn_signum  hX v0 μ)

def Sf_side (a : Nat) (v1 : Int32) (v2 : Int32) (v3 : Int32) (μ : Mu) : Option (Int32 × Mu) := cl (Rw_has (a + 1 + 17 + 1) 8 v1 μ) (fun x2 μ1 => (if x2 = 0 then some ((-2), μ1) else cl (Rw_has (a + 1 + 17 + 1) 8 v2 μ1) (fun x4 μ3 => (if x4 = 0 then some ((-2), μ3) else cl (Rw_has (a + 1 + 17 + 1) 8 v3 μ3) (fun x6 μ5 => (if x6 = 0 then some ((-2), μ5) else (if v1 = v2 then some ((-2), μ5) else cl (Th_turn (a + 45) (a + 1 + 17) v1 v2 v3 μ5) (fun x8 μ7 => cl (Jn_signum x8 μ7) (fun x10 μ9 => some (x10, μ9))))))))))
set_option maxRecDepth 100000 in
set_option maxHeartbeats 4000000 in
theorem jSf_side {X : Cx} {l : Launch} {G : Gx} {y : Ly} {a : Nat} (hL : LySf y a ) (hX : Ok X l G prog_1_method_21_code 5 (some .int) "SaltFigures") (v1 : Int32) (v2 : Int32) (v3 : Int32) (μ : Mu) : J X G 5 3 y (emy y) rvI tpT 0 [(0, .ref (G.1 + a)), (1, .int v1), (2, .int v2), (3, .int v3)] [] (μ, y) (Sf_side a v1 v2 v3 μ) := by
  unfold Sf_side
  refine J_aload_n (k0 := 0) (pc := 0) 0 hX (by decide +kernel) rfl rfl ?_
  refine J_gr (pc := 1) hX (by decide +kernel) fl_Sf_12 hL.1 rfl hL.2.1.1 ?_
  refine J_gr (pc := 4) hX (by decide +kernel) fl_Sf_36 hL.2.1.2.1 rfl hL.2.1.2.2.2.2.2.1.1 ?_
  refine J_gr (pc := 7) hX (by decide +kernel) fl_Sf_235 hL.2.1.2.2.2.2.2.1.2.1 rfl hL.2.1.2.2.2.2.2.1.2.2.1.1 ?_
  refine J_astore (pc := 10) [(4, .ref (G.1 + (a + 1 + 17 + 1))), (0, .ref (G.1 + a)), (1, .int v1), (2, .int v2), (3, .int v3)] hX (by decide +kernel) (by decide) rfl ?_
  refine J_aload (pc := 12) 0 hX (by decide +kernel) rfl ?_
  refine J_iload_n (k0 := 1) (pc := 14) 2 hX (by decide +kernel) rfl rfl ?_
  refine J_cVi (pc := 15) (idx := 251) [.int v1] hX (by decide +kernel) (mq mt_4 210 (by decide +kernel)) mv_Rw_has hL.2.1.2.2.2.2.2.1.2.2.1.2.1 rfl rfl (Nat.le_of_ble_eq_true rfl) (Nat.le_of_ble_eq_true rfl) (c_Rw_has hL.2.1.2.2.2.2.2.1.2.2.1.2 v1 μ) (fun x2 μ1 => ?_)
  refine J_if_eq (pc := 18) (off := 26) (tgt := 44) hX (by decide +kernel) (by decide +kernel) (fun _ => ?_) (fun _ => ?_)
  · refine J_bipush (pc := 44) (n := -2) (v := (-2)) hX (by decide +kernel) (by decide +kernel) ?_
    exact J_iret (pc := 46) hX (by decide +kernel) rfl trivial
  · refine J_aload (pc := 21) 0 hX (by decide +kernel) rfl ?_
    refine J_iload_n (k0 := 2) (pc := 23) 3 hX (by decide +kernel) rfl rfl ?_
    refine J_cVi (pc := 24) (idx := 251) [.int v2] hX (by decide +kernel) (mq mt_4 210 (by decide +kernel)) mv_Rw_has hL.2.1.2.2.2.2.2.1.2.2.1.2.1 rfl rfl (Nat.le_of_ble_eq_true rfl) (Nat.le_of_ble_eq_true rfl) (c_Rw_has hL.2.1.2.2.2.2.2.1.2.2.1.2 v2 μ1) (fun x4 μ3 => ?_)
    refine J_if_eq (pc := 27) (off := 17) (tgt := 44) hX (by decide +kernel) (by decide +kernel) (fun _ => ?_) (fun _ => ?_)
    · refine J_bipush (pc := 44) (n := -2) (v := (-2)) hX (by decide +kernel) (by decide +kernel) ?_
      exact J_iret (pc := 46) hX (by decide +kernel) rfl trivial
    · refine J_aload (pc := 30) 0 hX (by decide +kernel) rfl ?_
      refine J_iload_n (k0 := 3) (pc := 32) 4 hX (by decide +kernel) rfl rfl ?_
      refine J_cVi (pc := 33) (idx := 251) [.int v3] hX (by decide +kernel) (mq mt_4 210 (by decide +kernel)) mv_Rw_has hL.2.1.2.2.2.2.2.1.2.2.1.2.1 rfl rfl (Nat.le_of_ble_eq_true rfl) (Nat.le_of_ble_eq_true rfl) (c_Rw_has hL.2.1.2.2.2.2.2.1.2.2.1.2 v3 μ3) (fun x6 μ5 => ?_)
      refine J_if_eq (pc := 36) (off := 8) (tgt := 44) hX (by decide +kernel) (by decide +kernel) (fun _ => ?_) (fun _ => ?_)
      · refine J_bipush (pc := 44) (n := -2) (v := (-2)) hX (by decide +kernel) (by decide +kernel) ?_
        exact J_iret (pc := 46) hX (by decide +kernel) rfl trivial
      · refine J_iload_n (k0 := 1) (pc := 39) 2 hX (by decide +kernel) rfl rfl ?_
        refine J_iload_n (k0 := 2) (pc := 40) 3 hX (by decide +kernel) rfl rfl ?_
        refine J_icmp_ne (pc := 41) (off := 6) (tgt := 47) hX (by decide +kernel) (by decide +kernel) (fun _ => ?_) (fun _ => ?_)
        · refine J_aload_n (k0 := 0) (pc := 47) 1 hX (by decide +kernel) rfl rfl ?_
          refine J_gr (pc := 48) hX (by decide +kernel) fl_Sf_43 hL.1 rfl hL.2.2.2.2.1.1 ?_
          refine J_iload_n (k0 := 1) (pc := 51) 2 hX (by decide +kernel) rfl rfl ?_
          refine J_iload_n (k0 := 2) (pc := 52) 3 hX (by decide +kernel) rfl rfl ?_
          refine J_iload_n (k0 := 3) (pc := 53) 4 hX (by decide +kernel) rfl rfl ?_
          refine J_cVi (pc := 54) (idx := 254) [.int v1, .int v2, .int v3] hX (by decide +kernel) (mq mt_4 214 (by decide +kernel)) mv_Th_turn hL.2.2.2.2.1.2.1 rfl rfl (Nat.le_of_ble_eq_true rfl) (Nat.le_of_ble_eq_true rfl) (c_Th_turn hL.2.2.2.2.1.2 v1 v2 v3 μ5) (fun x8 μ7 => ?_)
          refine J_cSi (pc := 57) (idx := 257) [.int x8] hX (by decide +kernel) (mq mt_4 218 (by decide +kernel)) mv_Jn_signum rfl rfl (Nat.le_of_ble_eq_true rfl) (Nat.le_of_ble_eq_true rfl) (c_Jn_signum x8 μ7) (fun x10 μ9 => ?_)
          exact J_iret (pc := 60) hX (by decide +kernel) rfl trivial
        · refine J_bipush (pc := 44) (n := -2) (v := (-2)) hX (by decide +kernel) (by decide +kernel) ?_
          exact J_iret (pc := 46) hX (by decide +kernel) rfl trivial
set_option maxRecDepth 100000 in
set_option maxHeartbeats 4000000 in
theorem c_Sf_side {l : Launch} {G : Gx} {y : Ly} {a : Nat} (hL : LySf y a ) (v1 : Int32) (v2 : Int32) (v3 : Int32) (μ : Mu) : Cn l G ⟨"SaltFigures", "side", "(III)I"⟩ prog_1_method_21_code 5 (some .int) 3 [.ref (G.1 + a), .int v1, .int v2, .int v3] (μ, y) (emy y) rvI tpT (Sf_side a v1 v2 v3 μ) := cn_of (by decide +kernel) (Nat.le_of_ble_eq_true rfl) (fun _ _ _ => ⟨List.prefix_refl _, trivial⟩) (fun X hX _ => jSf_side hL hX v1 v2 v3 μ)

def Jm_floorModL_25    (v4 : Int64)  (μ : Mu) : Option (Int64 × Mu) := some (v4, μ)
def Jm_floorModL  (v0 : Int64) (v2 : Int64) (μ : Mu) : Option (Int64 × Mu) := nzL v2 ((if 0 ≤ (lg_cmp (v0 ^^^ v2) 0) then Jm_floorModL_25 (v0 - v0 / v2 * v2) μ else (if (lg_cmp (v0 - v0 / v2 * v2) 0) = 0 then Jm_floorModL_25 (v0 - v0 / v2 * v2) μ else some ((v0 - v0 / v2 * v2) + v2, μ))))
set_option maxRecDepth 100000 in
set_option maxHeartbeats 4000000 in
theorem jJm_floorModL_25 {X : Cx} {l : Launch} {G : Gx} {y : Ly}   (hX : Ok X l G prog_16_method_52_code 6 (some .long) "java/lang/Math")  (v4 : Int64)    (μ : Mu) : J X G 6 1 y (emy y) rvL tpT 25 [(4, .long v4)] [] (μ, y) (Jm_floorModL_25    v4  μ) := by
  unfold Jm_floorModL_25
  refine J_lload (pc := 25) 0 hX (by decide +kernel) rfl ?_
  exact J_lret (pc := 27) hX (by decide +kernel) rfl trivial
set_option maxRecDepth 100000 in
set_option maxHeartbeats 4000000 in
theorem jJm_floorModL {X : Cx} {l : Launch} {G : Gx} {y : Ly}   (hX : Ok X l G prog_16_method_52_code 6 (some .long) "java/lang/Math") (v0 : Int64) (v2 : Int64) (μ : Mu) : J X G 6 1 y (emy y) rvL tpT 0 [(0, .long v0), (2, .long v2)] [] (μ, y) (Jm_floorModL  v0 v2 μ) := by
  unfold Jm_floorModL
  refine J_lload_n (k0 := 0) (pc := 0) 0 hX (by decide +kernel) rfl rfl ?_
  refine J_lload_n (k0 := 2) (pc := 1) 1 hX (by decide +kernel) rfl rfl ?_
  refine J_lremN (pc := 2) hX (by decide +kernel) (fun _ => ?_)
  refine J_lstore (pc := 3) [(4, .long (v0 - v0 / v2 * v2)), (0, .long v0), (2, .long v2)] hX (by decide +kernel) (by decide) rfl ?_
  refine J_lload_n (k0 := 0) (pc := 5) 1 hX (by decide +kernel) rfl rfl ?_
  refine J_lload_n (k0 := 2) (pc := 6) 2 hX (by decide +kernel) rfl rfl ?_
  refine J_lxor (pc := 7) hX (by decide +kernel) ?_
  refine J_lconst (pc := 8) (n := 0) (v := 0) hX (by decide +kernel) (by decide +kernel) ?_
  refine J_lcmp (pc := 9) hX (by decide +kernel) ?_
  refine J_if_ge (pc := 10) (off := 15) (tgt := 25) hX (by decide +kernel) (by decide +kernel) (fun _ => ?_) (fun _ => ?_)
  · exact J_sub [0] _ rfl (jJm_floorModL_25 hX (v0 - v0 / v2 * v2) μ)
  · refine J_lload (pc := 13) 0 hX (by decide +kernel) rfl ?_
    refine J_lconst (pc := 15) (n := 0) (v := 0) hX (by decide +kernel) (by decide +kernel) ?_
    refine J_lcmp (pc := 16) hX (by decide +kernel) ?_
    refine J_if_eq (pc := 17) (off := 8) (tgt := 25) hX (by decide +kernel) (by decide +kernel) (fun _ => ?_) (fun _ => ?_)
    · exact J_sub [0] _ rfl (jJm_floorModL_25 hX (v0 - v0 / v2 * v2) μ)
    · refine J_lload (pc := 20) 0 hX (by decide +kernel) rfl ?_
      refine J_lload_n (k0 := 2) (pc := 22) 2 hX (by decide +kernel) rfl rfl ?_
      refine J_ladd (pc := 23) hX (by decide +kernel) ?_
      exact J_lret (pc := 24) hX (by decide +kernel) rfl trivial
set_option maxRecDepth 100000 in
set_option maxHeartbeats 4000000 in
theorem c_Jm_floorModL {l : Launch} {G : Gx} {y : Ly}   (v0 : Int64) (v2 : Int64) (μ : Mu) : Cn l G ⟨"java/lang/Math", "floorMod", "(JJ)J"⟩ prog_16_method_52_code 6 (some .long) 1 [.long v0, .long v2] (μ, y) (emy y) rvL tpT (Jm_floorModL  v0 v2 μ) := cn_ofF (by decide +kernel) (Nat.le_of_ble_eq_true rfl) (fun _ _ _ => ⟨List.prefix_refl _, trivial⟩) (fun X hX _ => jJm_floorModL  hX v0 v2 μ)

def Sm_floors_15b   (kb15 : Int64 → Int64 → Int32 → Mu → Option (Int32 × Mu)) (v0 : Int32) (v1 : Int64) (v3 : Int64) (v5 : Int32)  (μ : Mu) : Option (Int32 × Mu) := (if v0 < v5 then some (Int64.toInt32 v1, μ) else cl (Jm_floorModL ((4 * v1) - v3) 1000000007 μ) (fun x2 μ1 => kb15 x2 v1 (v5 + 2) μ1))
def Sm_floors_15   (v0 : Int32) (fu : Nat) : Int64 → Int64 → Int32 → Mu → Option (Int32 × Mu) := lp (fun kb => Sm_floors_15b   kb v0) (fun _ _ _ _ => none) fu
def Sm_floors  (v0 : Int32) (μ : Mu) : Option (Int32 × Mu) := (if (jrem v0 2) = 0 then Sm_floors_15 v0 FU 1 1 2 μ else some (0, μ))
set_option maxRecDepth 100000 in
set_option maxHeartbeats 4000000 in
theorem jSm_floors_15b {X : Cx} {l : Launch} {G : Gx} {y : Ly}   (hX : Ok X l G prog_8_method_11_code 8 (some .int) "SaltFigures$Sums") (v0 : Int32)  {kb15 : Int64 → Int64 → Int32 → Mu → Option (Int32 × Mu)}  (hk15 : ∀ (v1 : Int64) (v3 : Int64) (v5 : Int32) (μ : Mu), J X G 8 2 y (emy y) rvI tpT 15 [(0, .int v0), (1, .long v1), (3, .long v3), (5, .int v5)] [] (μ, y) (kb15 v1 v3 v5 μ)) (v1 : Int64) (v3 : Int64) (v5 : Int32)  (μ : Mu) : J X G 8 2 y (emy y) rvI tpT 15 [(0, .int v0), (1, .long v1), (3, .long v3), (5, .int v5)] [] (μ, y) (Sm_floors_15b   kb15 v0 v1 v3 v5  μ) := by
  unfold Sm_floors_15b
  refine J_iload (pc := 15) 3 hX (by decide +kernel) rfl ?_
  refine J_iload_n (k0 := 0) (pc := 17) 0 hX (by decide +kernel) rfl rfl ?_
  refine J_icmp_gt (pc := 18) (off := 29) (tgt := 47) hX (by decide +kernel) (by decide +kernel) (fun _ => ?_) (fun _ => ?_)
  · refine J_lload_n (k0 := 1) (pc := 47) 1 hX (by decide +kernel) rfl rfl ?_
    refine J_l2i (pc := 48) hX (by decide +kernel) ?_
    exact J_iret (pc := 49) hX (by decide +kernel) rfl trivial
  · refine J_ldc2 (pc := 21) (idx := 39) (v := 4) hX (by decide +kernel) (mq mt_5 59 (by decide +kernel)) ?_
    refine J_lload_n (k0 := 1) (pc := 24) 1 hX (by decide +kernel) rfl rfl ?_
    refine J_lmul (pc := 25) hX (by decide +kernel) ?_
    refine J_lload_n (k0 := 3) (pc := 26) 2 hX (by decide +kernel) rfl rfl ?_
    refine J_lsub (pc := 27) hX (by decide +kernel) ?_
    refine J_ldc2 (pc := 28) (idx := 41) (v := 1000000007) hX (by decide +kernel) (mq mt_5 60 (by decide +kernel)) ?_
    refine J_cSl (pc := 31) (idx := 43) [.long ((4 * v1) - v3), .long 1000000007] hX (by decide +kernel) (mq mt_5 61 (by decide +kernel)) mv_Jm_floorModL rfl rfl (Nat.le_of_ble_eq_true rfl) (Nat.le_of_ble_eq_true rfl) (c_Jm_floorModL ((4 * v1) - v3) 1000000007 μ) (fun x2 μ1 => ?_)
    refine J_lstore (pc := 34) [(6, .long x2), (0, .int v0), (1, .long v1), (3, .long v3), (5, .int v5)] hX (by decide +kernel) (by decide) rfl ?_
    refine J_lload_n (k0 := 1) (pc := 36) 2 hX (by decide +kernel) rfl rfl ?_
    refine J_lstore_n (k0 := 3) (pc := 37) [(3, .long v1), (6, .long x2), (0, .int v0), (1, .long v1), (5, .int v5)] hX (by decide +kernel) rfl (by decide) rfl ?_
    refine J_lload (pc := 38) 1 hX (by decide +kernel) rfl ?_
    refine J_lstore_n (k0 := 1) (pc := 40) [(1, .long x2), (3, .long v1), (6, .long x2), (0, .int v0), (5, .int v5)] hX (by decide +kernel) rfl (by decide) rfl ?_
    refine J_iinc (pc := 41) (n := 2) 4 [(5, .int (v5 + 2)), (1, .long x2), (3, .long v1), (6, .long x2), (0, .int v0)] hX (by decide +kernel) rfl rfl (by decide) rfl ?_
    refine J_goto (pc := 44) (off := -29) (tgt := 15) hX (by decide +kernel) (by decide +kernel) ?_
    exact J_sub [4, 1, 2, 0] _ rfl (hk15 x2 v1 (v5 + 2) μ1)
set_option maxRecDepth 100000 in
set_option maxHeartbeats 4000000 in
theorem jSm_floors_15 {X : Cx} {l : Launch} {G : Gx} {y : Ly}   (hX : Ok X l G prog_8_method_11_code 8 (some .int) "SaltFigures$Sums") (v0 : Int32)   : ∀ (fu : Nat) (v1 : Int64) (v3 : Int64) (v5 : Int32) (μ : Mu), J X G 8 2 y (emy y) rvI tpT 15 [(0, .int v0), (1, .long v1), (3, .long v3), (5, .int v5)] [] (μ, y) (Sm_floors_15   v0 fu v1 v3 v5 μ) := by
  intro fu
  induction fu with
  | zero => intros; exact J_none
  | succ fu ih => intro v1 v3 v5 μ; exact jSm_floors_15b  hX v0  ih v1 v3 v5 μ
set_option maxRecDepth 100000 in
set_option maxHeartbeats 4000000 in
theorem jSm_floors {X : Cx} {l : Launch} {G : Gx} {y : Ly}   (hX : Ok X l G prog_8_method_11_code 8 (some .int) "SaltFigures$Sums") (v0 : Int32) (μ : Mu) : J X G 8 2 y (emy y) rvI tpT 0 [(0, .int v0)] [] (μ, y) (Sm_floors  v0 μ) := by
  unfold Sm_floors
  refine J_iload_n (k0 := 0) (pc := 0) 0 hX (by decide +kernel) rfl rfl ?_
  refine J_iconst (pc := 1) (n := 2) (v := 2) hX (by decide +kernel) (by decide +kernel) ?_
  refine J_iremK (pc := 2) hX (by decide +kernel) (by decide +kernel) ?_
  refine J_if_eq (pc := 3) (off := 5) (tgt := 8) hX (by decide +kernel) (by decide +kernel) (fun _ => ?_) (fun _ => ?_)
  · refine J_lconst (pc := 8) (n := 1) (v := 1) hX (by decide +kernel) (by decide +kernel) ?_
    refine J_lstore_n (k0 := 1) (pc := 9) [(1, .long 1), (0, .int v0)] hX (by decide +kernel) rfl (by decide) rfl ?_
    refine J_lconst (pc := 10) (n := 1) (v := 1) hX (by decide +kernel) (by decide +kernel) ?_
    refine J_lstore_n (k0 := 3) (pc := 11) [(3, .long 1), (1, .long 1), (0, .int v0)] hX (by decide +kernel) rfl (by decide) rfl ?_
    refine J_iconst (pc := 12) (n := 2) (v := 2) hX (by decide +kernel) (by decide +kernel) ?_
    refine J_istore (pc := 13) [(5, .int 2), (3, .long 1), (1, .long 1), (0, .int v0)] hX (by decide +kernel) (by decide) rfl ?_
    exact J_sub [3, 2, 1, 0] _ rfl (jSm_floors_15 hX v0 FU 1 1 2 μ)
  · refine J_iconst (pc := 6) (n := 0) (v := 0) hX (by decide +kernel) (by decide +kernel) ?_
    exact J_iret (pc := 7) hX (by decide +kernel) rfl trivial
set_option maxRecDepth 100000 in
set_option maxHeartbeats 4000000 in
theorem c_Sm_floors {l : Launch} {G : Gx} {y : Ly}   (v0 : Int32) (μ : Mu) : Cn l G ⟨"SaltFigures$Sums", "floors", "(I)I"⟩ prog_8_method_11_code 8 (some .int) 2 [.int v0] (μ, y) (emy y) rvI tpT (Sm_floors  v0 μ) := cn_of (by decide +kernel) (Nat.le_of_ble_eq_true rfl) (fun _ _ _ => ⟨List.prefix_refl _, trivial⟩) (fun X hX _ => jSm_floors  hX v0 μ)

def Sf_slabs (a : Nat) (v1 : Int32) (μ : Mu) : Option (Int32 × Mu) := cl (Sf_within v1 0 40 μ) (fun x2 μ1 => (if x2 = 0 then some ((-1), μ1) else cl (Sm_floors v1 μ1) (fun x4 μ3 => some (x4, μ3))))
set_option maxRecDepth 100000 in
set_option maxHeartbeats 4000000 in
theorem jSf_slabs {X : Cx} {l : Launch} {G : Gx} {y : Ly} {a : Nat} (hL : LySf y a ) (hX : Ok X l G prog_1_method_27_code 2 (some .int) "SaltFigures") (v1 : Int32) (μ : Mu) : J X G 2 3 y (emy y) rvI tpT 0 [(0, .ref (G.1 + a)), (1, .int v1)] [] (μ, y) (Sf_slabs a v1 μ) := by
  unfold Sf_slabs
  refine J_iload_n (k0 := 1) (pc := 0) 1 hX (by decide +kernel) rfl rfl ?_
  refine J_iconst (pc := 1) (n := 0) (v := 0) hX (by decide +kernel) (by decide +kernel) ?_
  refine J_bipush (pc := 2) (n := 40) (v := 40) hX (by decide +kernel) (by decide +kernel) ?_
  refine J_cSi (pc := 4) (idx := 68) [.int v1, .int 0, .int 40] hX (by decide +kernel) (mq mt_2 148 (by decide +kernel)) mv_Sf_within rfl rfl (Nat.le_of_ble_eq_true rfl) (Nat.le_of_ble_eq_true rfl) (c_Sf_within v1 0 40 μ) (fun x2 μ1 => ?_)
  refine J_if_eq (pc := 7) (off := 10) (tgt := 17) hX (by decide +kernel) (by decide +kernel) (fun _ => ?_) (fun _ => ?_)
  · refine J_iconst (pc := 17) (n := -1) (v := (-1)) hX (by decide +kernel) (by decide +kernel) ?_
    exact J_iret (pc := 18) hX (by decide +kernel) rfl trivial
  · refine J_iload_n (k0 := 1) (pc := 10) 1 hX (by decide +kernel) rfl rfl ?_
    refine J_cSi (pc := 11) (idx := 286) [.int v1] hX (by decide +kernel) (mq mt_5 56 (by decide +kernel)) mv_Sm_floors rfl rfl (Nat.le_of_ble_eq_true rfl) (Nat.le_of_ble_eq_true rfl) (c_Sm_floors v1 μ1) (fun x4 μ3 => ?_)
    refine J_goto (pc := 14) (off := 4) (tgt := 18) hX (by decide +kernel) (by decide +kernel) ?_
    exact J_iret (pc := 18) hX (by decide +kernel) rfl trivial
set_option maxRecDepth 100000 in
set_option maxHeartbeats 4000000 in
theorem c_Sf_slabs {l : Launch} {G : Gx} {y : Ly} {a : Nat} (hL : LySf y a ) (v1 : Int32) (μ : Mu) : Cn l G ⟨"SaltFigures", "slabs", "(I)I"⟩ prog_1_method_27_code 2 (some .int) 3 [.ref (G.1 + a), .int v1] (μ, y) (emy y) rvI tpT (Sf_slabs a v1 μ) := cn_of (by decide +kernel) (Nat.le_of_ble_eq_true rfl) (fun _ _ _ => ⟨List.prefix_refl _, trivial⟩) (fun X hX _ => jSf_slabs hL hX v1 μ)

def Rw_holds_2b (a n : Nat)  (kb2 : Int32 → Mu → Option (Int32 × Mu)) (v1 : Int32) (v2 : Int32)  (μ : Mu) : Option (Int32 × Mu) := gF μ a 3 (fun x1 => (if x1 ≤ v2 then some (0, μ) else cl (Rw_at a n v2 μ) (fun x3 μ2 => (if x3 = v1 then some (1, μ2) else kb2 (v2 + 1) μ2))))
def Rw_holds_2 (a n : Nat)  (v1 : Int32) (fu : Nat) : Int32 → Mu → Option (Int32 × Mu) := lp (fun kb => Rw_holds_2b a n  kb v1) (fun _ _ => none) fu
def Rw_holds (a n : Nat) (v1 : Int32) (μ : Mu) : Option (Int32 × Mu) := Rw_holds_2 a n v1 FU 0 μ
set_option maxRecDepth 100000 in
set_option maxHeartbeats 4000000 in
theorem jRw_holds_2b {X : Cx} {l : Launch} {G : Gx} {y : Ly} {a n : Nat} (hL : LyRw y a n) (hX : Ok X l G prog_7_method_9_code 3 (some .boolean) "SaltFigures$Row") (v1 : Int32)  {kb2 : Int32 → Mu → Option (Int32 × Mu)}  (hk2 : ∀ (v2 : Int32) (μ : Mu), J X G 3 2 y (emy y) rvI tpT 2 [(0, .ref (G.1 + a)), (1, .int v1), (2, .int v2)] [] (μ, y) (kb2 v2 μ)) (v2 : Int32)  (μ : Mu) : J X G 3 2 y (emy y) rvI tpT 2 [(0, .ref (G.1 + a)), (1, .int v1), (2, .int v2)] [] (μ, y) (Rw_holds_2b a n  kb2 v1 v2  μ) := by
  unfold Rw_holds_2b
  refine J_iload_n (k0 := 2) (pc := 2) 2 hX (by decide +kernel) rfl rfl ?_
  refine J_aload_n (k0 := 0) (pc := 3) 0 hX (by decide +kernel) rfl rfl ?_
  refine J_gF (pc := 4) hX (by decide +kernel) fl_Rw_28 hL.1 rfl (fun x1 => ?_)
  refine J_icmp_ge (pc := 7) (off := 20) (tgt := 27) hX (by decide +kernel) (by decide +kernel) (fun _ => ?_) (fun _ => ?_)
  · refine J_iconst (pc := 27) (n := 0) (v := 0) hX (by decide +kernel) (by decide +kernel) ?_
    exact J_zret (pc := 28) hX (by decide +kernel) rfl (by decide +kernel) trivial
  · refine J_aload_n (k0 := 0) (pc := 10) 0 hX (by decide +kernel) rfl rfl ?_
    refine J_iload_n (k0 := 2) (pc := 11) 2 hX (by decide +kernel) rfl rfl ?_
    refine J_cVi (pc := 12) (idx := 48) [.int v2] hX (by decide +kernel) (mq mt_5 143 (by decide +kernel)) mv_Rw_at hL.1 rfl rfl (Nat.le_of_ble_eq_true rfl) (Nat.le_of_ble_eq_true rfl) (c_Rw_at hL v2 μ) (fun x3 μ2 => ?_)
    refine J_iload_n (k0 := 1) (pc := 15) 1 hX (by decide +kernel) rfl rfl ?_
    refine J_icmp_ne (pc := 16) (off := 5) (tgt := 21) hX (by decide +kernel) (by decide +kernel) (fun _ => ?_) (fun _ => ?_)
    · refine J_iinc (pc := 21) (n := 1) 2 [(2, .int (v2 + 1)), (0, .ref (G.1 + a)), (1, .int v1)] hX (by decide +kernel) rfl rfl (by decide) rfl ?_
      refine J_goto (pc := 24) (off := -22) (tgt := 2) hX (by decide +kernel) (by decide +kernel) ?_
      exact J_sub [1, 2, 0] _ rfl (hk2 (v2 + 1) μ2)
    · refine J_iconst (pc := 19) (n := 1) (v := 1) hX (by decide +kernel) (by decide +kernel) ?_
      exact J_zret (pc := 20) hX (by decide +kernel) rfl (by decide +kernel) trivial
set_option maxRecDepth 100000 in
set_option maxHeartbeats 4000000 in
theorem jRw_holds_2 {X : Cx} {l : Launch} {G : Gx} {y : Ly} {a n : Nat} (hL : LyRw y a n) (hX : Ok X l G prog_7_method_9_code 3 (some .boolean) "SaltFigures$Row") (v1 : Int32)   : ∀ (fu : Nat) (v2 : Int32) (μ : Mu), J X G 3 2 y (emy y) rvI tpT 2 [(0, .ref (G.1 + a)), (1, .int v1), (2, .int v2)] [] (μ, y) (Rw_holds_2 a n  v1 fu v2 μ) := by
  intro fu
  induction fu with
  | zero => intros; exact J_none
  | succ fu ih => intro v2 μ; exact jRw_holds_2b hL hX v1  ih v2 μ
set_option maxRecDepth 100000 in
set_option maxHeartbeats 4000000 in
theorem jRw_holds {X : Cx} {l : Launch} {G : Gx} {y : Ly} {a n : Nat} (hL : LyRw y a n) (hX : Ok X l G prog_7_method_9_code 3 (some .boolean) "SaltFigures$Row") (v1 : Int32) (μ : Mu) : J X G 3 2 y (emy y) rvI tpT 0 [(0, .ref (G.1 + a)), (1, .int v1)] [] (μ, y) (Rw_holds a n v1 μ) := by
  unfold Rw_holds
  refine J_iconst (pc := 0) (n := 0) (v := 0) hX (by decide +kernel) (by decide +kernel) ?_
  refine J_istore_n (k0 := 2) (pc := 1) [(2, .int 0), (0, .ref (G.1 + a)), (1, .int v1)] hX (by decide +kernel) rfl (by decide) rfl ?_
  exact J_sub [1, 2, 0] _ rfl (jRw_holds_2 hL hX v1 FU 0 μ)
set_option maxRecDepth 100000 in
set_option maxHeartbeats 4000000 in
theorem c_Rw_holds {l : Launch} {G : Gx} {y : Ly} {a n : Nat} (hL : LyRw y a n) (v1 : Int32) (μ : Mu) : Cn l G ⟨"SaltFigures$Row", "holds", "(I)Z"⟩ prog_7_method_9_code 3 (some .boolean) 2 [.ref (G.1 + a), .int v1] (μ, y) (emy y) rvI tpT (Rw_holds a n v1 μ) := cn_of (by decide +kernel) (Nat.le_of_ble_eq_true rfl) (fun _ _ _ => ⟨List.prefix_refl _, trivial⟩) (fun X hX _ => jRw_holds hL hX v1 μ)

def Sf_stage (a : Nat) (v1 : Int32) (μ : Mu) : Option (Int32 × Mu) := cl (Rw_holds (a + 1 + 17 + 13) 6 v1 μ) (fun x2 μ1 => (if x2 = 0 then cl (Rw_tell (a + 1 + 17 + 13) 6 v1 μ1) (fun x4 μ3 => some (x4, μ3)) else gF μ1 (a + 1 + 17 + 13) 3 (fun x5 => some (x5, μ1))))
set_option maxRecDepth 100000 in
set_option maxHeartbeats 4000000 in
theorem jSf_stage {X : Cx} {l : Launch} {G : Gx} {y : Ly} {a : Nat} (hL : LySf y a ) (hX : Ok X l G prog_1_method_34_code 3 (some .int) "SaltFigures") (v1 : Int32) (μ : Mu) : J X G 3 3 y (emy y) rvI tpT 0 [(0, .ref (G.1 + a)), (1, .int v1)] [] (μ, y) (Sf_stage a v1 μ) := by
  unfold Sf_stage
  refine J_aload_n (k0 := 0) (pc := 0) 0 hX (by decide +kernel) rfl rfl ?_
  refine J_gr (pc := 1) hX (by decide +kernel) fl_Sf_12 hL.1 rfl hL.2.1.1 ?_
  refine J_gr (pc := 4) hX (by decide +kernel) fl_Sf_36 hL.2.1.2.1 rfl hL.2.1.2.2.2.2.2.1.1 ?_
  refine J_gr (pc := 7) hX (by decide +kernel) fl_Sf_319 hL.2.1.2.2.2.2.2.1.2.1 rfl hL.2.1.2.2.2.2.2.1.2.2.2.2.2.2.2.2.1.1 ?_
  refine J_astore_n (k0 := 2) (pc := 10) [(2, .ref (G.1 + (a + 1 + 17 + 13))), (0, .ref (G.1 + a)), (1, .int v1)] hX (by decide +kernel) rfl (by decide) rfl ?_
  refine J_aload_n (k0 := 2) (pc := 11) 0 hX (by decide +kernel) rfl rfl ?_
  refine J_iload_n (k0 := 1) (pc := 12) 2 hX (by decide +kernel) rfl rfl ?_
  refine J_cVi (pc := 13) (idx := 322) [.int v1] hX (by decide +kernel) (mq mt_5 139 (by decide +kernel)) mv_Rw_holds hL.2.1.2.2.2.2.2.1.2.2.2.2.2.2.2.2.1.2.1 rfl rfl (Nat.le_of_ble_eq_true rfl) (Nat.le_of_ble_eq_true rfl) (c_Rw_holds hL.2.1.2.2.2.2.2.1.2.2.2.2.2.2.2.2.1.2 v1 μ) (fun x2 μ1 => ?_)
  refine J_if_eq (pc := 16) (off := 10) (tgt := 26) hX (by decide +kernel) (by decide +kernel) (fun _ => ?_) (fun _ => ?_)
  · refine J_aload_n (k0 := 2) (pc := 26) 0 hX (by decide +kernel) rfl rfl ?_
    refine J_iload_n (k0 := 1) (pc := 27) 2 hX (by decide +kernel) rfl rfl ?_
    refine J_cVi (pc := 28) (idx := 274) [.int v1] hX (by decide +kernel) (mq mt_5 18 (by decide +kernel)) mv_Rw_tell hL.2.1.2.2.2.2.2.1.2.2.2.2.2.2.2.2.1.2.1 rfl rfl (Nat.le_of_ble_eq_true rfl) (Nat.le_of_ble_eq_true rfl) (c_Rw_tell hL.2.1.2.2.2.2.2.1.2.2.2.2.2.2.2.2.1.2 v1 μ1) (fun x4 μ3 => ?_)
    exact J_iret (pc := 31) hX (by decide +kernel) rfl trivial
  · refine J_aload_n (k0 := 2) (pc := 19) 0 hX (by decide +kernel) rfl rfl ?_
    refine J_gF (pc := 20) hX (by decide +kernel) fl_Sf_325 hL.2.1.2.2.2.2.2.1.2.2.2.2.2.2.2.2.1.2.1 rfl (fun x5 => ?_)
    refine J_goto (pc := 23) (off := 8) (tgt := 31) hX (by decide +kernel) (by decide +kernel) ?_
    exact J_iret (pc := 31) hX (by decide +kernel) rfl trivial
set_option maxRecDepth 100000 in
set_option maxHeartbeats 4000000 in
theorem c_Sf_stage {l : Launch} {G : Gx} {y : Ly} {a : Nat} (hL : LySf y a ) (v1 : Int32) (μ : Mu) : Cn l G ⟨"SaltFigures", "stage", "(I)I"⟩ prog_1_method_34_code 3 (some .int) 3 [.ref (G.1 + a), .int v1] (μ, y) (emy y) rvI tpT (Sf_stage a v1 μ) := cn_of (by decide +kernel) (Nat.le_of_ble_eq_true rfl) (fun _ _ _ => ⟨List.prefix_refl _, trivial⟩) (fun X hX _ => jSf_stage hL hX v1 μ)

def Sf_state (a : Nat) (v1 : Int32) (μ : Mu) : Option (Int32 × Mu) := gF μ (a + 1 + 1) 8 (fun x1 => pF μ (a + 1 + 1) 8 v1 (fun μ2 => cl (Sf_forget a μ2) (fun _ μ3 => some (x1, μ3))))
set_option maxRecDepth 100000 in
set_option maxHeartbeats 4000000 in
theorem jSf_state {X : Cx} {l : Launch} {G : Gx} {y : Ly} {a : Nat} (hL : LySf y a ) (hX : Ok X l G prog_1_method_2_code 3 (some .int) "SaltFigures") (v1 : Int32) (μ : Mu) : J X G 3 2 y (emy y) rvI tpT 0 [(0, .ref (G.1 + a)), (1, .int v1)] [] (μ, y) (Sf_state a v1 μ) := by
  unfold Sf_state
  refine J_aload_n (k0 := 0) (pc := 0) 0 hX (by decide +kernel) rfl rfl ?_
  refine J_gr (pc := 1) hX (by decide +kernel) fl_Sf_12 hL.1 rfl hL.2.1.1 ?_
  refine J_gr (pc := 4) hX (by decide +kernel) fl_Sf_58 hL.2.1.2.1 rfl hL.2.1.2.2.1.1 ?_
  refine J_gF (pc := 7) hX (by decide +kernel) fl_Sf_61 hL.2.1.2.2.1.2.1 rfl (fun x1 => ?_)
  refine J_istore_n (k0 := 2) (pc := 10) [(2, .int x1), (0, .ref (G.1 + a)), (1, .int v1)] hX (by decide +kernel) rfl (by decide) rfl ?_
  refine J_aload_n (k0 := 0) (pc := 11) 1 hX (by decide +kernel) rfl rfl ?_
  refine J_gr (pc := 12) hX (by decide +kernel) fl_Sf_12 hL.1 rfl hL.2.1.1 ?_
  refine J_gr (pc := 15) hX (by decide +kernel) fl_Sf_58 hL.2.1.2.1 rfl hL.2.1.2.2.1.1 ?_
  refine J_iload_n (k0 := 1) (pc := 18) 2 hX (by decide +kernel) rfl rfl ?_
  refine J_pF (pc := 19) hX (by decide +kernel) fl_Sf_61 hL.2.1.2.2.1.2.1 rfl (fun μ2 => ?_)
  refine J_aload_n (k0 := 0) (pc := 22) 1 hX (by decide +kernel) rfl rfl ?_
  refine J_cVv (pc := 23) (idx := 65) [] hX (by decide +kernel) (mq mt_2 140 (by decide +kernel)) mv_Sf_forget hL.1 rfl rfl (Nat.le_of_ble_eq_true rfl) (Nat.le_of_ble_eq_true rfl) (c_Sf_forget hL μ2) (fun μ3 => ?_)
  refine J_iload_n (k0 := 2) (pc := 26) 0 hX (by decide +kernel) rfl rfl ?_
  exact J_iret (pc := 27) hX (by decide +kernel) rfl trivial
set_option maxRecDepth 100000 in
set_option maxHeartbeats 4000000 in
theorem c_Sf_state {l : Launch} {G : Gx} {y : Ly} {a : Nat} (hL : LySf y a ) (v1 : Int32) (μ : Mu) : Cn l G ⟨"SaltFigures", "state", "(I)I"⟩ prog_1_method_2_code 3 (some .int) 2 [.ref (G.1 + a), .int v1] (μ, y) (emy y) rvI tpT (Sf_state a v1 μ) := cn_of (by decide +kernel) (Nat.le_of_ble_eq_true rfl) (fun _ _ _ => ⟨List.prefix_refl _, trivial⟩) (fun X hX _ => jSf_state hL hX v1 μ)

def Sm_numberOfSight_4b   (kb4 : Int32 → Int32 → Mu → Option (Int32 × Mu))  (v1 : Int32) (v2 : Int32)  (μ : Mu) : Option (Int32 × Mu) := (if v2 ≤ 0 then some (v1, μ) else kb4 (v1 ^^^ v2) (jshr v2 1) μ)
def Sm_numberOfSight_4    (fu : Nat) : Int32 → Int32 → Mu → Option (Int32 × Mu) := lp (fun kb => Sm_numberOfSight_4b   kb ) (fun _ _ _ => none) fu
def Sm_numberOfSight  (v0 : Int32) (μ : Mu) : Option (Int32 × Mu) := Sm_numberOfSight_4 FU 0 v0 μ
set_option maxRecDepth 100000 in
set_option maxHeartbeats 4000000 in
theorem jSm_numberOfSight_4b {X : Cx} {l : Launch} {G : Gx} {y : Ly}   (hX : Ok X l G prog_8_method_12_code 3 (some .int) "SaltFigures$Sums")   {kb4 : Int32 → Int32 → Mu → Option (Int32 × Mu)}  (hk4 : ∀ (v1 : Int32) (v2 : Int32) (μ : Mu), J X G 3 1 y (emy y) rvI tpT 4 [(1, .int v1), (2, .int v2)] [] (μ, y) (kb4 v1 v2 μ)) (v1 : Int32) (v2 : Int32)  (μ : Mu) : J X G 3 1 y (emy y) rvI tpT 4 [(1, .int v1), (2, .int v2)] [] (μ, y) (Sm_numberOfSight_4b   kb4  v1 v2  μ) := by
  unfold Sm_numberOfSight_4b
  refine J_iload_n (k0 := 2) (pc := 4) 1 hX (by decide +kernel) rfl rfl ?_
  refine J_if_le (pc := 5) (off := 14) (tgt := 19) hX (by decide +kernel) (by decide +kernel) (fun _ => ?_) (fun _ => ?_)
  · refine J_iload_n (k0 := 1) (pc := 19) 0 hX (by decide +kernel) rfl rfl ?_
    exact J_iret (pc := 20) hX (by decide +kernel) rfl trivial
  · refine J_iload_n (k0 := 1) (pc := 8) 0 hX (by decide +kernel) rfl rfl ?_
    refine J_iload_n (k0 := 2) (pc := 9) 1 hX (by decide +kernel) rfl rfl ?_
    refine J_ixor (pc := 10) hX (by decide +kernel) ?_
    refine J_istore_n (k0 := 1) (pc := 11) [(1, .int (v1 ^^^ v2)), (2, .int v2)] hX (by decide +kernel) rfl (by decide) rfl ?_
    refine J_iload_n (k0 := 2) (pc := 12) 1 hX (by decide +kernel) rfl rfl ?_
    refine J_iconst (pc := 13) (n := 1) (v := 1) hX (by decide +kernel) (by decide +kernel) ?_
    refine J_ishr (pc := 14) hX (by decide +kernel) ?_
    refine J_istore_n (k0 := 2) (pc := 15) [(2, .int (jshr v2 1)), (1, .int (v1 ^^^ v2))] hX (by decide +kernel) rfl (by decide) rfl ?_
    refine J_goto (pc := 16) (off := -12) (tgt := 4) hX (by decide +kernel) (by decide +kernel) ?_
    exact J_sub [1, 0] _ rfl (hk4 (v1 ^^^ v2) (jshr v2 1) μ)
set_option maxRecDepth 100000 in
set_option maxHeartbeats 4000000 in
theorem jSm_numberOfSight_4 {X : Cx} {l : Launch} {G : Gx} {y : Ly}   (hX : Ok X l G prog_8_method_12_code 3 (some .int) "SaltFigures$Sums")    : ∀ (fu : Nat) (v1 : Int32) (v2 : Int32) (μ : Mu), J X G 3 1 y (emy y) rvI tpT 4 [(1, .int v1), (2, .int v2)] [] (μ, y) (Sm_numberOfSight_4    fu v1 v2 μ) := by
  intro fu
  induction fu with
  | zero => intros; exact J_none
  | succ fu ih => intro v1 v2 μ; exact jSm_numberOfSight_4b  hX   ih v1 v2 μ
set_option maxRecDepth 100000 in
set_option maxHeartbeats 4000000 in
theorem jSm_numberOfSight {X : Cx} {l : Launch} {G : Gx} {y : Ly}   (hX : Ok X l G prog_8_method_12_code 3 (some .int) "SaltFigures$Sums") (v0 : Int32) (μ : Mu) : J X G 3 1 y (emy y) rvI tpT 0 [(0, .int v0)] [] (μ, y) (Sm_numberOfSight  v0 μ) := by
  unfold Sm_numberOfSight
  refine J_iconst (pc := 0) (n := 0) (v := 0) hX (by decide +kernel) (by decide +kernel) ?_
  refine J_istore_n (k0 := 1) (pc := 1) [(1, .int 0), (0, .int v0)] hX (by decide +kernel) rfl (by decide) rfl ?_
  refine J_iload_n (k0 := 0) (pc := 2) 1 hX (by decide +kernel) rfl rfl ?_
  refine J_istore_n (k0 := 2) (pc := 3) [(2, .int v0), (1, .int 0), (0, .int v0)] hX (by decide +kernel) rfl (by decide) rfl ?_
  exact J_sub [1, 0] _ rfl (jSm_numberOfSight_4 hX FU 0 v0 μ)
set_option maxRecDepth 100000 in
set_option maxHeartbeats 4000000 in
theorem c_Sm_numberOfSight {l : Launch} {G : Gx} {y : Ly}   (v0 : Int32) (μ : Mu) : Cn l G ⟨"SaltFigures$Sums", "numberOfSight", "(I)I"⟩ prog_8_method_12_code 3 (some .int) 1 [.int v0] (μ, y) (emy y) rvI tpT (Sm_numberOfSight  v0 μ) := cn_of (by decide +kernel) (Nat.le_of_ble_eq_true rfl) (fun _ _ _ => ⟨List.prefix_refl _, trivial⟩) (fun X hX _ => jSm_numberOfSight  hX v0 μ)

def Sf_switches (a : Nat) (v1 : Int32) (v2 : Int32) (μ : Mu) : Option (Int32 × Mu) := cl (Sf_within v1 0 1023 μ) (fun x2 μ1 => (if x2 = 0 then some ((-1), μ1) else cl (Sf_within v2 0 1 μ1) (fun x4 μ3 => (if x4 = 0 then some ((-1), μ3) else (if v2 = 0 then some (v1 ^^^ (jshr v1 1), μ3) else cl (Sm_numberOfSight v1 μ3) (fun x6 μ5 => some (x6, μ5)))))))
set_option maxRecDepth 100000 in
set_option maxHeartbeats 4000000 in
theorem jSf_switches {X : Cx} {l : Launch} {G : Gx} {y : Ly} {a : Nat} (hL : LySf y a ) (hX : Ok X l G prog_1_method_33_code 3 (some .int) "SaltFigures") (v1 : Int32) (v2 : Int32) (μ : Mu) : J X G 3 2 y (emy y) rvI tpT 0 [(0, .ref (G.1 + a)), (1, .int v1), (2, .int v2)] [] (μ, y) (Sf_switches a v1 v2 μ) := by
  unfold Sf_switches
  refine J_iload_n (k0 := 1) (pc := 0) 1 hX (by decide +kernel) rfl rfl ?_
  refine J_iconst (pc := 1) (n := 0) (v := 0) hX (by decide +kernel) (by decide +kernel) ?_
  refine J_sipush (pc := 2) (n := 1023) (v := 1023) hX (by decide +kernel) (by decide +kernel) ?_
  refine J_cSi (pc := 5) (idx := 68) [.int v1, .int 0, .int 1023] hX (by decide +kernel) (mq mt_2 148 (by decide +kernel)) mv_Sf_within rfl rfl (Nat.le_of_ble_eq_true rfl) (Nat.le_of_ble_eq_true rfl) (c_Sf_within v1 0 1023 μ) (fun x2 μ1 => ?_)
  refine J_if_eq (pc := 8) (off := 12) (tgt := 20) hX (by decide +kernel) (by decide +kernel) (fun _ => ?_) (fun _ => ?_)
  · refine J_iconst (pc := 20) (n := -1) (v := (-1)) hX (by decide +kernel) (by decide +kernel) ?_
    exact J_iret (pc := 21) hX (by decide +kernel) rfl trivial
  · refine J_iload_n (k0 := 2) (pc := 11) 2 hX (by decide +kernel) rfl rfl ?_
    refine J_iconst (pc := 12) (n := 0) (v := 0) hX (by decide +kernel) (by decide +kernel) ?_
    refine J_iconst (pc := 13) (n := 1) (v := 1) hX (by decide +kernel) (by decide +kernel) ?_
    refine J_cSi (pc := 14) (idx := 68) [.int v2, .int 0, .int 1] hX (by decide +kernel) (mq mt_2 148 (by decide +kernel)) mv_Sf_within rfl rfl (Nat.le_of_ble_eq_true rfl) (Nat.le_of_ble_eq_true rfl) (c_Sf_within v2 0 1 μ1) (fun x4 μ3 => ?_)
    refine J_if_ne (pc := 17) (off := 5) (tgt := 22) hX (by decide +kernel) (by decide +kernel) (fun _ => ?_) (fun _ => ?_)
    · refine J_iload_n (k0 := 2) (pc := 22) 2 hX (by decide +kernel) rfl rfl ?_
      refine J_if_ne (pc := 23) (off := 11) (tgt := 34) hX (by decide +kernel) (by decide +kernel) (fun _ => ?_) (fun _ => ?_)
      · refine J_iload_n (k0 := 1) (pc := 34) 1 hX (by decide +kernel) rfl rfl ?_
        refine J_cSi (pc := 35) (idx := 316) [.int v1] hX (by decide +kernel) (mq mt_5 132 (by decide +kernel)) mv_Sm_numberOfSight rfl rfl (Nat.le_of_ble_eq_true rfl) (Nat.le_of_ble_eq_true rfl) (c_Sm_numberOfSight v1 μ3) (fun x6 μ5 => ?_)
        exact J_iret (pc := 38) hX (by decide +kernel) rfl trivial
      · refine J_iload_n (k0 := 1) (pc := 26) 1 hX (by decide +kernel) rfl rfl ?_
        refine J_iload_n (k0 := 1) (pc := 27) 1 hX (by decide +kernel) rfl rfl ?_
        refine J_iconst (pc := 28) (n := 1) (v := 1) hX (by decide +kernel) (by decide +kernel) ?_
        refine J_ishr (pc := 29) hX (by decide +kernel) ?_
        refine J_ixor (pc := 30) hX (by decide +kernel) ?_
        refine J_goto (pc := 31) (off := 7) (tgt := 38) hX (by decide +kernel) (by decide +kernel) ?_
        exact J_iret (pc := 38) hX (by decide +kernel) rfl trivial
    · refine J_iconst (pc := 20) (n := -1) (v := (-1)) hX (by decide +kernel) (by decide +kernel) ?_
      exact J_iret (pc := 21) hX (by decide +kernel) rfl trivial
set_option maxRecDepth 100000 in
set_option maxHeartbeats 4000000 in
theorem c_Sf_switches {l : Launch} {G : Gx} {y : Ly} {a : Nat} (hL : LySf y a ) (v1 : Int32) (v2 : Int32) (μ : Mu) : Cn l G ⟨"SaltFigures", "switches", "(II)I"⟩ prog_1_method_33_code 3 (some .int) 2 [.ref (G.1 + a), .int v1, .int v2] (μ, y) (emy y) rvI tpT (Sf_switches a v1 v2 μ) := cn_of (by decide +kernel) (Nat.le_of_ble_eq_true rfl) (fun _ _ _ => ⟨List.prefix_refl _, trivial⟩) (fun X hX _ => jSf_switches hL hX v1 v2 μ)

def Rd_isDigit  (v0 : Int32) (μ : Mu) : Option (Int32 × Mu) := (if v0 < 48 then some (0, μ) else (if 57 < v0 then some (0, μ) else some (1, μ)))
set_option maxRecDepth 100000 in
set_option maxHeartbeats 4000000 in
theorem jRd_isDigit {X : Cx} {l : Launch} {G : Gx} {y : Ly}   (hX : Ok X l G prog_6_method_7_code 1 (some .boolean) "SaltFigures$Reader") (v0 : Int32) (μ : Mu) : J X G 1 1 y (emy y) rvI tpT 0 [(0, .int v0)] [] (μ, y) (Rd_isDigit  v0 μ) := by
  unfold Rd_isDigit
  refine J_iload_n (k0 := 0) (pc := 0) 0 hX (by decide +kernel) rfl rfl ?_
  refine J_bipush (pc := 1) (n := 48) (v := 48) hX (by decide +kernel) (by decide +kernel) ?_
  refine J_icmp_lt (pc := 3) (off := 13) (tgt := 16) hX (by decide +kernel) (by decide +kernel) (fun _ => ?_) (fun _ => ?_)
  · refine J_iconst (pc := 16) (n := 0) (v := 0) hX (by decide +kernel) (by decide +kernel) ?_
    exact J_zret (pc := 17) hX (by decide +kernel) rfl (by decide +kernel) trivial
  · refine J_iload_n (k0 := 0) (pc := 6) 0 hX (by decide +kernel) rfl rfl ?_
    refine J_bipush (pc := 7) (n := 57) (v := 57) hX (by decide +kernel) (by decide +kernel) ?_
    refine J_icmp_gt (pc := 9) (off := 7) (tgt := 16) hX (by decide +kernel) (by decide +kernel) (fun _ => ?_) (fun _ => ?_)
    · refine J_iconst (pc := 16) (n := 0) (v := 0) hX (by decide +kernel) (by decide +kernel) ?_
      exact J_zret (pc := 17) hX (by decide +kernel) rfl (by decide +kernel) trivial
    · refine J_iconst (pc := 12) (n := 1) (v := 1) hX (by decide +kernel) (by decide +kernel) ?_
      refine J_goto (pc := 13) (off := 4) (tgt := 17) hX (by decide +kernel) (by decide +kernel) ?_
      exact J_zret (pc := 17) hX (by decide +kernel) rfl (by decide +kernel) trivial
set_option maxRecDepth 100000 in
set_option maxHeartbeats 4000000 in
theorem c_Rd_isDigit {l : Launch} {G : Gx} {y : Ly}   (v0 : Int32) (μ : Mu) : Cn l G ⟨"SaltFigures$Reader", "isDigit", "(I)Z"⟩ prog_6_method_7_code 1 (some .boolean) 1 [.int v0] (μ, y) (emy y) rvI tpT (Rd_isDigit  v0 μ) := cn_of (by decide +kernel) (Nat.le_of_ble_eq_true rfl) (fun _ _ _ => ⟨List.prefix_refl _, trivial⟩) (fun X hX _ => jRd_isDigit  hX v0 μ)

def Rd_isLetter_24      (μ : Mu) : Option (Int32 × Mu) := some (1, μ)
def Rd_isLetter_12    (v0 : Int32)  (μ : Mu) : Option (Int32 × Mu) := (if v0 < 65 then some (0, μ) else (if 90 < v0 then some (0, μ) else Rd_isLetter_24 μ))
def Rd_isLetter  (v0 : Int32) (μ : Mu) : Option (Int32 × Mu) := (if v0 < 97 then Rd_isLetter_12 v0 μ else (if v0 ≤ 122 then Rd_isLetter_24 μ else Rd_isLetter_12 v0 μ))
set_option maxRecDepth 100000 in
set_option maxHeartbeats 4000000 in
theorem jRd_isLetter_24 {X : Cx} {l : Launch} {G : Gx} {y : Ly}   (hX : Ok X l G prog_6_method_8_code 1 (some .boolean) "SaltFigures$Reader")      (μ : Mu) : J X G 1 1 y (emy y) rvI tpT 24 [] [] (μ, y) (Rd_isLetter_24      μ) := by
  unfold Rd_isLetter_24
  refine J_iconst (pc := 24) (n := 1) (v := 1) hX (by decide +kernel) (by decide +kernel) ?_
  refine J_goto (pc := 25) (off := 4) (tgt := 29) hX (by decide +kernel) (by decide +kernel) ?_
  exact J_zret (pc := 29) hX (by decide +kernel) rfl (by decide +kernel) trivial
set_option maxRecDepth 100000 in
set_option maxHeartbeats 4000000 in
theorem jRd_isLetter_12 {X : Cx} {l : Launch} {G : Gx} {y : Ly}   (hX : Ok X l G prog_6_method_8_code 1 (some .boolean) "SaltFigures$Reader")  (v0 : Int32)    (μ : Mu) : J X G 1 1 y (emy y) rvI tpT 12 [(0, .int v0)] [] (μ, y) (Rd_isLetter_12    v0  μ) := by
  unfold Rd_isLetter_12
  refine J_iload_n (k0 := 0) (pc := 12) 0 hX (by decide +kernel) rfl rfl ?_
  refine J_bipush (pc := 13) (n := 65) (v := 65) hX (by decide +kernel) (by decide +kernel) ?_
  refine J_icmp_lt (pc := 15) (off := 13) (tgt := 28) hX (by decide +kernel) (by decide +kernel) (fun _ => ?_) (fun _ => ?_)
  · refine J_iconst (pc := 28) (n := 0) (v := 0) hX (by decide +kernel) (by decide +kernel) ?_
    exact J_zret (pc := 29) hX (by decide +kernel) rfl (by decide +kernel) trivial
  · refine J_iload_n (k0 := 0) (pc := 18) 0 hX (by decide +kernel) rfl rfl ?_
    refine J_bipush (pc := 19) (n := 90) (v := 90) hX (by decide +kernel) (by decide +kernel) ?_
    refine J_icmp_gt (pc := 21) (off := 7) (tgt := 28) hX (by decide +kernel) (by decide +kernel) (fun _ => ?_) (fun _ => ?_)
    · refine J_iconst (pc := 28) (n := 0) (v := 0) hX (by decide +kernel) (by decide +kernel) ?_
      exact J_zret (pc := 29) hX (by decide +kernel) rfl (by decide +kernel) trivial
    · exact J_sub [] _ rfl (jRd_isLetter_24 hX μ)
set_option maxRecDepth 100000 in
set_option maxHeartbeats 4000000 in
theorem jRd_isLetter {X : Cx} {l : Launch} {G : Gx} {y : Ly}   (hX : Ok X l G prog_6_method_8_code 1 (some .boolean) "SaltFigures$Reader") (v0 : Int32) (μ : Mu) : J X G 1 1 y (emy y) rvI tpT 0 [(0, .int v0)] [] (μ, y) (Rd_isLetter  v0 μ) := by
  unfold Rd_isLetter
  refine J_iload_n (k0 := 0) (pc := 0) 0 hX (by decide +kernel) rfl rfl ?_
  refine J_bipush (pc := 1) (n := 97) (v := 97) hX (by decide +kernel) (by decide +kernel) ?_
  refine J_icmp_lt (pc := 3) (off := 9) (tgt := 12) hX (by decide +kernel) (by decide +kernel) (fun _ => ?_) (fun _ => ?_)
  · exact J_sub [0] _ rfl (jRd_isLetter_12 hX v0 μ)
  · refine J_iload_n (k0 := 0) (pc := 6) 0 hX (by decide +kernel) rfl rfl ?_
    refine J_bipush (pc := 7) (n := 122) (v := 122) hX (by decide +kernel) (by decide +kernel) ?_
    refine J_icmp_le (pc := 9) (off := 15) (tgt := 24) hX (by decide +kernel) (by decide +kernel) (fun _ => ?_) (fun _ => ?_)
    · exact J_sub [] _ rfl (jRd_isLetter_24 hX μ)
    · exact J_sub [0] _ rfl (jRd_isLetter_12 hX v0 μ)
set_option maxRecDepth 100000 in
set_option maxHeartbeats 4000000 in
theorem c_Rd_isLetter {l : Launch} {G : Gx} {y : Ly}   (v0 : Int32) (μ : Mu) : Cn l G ⟨"SaltFigures$Reader", "isLetter", "(I)Z"⟩ prog_6_method_8_code 1 (some .boolean) 1 [.int v0] (μ, y) (emy y) rvI tpT (Rd_isLetter  v0 μ) := cn_of (by decide +kernel) (Nat.le_of_ble_eq_true rfl) (fun _ _ _ => ⟨List.prefix_refl _, trivial⟩) (fun X hX _ => jRd_isLetter  hX v0 μ)

def Js_coder (si : Nat)  (μ : Mu) : Option (Int32 × Mu) := (if (1 : Int32) = 0 then some (1, μ) else some (0, μ))
set_option maxRecDepth 100000 in
set_option maxHeartbeats 4000000 in
theorem jJs_coder {X : Cx} {l : Launch} {G : Gx} {y : Ly} {si : Nat} (hsi : si < 2) (hX : Ok X l G prog_17_method_152_code 1 (some .byte) "java/lang/String")  (μ : Mu) : J X G 1 1 y (emy y) rvI tpT 0 [(0, .ref (G.2.2.2.2.2 si))] [] (μ, y) (Js_coder si  μ) := by
  unfold Js_coder
  refine J_gets (pc := 0) (C := "java/lang/String") (n := "COMPACT_STRINGS") (dd := "Z") (v := .int 1) (idx := 38) hX (by decide +kernel) (mq mt_3 140 (by decide +kernel)) (fun _ h => h.2.2.2.2.2.1) ?_
  refine J_if_eq (pc := 3) (off := 10) (tgt := 13) hX (by decide +kernel) (by decide +kernel) (fun _ => ?_) (fun _ => ?_)
  · refine J_iconst (pc := 13) (n := 1) (v := 1) hX (by decide +kernel) (by decide +kernel) ?_
    exact J_nret (pc := 14) hX (by decide +kernel) (by decide +kernel) rfl trivial
  · refine J_aload_n (k0 := 0) (pc := 6) 0 hX (by decide +kernel) rfl rfl ?_
    refine J_sCod (pc := 7) (idx := 15) hsi hX (by decide +kernel) (mq mt_9 31 (by decide +kernel)) ?_
    refine J_goto (pc := 10) (off := 4) (tgt := 14) hX (by decide +kernel) (by decide +kernel) ?_
    exact J_nret (pc := 14) hX (by decide +kernel) (by decide +kernel) rfl trivial
set_option maxRecDepth 100000 in
set_option maxHeartbeats 4000000 in
theorem c_Js_coder {l : Launch} {G : Gx} {y : Ly} {si : Nat} (hsi : si < 2)  (μ : Mu) : Cn l G ⟨"java/lang/String", "coder", "()B"⟩ prog_17_method_152_code 1 (some .byte) 1 [.ref (G.2.2.2.2.2 si)] (μ, y) (emy y) rvI tpT (Js_coder si  μ) := cn_of (by decide +kernel) (Nat.le_of_ble_eq_true rfl) (fun _ _ _ => ⟨List.prefix_refl _, trivial⟩) (fun X hX _ => jJs_coder hsi hX  μ)

def Js_length (si : Nat)  (μ : Mu) : Option (Int32 × Mu) := cl (Js_coder si μ) (fun x2 μ1 => some (jshr (Int32.ofNat (Zlen.getD si 0)) x2, μ1))
set_option maxRecDepth 100000 in
set_option maxHeartbeats 4000000 in
theorem jJs_length {X : Cx} {l : Launch} {G : Gx} {y : Ly} {si : Nat} (hsi : si < 2) (hX : Ok X l G prog_17_method_54_code 1 (some .int) "java/lang/String")  (μ : Mu) : J X G 1 2 y (emy y) rvI tpT 0 [(0, .ref (G.2.2.2.2.2 si))] [] (μ, y) (Js_length si  μ) := by
  unfold Js_length
  refine J_aload_n (k0 := 0) (pc := 0) 0 hX (by decide +kernel) rfl rfl ?_
  refine J_sVal (pc := 1) (idx := 9) hsi hX (by decide +kernel) (mq mt_9 30 (by decide +kernel)) ?_
  refine J_sLen (pc := 4) hsi hX (by decide +kernel) ?_
  refine J_aload_n (k0 := 0) (pc := 5) 0 hX (by decide +kernel) rfl rfl ?_
  refine J_cZi (pc := 6) (idx := 335) [] hsi hX (by decide +kernel) (mq mt_3 136 (by decide +kernel)) mv_Js_coder rfl rfl (Nat.le_of_ble_eq_true rfl) (Nat.le_of_ble_eq_true rfl) (c_Js_coder hsi μ) (fun x2 μ1 => ?_)
  refine J_ishr (pc := 9) hX (by decide +kernel) ?_
  exact J_iret (pc := 10) hX (by decide +kernel) rfl trivial
set_option maxRecDepth 100000 in
set_option maxHeartbeats 4000000 in
theorem c_Js_length {l : Launch} {G : Gx} {y : Ly} {si : Nat} (hsi : si < 2)  (μ : Mu) : Cn l G ⟨"java/lang/String", "length", "()I"⟩ prog_17_method_54_code 1 (some .int) 2 [.ref (G.2.2.2.2.2 si)] (μ, y) (emy y) rvI tpT (Js_length si  μ) := cn_of (by decide +kernel) (Nat.le_of_ble_eq_true rfl) (fun _ _ _ => ⟨List.prefix_refl _, trivial⟩) (fun X hX _ => jJs_length hsi hX  μ)

def Js_isLatin1 (si : Nat)  (μ : Mu) : Option (Int32 × Mu) := (if (1 : Int32) = 0 then some (0, μ) else (if (0 : Int32) = 0 then some (1, μ) else some (0, μ)))
set_option maxRecDepth 100000 in
set_option maxHeartbeats 4000000 in
theorem jJs_isLatin1 {X : Cx} {l : Launch} {G : Gx} {y : Ly} {si : Nat} (hsi : si < 2) (hX : Ok X l G prog_17_method_154_code 1 (some .boolean) "java/lang/String")  (μ : Mu) : J X G 1 1 y (emy y) rvI tpT 0 [(0, .ref (G.2.2.2.2.2 si))] [] (μ, y) (Js_isLatin1 si  μ) := by
  unfold Js_isLatin1
  refine J_gets (pc := 0) (C := "java/lang/String") (n := "COMPACT_STRINGS") (dd := "Z") (v := .int 1) (idx := 38) hX (by decide +kernel) (mq mt_3 140 (by decide +kernel)) (fun _ h => h.2.2.2.2.2.1) ?_
  refine J_if_eq (pc := 3) (off := 14) (tgt := 17) hX (by decide +kernel) (by decide +kernel) (fun _ => ?_) (fun _ => ?_)
  · refine J_iconst (pc := 17) (n := 0) (v := 0) hX (by decide +kernel) (by decide +kernel) ?_
    exact J_zret (pc := 18) hX (by decide +kernel) rfl (by decide +kernel) trivial
  · refine J_aload_n (k0 := 0) (pc := 6) 0 hX (by decide +kernel) rfl rfl ?_
    refine J_sCod (pc := 7) (idx := 15) hsi hX (by decide +kernel) (mq mt_9 31 (by decide +kernel)) ?_
    refine J_if_ne (pc := 10) (off := 7) (tgt := 17) hX (by decide +kernel) (by decide +kernel) (fun _ => ?_) (fun _ => ?_)
    · refine J_iconst (pc := 17) (n := 0) (v := 0) hX (by decide +kernel) (by decide +kernel) ?_
      exact J_zret (pc := 18) hX (by decide +kernel) rfl (by decide +kernel) trivial
    · refine J_iconst (pc := 13) (n := 1) (v := 1) hX (by decide +kernel) (by decide +kernel) ?_
      refine J_goto (pc := 14) (off := 4) (tgt := 18) hX (by decide +kernel) (by decide +kernel) ?_
      exact J_zret (pc := 18) hX (by decide +kernel) rfl (by decide +kernel) trivial
set_option maxRecDepth 100000 in
set_option maxHeartbeats 4000000 in
theorem c_Js_isLatin1 {l : Launch} {G : Gx} {y : Ly} {si : Nat} (hsi : si < 2)  (μ : Mu) : Cn l G ⟨"java/lang/String", "isLatin1", "()Z"⟩ prog_17_method_154_code 1 (some .boolean) 1 [.ref (G.2.2.2.2.2 si)] (μ, y) (emy y) rvI tpT (Js_isLatin1 si  μ) := cn_of (by decide +kernel) (Nat.le_of_ble_eq_true rfl) (fun _ _ _ => ⟨List.prefix_refl _, trivial⟩) (fun X hX _ => jJs_isLatin1 hsi hX  μ)

def Jl_charAt (bi : Nat) (v1 : Int32) (μ : Mu) : Option (Int32 × Mu) := cl (Js_checkIndex v1 (Int32.ofNat (Zlen.getD bi 0)) μ) (fun _ μ1 => ldZ (Zbyt.getD bi []) v1 (fun x2 => zgc (ji2c (x2 &&& 255)) (some (ji2c (x2 &&& 255), μ1))))
set_option maxRecDepth 100000 in
set_option maxHeartbeats 4000000 in
theorem jJl_charAt {X : Cx} {l : Launch} {G : Gx} {y : Ly} {bi : Nat} (hbi : bi < 2) (hX : Ok X l G prog_18_method_2_code 2 (some .char) "java/lang/StringLatin1") (v1 : Int32) (μ : Mu) : J X G 2 7 y (emy y) rvI tpT 0 [(0, .ref (G.2.2.2.2.2 (bi + 2))), (1, .int v1)] [] (μ, y) (Jl_charAt bi v1 μ) := by
  unfold Jl_charAt
  refine J_iload_n (k0 := 1) (pc := 0) 1 hX (by decide +kernel) rfl rfl ?_
  refine J_aload_n (k0 := 0) (pc := 1) 0 hX (by decide +kernel) rfl rfl ?_
  refine J_sLen (pc := 2) hbi hX (by decide +kernel) ?_
  refine J_cSv (pc := 3) (idx := 9) [.int v1, .int (Int32.ofNat (Zlen.getD bi 0))] hX (by decide +kernel) (mq mt_3 153 (by decide +kernel)) mv_Js_checkIndex rfl rfl (Nat.le_of_ble_eq_true rfl) (Nat.le_of_ble_eq_true rfl) (c_Js_checkIndex v1 (Int32.ofNat (Zlen.getD bi 0)) μ) (fun μ1 => ?_)
  refine J_aload_n (k0 := 0) (pc := 6) 0 hX (by decide +kernel) rfl rfl ?_
  refine J_iload_n (k0 := 1) (pc := 7) 1 hX (by decide +kernel) rfl rfl ?_
  refine J_sB (pc := 8) hbi hX (by decide +kernel) (fun x2 => ?_)
  refine J_sipush (pc := 9) (n := 255) (v := 255) hX (by decide +kernel) (by decide +kernel) ?_
  refine J_iand (pc := 12) hX (by decide +kernel) ?_
  refine J_i2c (pc := 13) hX (by decide +kernel) rfl ?_
  exact J_cret (pc := 14) hX (by decide +kernel) rfl trivial
set_option maxRecDepth 100000 in
set_option maxHeartbeats 4000000 in
theorem c_Jl_charAt {l : Launch} {G : Gx} {y : Ly} {bi : Nat} (hbi : bi < 2) (v1 : Int32) (μ : Mu) : Cn l G ⟨"java/lang/StringLatin1", "charAt", "([BI)C"⟩ prog_18_method_2_code 2 (some .char) 7 [.ref (G.2.2.2.2.2 (bi + 2)), .int v1] (μ, y) (emy y) rvI tpT (Jl_charAt bi v1 μ) := cn_of (by decide +kernel) (Nat.le_of_ble_eq_true rfl) (fun _ _ _ => ⟨List.prefix_refl _, trivial⟩) (fun X hX _ => jJl_charAt hbi hX v1 μ)

def Js_charAt (si : Nat) (v1 : Int32) (μ : Mu) : Option (Int32 × Mu) := cl (Js_isLatin1 si μ) (fun x2 μ1 => (if x2 = 0 then none else cl (Jl_charAt si v1 μ1) (fun x4 μ3 => zgc x4 (some (x4, μ3)))))
set_option maxRecDepth 100000 in
set_option maxHeartbeats 4000000 in
theorem jJs_charAt {X : Cx} {l : Launch} {G : Gx} {y : Ly} {si : Nat} (hsi : si < 2) (hX : Ok X l G prog_17_method_56_code 2 (some .char) "java/lang/String") (v1 : Int32) (μ : Mu) : J X G 2 8 y (emy y) rvI tpT 0 [(0, .ref (G.2.2.2.2.2 si)), (1, .int v1)] [] (μ, y) (Js_charAt si v1 μ) := by
  unfold Js_charAt
  refine J_aload_n (k0 := 0) (pc := 0) 0 hX (by decide +kernel) rfl rfl ?_
  refine J_cZi (pc := 1) (idx := 492) [] hsi hX (by decide +kernel) (mq mt_3 146 (by decide +kernel)) mv_Js_isLatin1 rfl rfl (Nat.le_of_ble_eq_true rfl) (Nat.le_of_ble_eq_true rfl) (c_Js_isLatin1 hsi μ) (fun x2 μ1 => ?_)
  refine J_if_eq (pc := 4) (off := 12) (tgt := 16) hX (by decide +kernel) (by decide +kernel) (fun _ => ?_) (fun _ => ?_)
  · refine J_aload_n (k0 := 0) (pc := 16) 0 hX (by decide +kernel) rfl rfl ?_
    refine J_sVal (pc := 17) (idx := 9) hsi hX (by decide +kernel) (mq mt_9 30 (by decide +kernel)) ?_
    refine J_iload_n (k0 := 1) (pc := 20) 1 hX (by decide +kernel) rfl rfl ?_
    exact J_none
  · refine J_aload_n (k0 := 0) (pc := 7) 0 hX (by decide +kernel) rfl rfl ?_
    refine J_sVal (pc := 8) (idx := 9) hsi hX (by decide +kernel) (mq mt_9 30 (by decide +kernel)) ?_
    refine J_iload_n (k0 := 1) (pc := 11) 1 hX (by decide +kernel) rfl rfl ?_
    refine J_cSi (pc := 12) (idx := 495) [.ref (G.2.2.2.2.2 (si + 2)), .int v1] hX (by decide +kernel) (mq mt_3 150 (by decide +kernel)) mv_Jl_charAt rfl rfl (Nat.le_of_ble_eq_true rfl) (Nat.le_of_ble_eq_true rfl) (c_Jl_charAt hsi v1 μ1) (fun x4 μ3 => ?_)
    exact J_cret (pc := 15) hX (by decide +kernel) rfl trivial
set_option maxRecDepth 100000 in
set_option maxHeartbeats 4000000 in
theorem c_Js_charAt {l : Launch} {G : Gx} {y : Ly} {si : Nat} (hsi : si < 2) (v1 : Int32) (μ : Mu) : Cn l G ⟨"java/lang/String", "charAt", "(I)C"⟩ prog_17_method_56_code 2 (some .char) 8 [.ref (G.2.2.2.2.2 si), .int v1] (μ, y) (emy y) rvI tpT (Js_charAt si v1 μ) := cn_of (by decide +kernel) (Nat.le_of_ble_eq_true rfl) (fun _ _ _ => ⟨List.prefix_refl _, trivial⟩) (fun X hX _ => jJs_charAt hsi hX v1 μ)

def Rd_keyword_104 (a : Nat) (kb12 : Int32 → Int32 → Int32 → Int32 → Mu → Option (Int32 × Mu))  (v1 : Int32) (v2 : Int32) (v3 : Int32) (v4 : Int32)  (μ : Mu) : Option (Int32 × Mu) := kb12 v1 v2 v3 (v4 + 1) μ
def Rd_keyword_94 (a : Nat) (kb12 : Int32 → Int32 → Int32 → Int32 → Mu → Option (Int32 × Mu))  (v1 : Int32) (v4 : Int32)  (μ : Mu) : Option (Int32 × Mu) := gF μ a 5 (fun x1 => Rd_keyword_104 a kb12 (v1 + 1) x1 1 v4 μ)
def Rd_keyword_73 (a : Nat) (kb12 : Int32 → Int32 → Int32 → Int32 → Mu → Option (Int32 × Mu))  (v1 : Int32) (v2 : Int32) (v4 : Int32) (s0 : Int32) (μ : Mu) : Option (Int32 × Mu) := Rd_keyword_104 a kb12 v1 (v2 + 1) s0 v4 μ
def Rd_keyword_72 (a : Nat) (kb12 : Int32 → Int32 → Int32 → Int32 → Mu → Option (Int32 × Mu))  (v1 : Int32) (v2 : Int32) (v4 : Int32)  (μ : Mu) : Option (Int32 × Mu) := Rd_keyword_73 a kb12 v1 v2 v4 0 μ
def Rd_keyword_12b (a : Nat)  (kb12 : Int32 → Int32 → Int32 → Int32 → Mu → Option (Int32 × Mu))  (v1 : Int32) (v2 : Int32) (v3 : Int32) (v4 : Int32)  (μ : Mu) : Option (Int32 × Mu) := cl (Js_length 0 μ) (fun x2 μ1 => (if x2 ≤ v4 then some (31, μ1) else cl (Js_charAt 0 v4 μ1) (fun x4 μ3 => (if x4 = 32 then (if v3 = 0 then Rd_keyword_94 a kb12 v1 v4 μ3 else gF μ3 a 6 (fun x5 => (if v2 = x5 then some (v1, μ3) else Rd_keyword_94 a kb12 v1 v4 μ3))) else (if v3 = 0 then Rd_keyword_72 a kb12 v1 v2 v4 μ3 else gF μ3 a 6 (fun x6 => (if x6 ≤ v2 then Rd_keyword_72 a kb12 v1 v2 v4 μ3 else (if 400 ≤ v2 then Rd_keyword_72 a kb12 v1 v2 v4 μ3 else ldA μ3 (a + 1) 400 v2 (fun x7 => (if x7 = x4 then Rd_keyword_73 a kb12 v1 v2 v4 1 μ3 else Rd_keyword_72 a kb12 v1 v2 v4 μ3))))))))))
def Rd_keyword_12 (a : Nat)   (fu : Nat) : Int32 → Int32 → Int32 → Int32 → Mu → Option (Int32 × Mu) := lp (fun kb => Rd_keyword_12b a  kb ) (fun _ _ _ _ _ => none) fu
def Rd_keyword (a : Nat)  (μ : Mu) : Option (Int32 × Mu) := gF μ a 5 (fun x1 => Rd_keyword_12 a FU 1 x1 1 0 μ)
set_option maxRecDepth 100000 in
set_option maxHeartbeats 4000000 in
theorem jRd_keyword_104 {X : Cx} {l : Launch} {G : Gx} {y : Ly} {a : Nat} (hL : LyRd y a ) (hX : Ok X l G prog_6_method_9_code 6 (some .int) "SaltFigures$Reader")  (v1 : Int32) (v2 : Int32) (v3 : Int32) (v4 : Int32)  {kb12 : Int32 → Int32 → Int32 → Int32 → Mu → Option (Int32 × Mu)} (hk12 : ∀ (v1 : Int32) (v2 : Int32) (v3 : Int32) (v4 : Int32) (μ : Mu), J X G 6 9 y (emy y) rvI tpT 12 [(0, .ref (G.1 + a)), (1, .int v1), (2, .int v2), (3, .int v3), (4, .int v4)] [] (μ, y) (kb12 v1 v2 v3 v4 μ)) (μ : Mu) : J X G 6 9 y (emy y) rvI tpT 104 [(0, .ref (G.1 + a)), (1, .int v1), (2, .int v2), (3, .int v3), (4, .int v4)] [] (μ, y) (Rd_keyword_104 a kb12  v1 v2 v3 v4  μ) := by
  unfold Rd_keyword_104
  refine J_iinc (pc := 104) (n := 1) 4 [(4, .int (v4 + 1)), (0, .ref (G.1 + a)), (1, .int v1), (2, .int v2), (3, .int v3)] hX (by decide +kernel) rfl rfl (by decide) rfl ?_
  refine J_goto (pc := 107) (off := -95) (tgt := 12) hX (by decide +kernel) (by decide +kernel) ?_
  exact J_sub [1, 2, 3, 4, 0] _ rfl (hk12 v1 v2 v3 (v4 + 1) μ)
set_option maxRecDepth 100000 in
set_option maxHeartbeats 4000000 in
theorem jRd_keyword_94 {X : Cx} {l : Launch} {G : Gx} {y : Ly} {a : Nat} (hL : LyRd y a ) (hX : Ok X l G prog_6_method_9_code 6 (some .int) "SaltFigures$Reader")  (v1 : Int32) (v4 : Int32)  {kb12 : Int32 → Int32 → Int32 → Int32 → Mu → Option (Int32 × Mu)} (hk12 : ∀ (v1 : Int32) (v2 : Int32) (v3 : Int32) (v4 : Int32) (μ : Mu), J X G 6 9 y (emy y) rvI tpT 12 [(0, .ref (G.1 + a)), (1, .int v1), (2, .int v2), (3, .int v3), (4, .int v4)] [] (μ, y) (kb12 v1 v2 v3 v4 μ)) (μ : Mu) : J X G 6 9 y (emy y) rvI tpT 94 [(0, .ref (G.1 + a)), (1, .int v1), (4, .int v4)] [] (μ, y) (Rd_keyword_94 a kb12  v1 v4  μ) := by
  unfold Rd_keyword_94
  refine J_iinc (pc := 94) (n := 1) 1 [(1, .int (v1 + 1)), (0, .ref (G.1 + a)), (4, .int v4)] hX (by decide +kernel) rfl rfl (by decide) rfl ?_
  refine J_aload_n (k0 := 0) (pc := 97) 1 hX (by decide +kernel) rfl rfl ?_
  refine J_gF (pc := 98) hX (by decide +kernel) fl_Rd_50 hL.1 rfl (fun x1 => ?_)
  refine J_istore_n (k0 := 2) (pc := 101) [(2, .int x1), (1, .int (v1 + 1)), (0, .ref (G.1 + a)), (4, .int v4)] hX (by decide +kernel) rfl (by decide) rfl ?_
  refine J_iconst (pc := 102) (n := 1) (v := 1) hX (by decide +kernel) (by decide +kernel) ?_
  refine J_istore_n (k0 := 3) (pc := 103) [(3, .int 1), (2, .int x1), (1, .int (v1 + 1)), (0, .ref (G.1 + a)), (4, .int v4)] hX (by decide +kernel) rfl (by decide) rfl ?_
  exact J_sub [3, 2, 1, 0, 4] _ rfl (jRd_keyword_104 hL hX (v1 + 1) x1 1 v4 hk12 μ)
set_option maxRecDepth 100000 in
set_option maxHeartbeats 4000000 in
theorem jRd_keyword_73 {X : Cx} {l : Launch} {G : Gx} {y : Ly} {a : Nat} (hL : LyRd y a ) (hX : Ok X l G prog_6_method_9_code 6 (some .int) "SaltFigures$Reader")  (v1 : Int32) (v2 : Int32) (v4 : Int32) (s0 : Int32) {kb12 : Int32 → Int32 → Int32 → Int32 → Mu → Option (Int32 × Mu)} (hk12 : ∀ (v1 : Int32) (v2 : Int32) (v3 : Int32) (v4 : Int32) (μ : Mu), J X G 6 9 y (emy y) rvI tpT 12 [(0, .ref (G.1 + a)), (1, .int v1), (2, .int v2), (3, .int v3), (4, .int v4)] [] (μ, y) (kb12 v1 v2 v3 v4 μ)) (μ : Mu) : J X G 6 9 y (emy y) rvI tpT 73 [(0, .ref (G.1 + a)), (1, .int v1), (2, .int v2), (4, .int v4)] [.int s0] (μ, y) (Rd_keyword_73 a kb12  v1 v2 v4 s0 μ) := by
  unfold Rd_keyword_73
  refine J_istore_n (k0 := 3) (pc := 73) [(3, .int s0), (0, .ref (G.1 + a)), (1, .int v1), (2, .int v2), (4, .int v4)] hX (by decide +kernel) rfl (by decide) rfl ?_
  refine J_iinc (pc := 74) (n := 1) 3 [(2, .int (v2 + 1)), (3, .int s0), (0, .ref (G.1 + a)), (1, .int v1), (4, .int v4)] hX (by decide +kernel) rfl rfl (by decide) rfl ?_
  refine J_goto (pc := 77) (off := 27) (tgt := 104) hX (by decide +kernel) (by decide +kernel) ?_
  exact J_sub [2, 3, 0, 1, 4] _ rfl (jRd_keyword_104 hL hX v1 (v2 + 1) s0 v4 hk12 μ)
set_option maxRecDepth 100000 in
set_option maxHeartbeats 4000000 in
theorem jRd_keyword_72 {X : Cx} {l : Launch} {G : Gx} {y : Ly} {a : Nat} (hL : LyRd y a ) (hX : Ok X l G prog_6_method_9_code 6 (some .int) "SaltFigures$Reader")  (v1 : Int32) (v2 : Int32) (v4 : Int32)  {kb12 : Int32 → Int32 → Int32 → Int32 → Mu → Option (Int32 × Mu)} (hk12 : ∀ (v1 : Int32) (v2 : Int32) (v3 : Int32) (v4 : Int32) (μ : Mu), J X G 6 9 y (emy y) rvI tpT 12 [(0, .ref (G.1 + a)), (1, .int v1), (2, .int v2), (3, .int v3), (4, .int v4)] [] (μ, y) (kb12 v1 v2 v3 v4 μ)) (μ : Mu) : J X G 6 9 y (emy y) rvI tpT 72 [(0, .ref (G.1 + a)), (1, .int v1), (2, .int v2), (4, .int v4)] [] (μ, y) (Rd_keyword_72 a kb12  v1 v2 v4  μ) := by
  unfold Rd_keyword_72
  refine J_iconst (pc := 72) (n := 0) (v := 0) hX (by decide +kernel) (by decide +kernel) ?_
  exact J_sub [0, 1, 2, 3] _ rfl (jRd_keyword_73 hL hX v1 v2 v4 0 hk12 μ)
set_option maxRecDepth 100000 in
set_option maxHeartbeats 4000000 in
theorem jRd_keyword_12b {X : Cx} {l : Launch} {G : Gx} {y : Ly} {a : Nat} (hL : LyRd y a ) (hX : Ok X l G prog_6_method_9_code 6 (some .int) "SaltFigures$Reader")   {kb12 : Int32 → Int32 → Int32 → Int32 → Mu → Option (Int32 × Mu)}  (hk12 : ∀ (v1 : Int32) (v2 : Int32) (v3 : Int32) (v4 : Int32) (μ : Mu), J X G 6 9 y (emy y) rvI tpT 12 [(0, .ref (G.1 + a)), (1, .int v1), (2, .int v2), (3, .int v3), (4, .int v4)] [] (μ, y) (kb12 v1 v2 v3 v4 μ)) (v1 : Int32) (v2 : Int32) (v3 : Int32) (v4 : Int32)  (μ : Mu) : J X G 6 9 y (emy y) rvI tpT 12 [(0, .ref (G.1 + a)), (1, .int v1), (2, .int v2), (3, .int v3), (4, .int v4)] [] (μ, y) (Rd_keyword_12b a  kb12  v1 v2 v3 v4  μ) := by
  unfold Rd_keyword_12b
  refine J_iload (pc := 12) 4 hX (by decide +kernel) rfl ?_
  refine J_ldcK (pc := 14) hX (by decide +kernel) ?_
  refine J_cZi (pc := 16) (idx := 80) [] (by decide) hX (by decide +kernel) (mq mt_3 132 (by decide +kernel)) mv_Js_length rfl rfl (Nat.le_of_ble_eq_true rfl) (Nat.le_of_ble_eq_true rfl) (c_Js_length ((by decide)) μ) (fun x2 μ1 => ?_)
  refine J_icmp_ge (pc := 19) (off := 91) (tgt := 110) hX (by decide +kernel) (by decide +kernel) (fun _ => ?_) (fun _ => ?_)
  · refine J_bipush (pc := 110) (n := 31) (v := 31) hX (by decide +kernel) (by decide +kernel) ?_
    exact J_iret (pc := 112) hX (by decide +kernel) rfl trivial
  · refine J_ldcK (pc := 22) hX (by decide +kernel) ?_
    refine J_iload (pc := 24) 4 hX (by decide +kernel) rfl ?_
    refine J_cZi (pc := 26) (idx := 82) [.int v4] (by decide) hX (by decide +kernel) (mq mt_3 142 (by decide +kernel)) mv_Js_charAt rfl rfl (Nat.le_of_ble_eq_true rfl) (Nat.le_of_ble_eq_true rfl) (c_Js_charAt ((by decide)) v4 μ1) (fun x4 μ3 => ?_)
    refine J_istore (pc := 29) [(5, .int x4), (0, .ref (G.1 + a)), (1, .int v1), (2, .int v2), (3, .int v3), (4, .int v4)] hX (by decide +kernel) (by decide) rfl ?_
    refine J_iload (pc := 31) 0 hX (by decide +kernel) rfl ?_
    refine J_bipush (pc := 33) (n := 32) (v := 32) hX (by decide +kernel) (by decide +kernel) ?_
    refine J_icmp_eq (pc := 35) (off := 45) (tgt := 80) hX (by decide +kernel) (by decide +kernel) (fun _ => ?_) (fun _ => ?_)
    · refine J_iload_n (k0 := 3) (pc := 80) 4 hX (by decide +kernel) rfl rfl ?_
      refine J_if_eq (pc := 81) (off := 13) (tgt := 94) hX (by decide +kernel) (by decide +kernel) (fun _ => ?_) (fun _ => ?_)
      · exact J_sub [1, 2, 5] _ rfl (jRd_keyword_94 hL hX v1 v4 hk12 μ3)
      · refine J_iload_n (k0 := 2) (pc := 84) 3 hX (by decide +kernel) rfl rfl ?_
        refine J_aload_n (k0 := 0) (pc := 85) 1 hX (by decide +kernel) rfl rfl ?_
        refine J_gF (pc := 86) hX (by decide +kernel) fl_Rd_44 hL.1 rfl (fun x5 => ?_)
        refine J_icmp_ne (pc := 89) (off := 5) (tgt := 94) hX (by decide +kernel) (by decide +kernel) (fun _ => ?_) (fun _ => ?_)
        · exact J_sub [1, 2, 5] _ rfl (jRd_keyword_94 hL hX v1 v4 hk12 μ3)
        · refine J_iload_n (k0 := 1) (pc := 92) 2 hX (by decide +kernel) rfl rfl ?_
          exact J_iret (pc := 93) hX (by decide +kernel) rfl trivial
    · refine J_iload_n (k0 := 3) (pc := 38) 4 hX (by decide +kernel) rfl rfl ?_
      refine J_if_eq (pc := 39) (off := 33) (tgt := 72) hX (by decide +kernel) (by decide +kernel) (fun _ => ?_) (fun _ => ?_)
      · exact J_sub [1, 2, 3, 5] _ rfl (jRd_keyword_72 hL hX v1 v2 v4 hk12 μ3)
      · refine J_iload_n (k0 := 2) (pc := 42) 3 hX (by decide +kernel) rfl rfl ?_
        refine J_aload_n (k0 := 0) (pc := 43) 1 hX (by decide +kernel) rfl rfl ?_
        refine J_gF (pc := 44) hX (by decide +kernel) fl_Rd_44 hL.1 rfl (fun x6 => ?_)
        refine J_icmp_ge (pc := 47) (off := 25) (tgt := 72) hX (by decide +kernel) (by decide +kernel) (fun _ => ?_) (fun _ => ?_)
        · exact J_sub [1, 2, 3, 5] _ rfl (jRd_keyword_72 hL hX v1 v2 v4 hk12 μ3)
        · refine J_iload_n (k0 := 2) (pc := 50) 3 hX (by decide +kernel) rfl rfl ?_
          refine J_sipush (pc := 51) (n := 400) (v := 400) hX (by decide +kernel) (by decide +kernel) ?_
          refine J_icmp_ge (pc := 54) (off := 18) (tgt := 72) hX (by decide +kernel) (by decide +kernel) (fun _ => ?_) (fun _ => ?_)
          · exact J_sub [1, 2, 3, 5] _ rfl (jRd_keyword_72 hL hX v1 v2 v4 hk12 μ3)
          · refine J_aload_n (k0 := 0) (pc := 57) 1 hX (by decide +kernel) rfl rfl ?_
            refine J_gr (pc := 58) hX (by decide +kernel) fl_Rd_9 hL.1 rfl hL.2.1.1 ?_
            refine J_iload_n (k0 := 2) (pc := 61) 3 hX (by decide +kernel) rfl rfl ?_
            refine J_ldA (pc := 62) hX (by decide +kernel) hL.2.1.2 (fun x7 => ?_)
            refine J_iload (pc := 63) 0 hX (by decide +kernel) rfl ?_
            refine J_icmp_ne (pc := 65) (off := 7) (tgt := 72) hX (by decide +kernel) (by decide +kernel) (fun _ => ?_) (fun _ => ?_)
            · exact J_sub [1, 2, 3, 5] _ rfl (jRd_keyword_72 hL hX v1 v2 v4 hk12 μ3)
            · refine J_iconst (pc := 68) (n := 1) (v := 1) hX (by decide +kernel) (by decide +kernel) ?_
              refine J_goto (pc := 69) (off := 4) (tgt := 73) hX (by decide +kernel) (by decide +kernel) ?_
              exact J_sub [1, 2, 3, 5] _ rfl (jRd_keyword_73 hL hX v1 v2 v4 1 hk12 μ3)
set_option maxRecDepth 100000 in
set_option maxHeartbeats 4000000 in
theorem jRd_keyword_12 {X : Cx} {l : Launch} {G : Gx} {y : Ly} {a : Nat} (hL : LyRd y a ) (hX : Ok X l G prog_6_method_9_code 6 (some .int) "SaltFigures$Reader")    : ∀ (fu : Nat) (v1 : Int32) (v2 : Int32) (v3 : Int32) (v4 : Int32) (μ : Mu), J X G 6 9 y (emy y) rvI tpT 12 [(0, .ref (G.1 + a)), (1, .int v1), (2, .int v2), (3, .int v3), (4, .int v4)] [] (μ, y) (Rd_keyword_12 a   fu v1 v2 v3 v4 μ) := by
  intro fu
  induction fu with
  | zero => intros; exact J_none
  | succ fu ih => intro v1 v2 v3 v4 μ; exact jRd_keyword_12b hL hX   ih v1 v2 v3 v4 μ
set_option maxRecDepth 100000 in
set_option maxHeartbeats 4000000 in
theorem jRd_keyword {X : Cx} {l : Launch} {G : Gx} {y : Ly} {a : Nat} (hL : LyRd y a ) (hX : Ok X l G prog_6_method_9_code 6 (some .int) "SaltFigures$Reader")  (μ : Mu) : J X G 6 9 y (emy y) rvI tpT 0 [(0, .ref (G.1 + a))] [] (μ, y) (Rd_keyword a  μ) := by
  unfold Rd_keyword
  refine J_iconst (pc := 0) (n := 1) (v := 1) hX (by decide +kernel) (by decide +kernel) ?_
  refine J_istore_n (k0 := 1) (pc := 1) [(1, .int 1), (0, .ref (G.1 + a))] hX (by decide +kernel) rfl (by decide) rfl ?_
  refine J_aload_n (k0 := 0) (pc := 2) 1 hX (by decide +kernel) rfl rfl ?_
  refine J_gF (pc := 3) hX (by decide +kernel) fl_Rd_50 hL.1 rfl (fun x1 => ?_)
  refine J_istore_n (k0 := 2) (pc := 6) [(2, .int x1), (1, .int 1), (0, .ref (G.1 + a))] hX (by decide +kernel) rfl (by decide) rfl ?_
  refine J_iconst (pc := 7) (n := 1) (v := 1) hX (by decide +kernel) (by decide +kernel) ?_
  refine J_istore_n (k0 := 3) (pc := 8) [(3, .int 1), (2, .int x1), (1, .int 1), (0, .ref (G.1 + a))] hX (by decide +kernel) rfl (by decide) rfl ?_
  refine J_iconst (pc := 9) (n := 0) (v := 0) hX (by decide +kernel) (by decide +kernel) ?_
  refine J_istore (pc := 10) [(4, .int 0), (3, .int 1), (2, .int x1), (1, .int 1), (0, .ref (G.1 + a))] hX (by decide +kernel) (by decide) rfl ?_
  exact J_sub [4, 3, 2, 1, 0] _ rfl (jRd_keyword_12 hL hX FU 1 x1 1 0 μ)
set_option maxRecDepth 100000 in
set_option maxHeartbeats 4000000 in
theorem c_Rd_keyword {l : Launch} {G : Gx} {y : Ly} {a : Nat} (hL : LyRd y a )  (μ : Mu) : Cn l G ⟨"SaltFigures$Reader", "keyword", "()I"⟩ prog_6_method_9_code 6 (some .int) 9 [.ref (G.1 + a)] (μ, y) (emy y) rvI tpT (Rd_keyword a  μ) := cn_of (by decide +kernel) (Nat.le_of_ble_eq_true rfl) (fun _ _ _ => ⟨List.prefix_refl _, trivial⟩) (fun X hX _ => jRd_keyword hL hX  μ)

def Jl_canEncode  (v0 : Int32) (μ : Mu) : Option (Int32 × Mu) := (if v0 < 0 then some (0, μ) else (if 255 < v0 then some (0, μ) else some (1, μ)))
set_option maxRecDepth 100000 in
set_option maxHeartbeats 4000000 in
theorem jJl_canEncode {X : Cx} {l : Launch} {G : Gx} {y : Ly}   (hX : Ok X l G prog_18_method_4_code 1 (some .boolean) "java/lang/StringLatin1") (v0 : Int32) (μ : Mu) : J X G 1 1 y (emy y) rvI tpT 0 [(0, .int v0)] [] (μ, y) (Jl_canEncode  v0 μ) := by
  unfold Jl_canEncode
  refine J_iload_n (k0 := 0) (pc := 0) 0 hX (by decide +kernel) rfl rfl ?_
  refine J_if_lt (pc := 1) (off := 14) (tgt := 15) hX (by decide +kernel) (by decide +kernel) (fun _ => ?_) (fun _ => ?_)
  · refine J_iconst (pc := 15) (n := 0) (v := 0) hX (by decide +kernel) (by decide +kernel) ?_
    exact J_zret (pc := 16) hX (by decide +kernel) rfl (by decide +kernel) trivial
  · refine J_iload_n (k0 := 0) (pc := 4) 0 hX (by decide +kernel) rfl rfl ?_
    refine J_sipush (pc := 5) (n := 255) (v := 255) hX (by decide +kernel) (by decide +kernel) ?_
    refine J_icmp_gt (pc := 8) (off := 7) (tgt := 15) hX (by decide +kernel) (by decide +kernel) (fun _ => ?_) (fun _ => ?_)
    · refine J_iconst (pc := 15) (n := 0) (v := 0) hX (by decide +kernel) (by decide +kernel) ?_
      exact J_zret (pc := 16) hX (by decide +kernel) rfl (by decide +kernel) trivial
    · refine J_iconst (pc := 11) (n := 1) (v := 1) hX (by decide +kernel) (by decide +kernel) ?_
      refine J_goto (pc := 12) (off := 4) (tgt := 16) hX (by decide +kernel) (by decide +kernel) ?_
      exact J_zret (pc := 16) hX (by decide +kernel) rfl (by decide +kernel) trivial
set_option maxRecDepth 100000 in
set_option maxHeartbeats 4000000 in
theorem c_Jl_canEncode {l : Launch} {G : Gx} {y : Ly}   (v0 : Int32) (μ : Mu) : Cn l G ⟨"java/lang/StringLatin1", "canEncode", "(I)Z"⟩ prog_18_method_4_code 1 (some .boolean) 1 [.int v0] (μ, y) (emy y) rvI tpT (Jl_canEncode  v0 μ) := cn_of (by decide +kernel) (Nat.le_of_ble_eq_true rfl) (fun _ _ _ => ⟨List.prefix_refl _, trivial⟩) (fun X hX _ => jJl_canEncode  hX v0 μ)

def Jl_indexOfChar_7b (bi : Nat)  (kb7 : Int32 → Mu → Option (Int32 × Mu)) (v3 : Int32) (v4 : Int32) (v5 : Int32)  (μ : Mu) : Option (Int32 × Mu) := (if v3 ≤ v5 then some ((-1), μ) else ldZ (Zbyt.getD bi []) v5 (fun x1 => (if x1 = v4 then some (v5, μ) else kb7 (v5 + 1) μ)))
def Jl_indexOfChar_7 (bi : Nat)  (v3 : Int32) (v4 : Int32) (fu : Nat) : Int32 → Mu → Option (Int32 × Mu) := lp (fun kb => Jl_indexOfChar_7b bi  kb v3 v4) (fun _ _ => none) fu
def Jl_indexOfChar (bi : Nat) (v1 : Int32) (v2 : Int32) (v3 : Int32) (μ : Mu) : Option (Int32 × Mu) := Jl_indexOfChar_7 bi v3 (ji2b v1) FU v2 μ
set_option maxRecDepth 100000 in
set_option maxHeartbeats 4000000 in
theorem jJl_indexOfChar_7b {X : Cx} {l : Launch} {G : Gx} {y : Ly} {bi : Nat} (hbi : bi < 2) (hX : Ok X l G prog_18_method_23_code 6 (some .int) "java/lang/StringLatin1") (v3 : Int32) (v4 : Int32)  {kb7 : Int32 → Mu → Option (Int32 × Mu)}  (hk7 : ∀ (v5 : Int32) (μ : Mu), J X G 6 1 y (emy y) rvI tpT 7 [(0, .ref (G.2.2.2.2.2 (bi + 2))), (3, .int v3), (4, .int v4), (5, .int v5)] [] (μ, y) (kb7 v5 μ)) (v5 : Int32)  (μ : Mu) : J X G 6 1 y (emy y) rvI tpT 7 [(0, .ref (G.2.2.2.2.2 (bi + 2))), (3, .int v3), (4, .int v4), (5, .int v5)] [] (μ, y) (Jl_indexOfChar_7b bi  kb7 v3 v4 v5  μ) := by
  unfold Jl_indexOfChar_7b
  refine J_iload (pc := 7) 3 hX (by decide +kernel) rfl ?_
  refine J_iload_n (k0 := 3) (pc := 9) 1 hX (by decide +kernel) rfl rfl ?_
  refine J_icmp_ge (pc := 10) (off := 21) (tgt := 31) hX (by decide +kernel) (by decide +kernel) (fun _ => ?_) (fun _ => ?_)
  · refine J_iconst (pc := 31) (n := -1) (v := (-1)) hX (by decide +kernel) (by decide +kernel) ?_
    exact J_iret (pc := 32) hX (by decide +kernel) rfl trivial
  · refine J_aload_n (k0 := 0) (pc := 13) 0 hX (by decide +kernel) rfl rfl ?_
    refine J_iload (pc := 14) 3 hX (by decide +kernel) rfl ?_
    refine J_sB (pc := 16) hbi hX (by decide +kernel) (fun x1 => ?_)
    refine J_iload (pc := 17) 2 hX (by decide +kernel) rfl ?_
    refine J_icmp_ne (pc := 19) (off := 6) (tgt := 25) hX (by decide +kernel) (by decide +kernel) (fun _ => ?_) (fun _ => ?_)
    · refine J_iinc (pc := 25) (n := 1) 3 [(5, .int (v5 + 1)), (0, .ref (G.2.2.2.2.2 (bi + 2))), (3, .int v3), (4, .int v4)] hX (by decide +kernel) rfl rfl (by decide) rfl ?_
      refine J_goto (pc := 28) (off := -21) (tgt := 7) hX (by decide +kernel) (by decide +kernel) ?_
      exact J_sub [1, 2, 3, 0] _ rfl (hk7 (v5 + 1) μ)
    · refine J_iload (pc := 22) 3 hX (by decide +kernel) rfl ?_
      exact J_iret (pc := 24) hX (by decide +kernel) rfl trivial
set_option maxRecDepth 100000 in
set_option maxHeartbeats 4000000 in
theorem jJl_indexOfChar_7 {X : Cx} {l : Launch} {G : Gx} {y : Ly} {bi : Nat} (hbi : bi < 2) (hX : Ok X l G prog_18_method_23_code 6 (some .int) "java/lang/StringLatin1") (v3 : Int32) (v4 : Int32)   : ∀ (fu : Nat) (v5 : Int32) (μ : Mu), J X G 6 1 y (emy y) rvI tpT 7 [(0, .ref (G.2.2.2.2.2 (bi + 2))), (3, .int v3), (4, .int v4), (5, .int v5)] [] (μ, y) (Jl_indexOfChar_7 bi  v3 v4 fu v5 μ) := by
  intro fu
  induction fu with
  | zero => intros; exact J_none
  | succ fu ih => intro v5 μ; exact jJl_indexOfChar_7b hbi hX v3 v4  ih v5 μ
set_option maxRecDepth 100000 in
set_option maxHeartbeats 4000000 in
theorem jJl_indexOfChar {X : Cx} {l : Launch} {G : Gx} {y : Ly} {bi : Nat} (hbi : bi < 2) (hX : Ok X l G prog_18_method_23_code 6 (some .int) "java/lang/StringLatin1") (v1 : Int32) (v2 : Int32) (v3 : Int32) (μ : Mu) : J X G 6 1 y (emy y) rvI tpT 0 [(0, .ref (G.2.2.2.2.2 (bi + 2))), (1, .int v1), (2, .int v2), (3, .int v3)] [] (μ, y) (Jl_indexOfChar bi v1 v2 v3 μ) := by
  unfold Jl_indexOfChar
  refine J_iload_n (k0 := 1) (pc := 0) 1 hX (by decide +kernel) rfl rfl ?_
  refine J_i2b (pc := 1) hX (by decide +kernel) ?_
  refine J_istore (pc := 2) [(4, .int (ji2b v1)), (0, .ref (G.2.2.2.2.2 (bi + 2))), (1, .int v1), (2, .int v2), (3, .int v3)] hX (by decide +kernel) (by decide) rfl ?_
  refine J_iload_n (k0 := 2) (pc := 4) 3 hX (by decide +kernel) rfl rfl ?_
  refine J_istore (pc := 5) [(5, .int v2), (4, .int (ji2b v1)), (0, .ref (G.2.2.2.2.2 (bi + 2))), (1, .int v1), (2, .int v2), (3, .int v3)] hX (by decide +kernel) (by decide) rfl ?_
  exact J_sub [2, 5, 1, 0] _ rfl (jJl_indexOfChar_7 hbi hX v3 (ji2b v1) FU v2 μ)
set_option maxRecDepth 100000 in
set_option maxHeartbeats 4000000 in
theorem c_Jl_indexOfChar {l : Launch} {G : Gx} {y : Ly} {bi : Nat} (hbi : bi < 2) (v1 : Int32) (v2 : Int32) (v3 : Int32) (μ : Mu) : Cn l G ⟨"java/lang/StringLatin1", "indexOfChar", "([BIII)I"⟩ prog_18_method_23_code 6 (some .int) 1 [.ref (G.2.2.2.2.2 (bi + 2)), .int v1, .int v2, .int v3] (μ, y) (emy y) rvI tpT (Jl_indexOfChar bi v1 v2 v3 μ) := cn_of (by decide +kernel) (Nat.le_of_ble_eq_true rfl) (fun _ _ _ => ⟨List.prefix_refl _, trivial⟩) (fun X hX _ => jJl_indexOfChar hbi hX v1 v2 v3 μ)

def Jl_indexOf (bi : Nat) (v1 : Int32) (v2 : Int32) (v3 : Int32) (μ : Mu) : Option (Int32 × Mu) := cl (Jl_canEncode v1 μ) (fun x2 μ1 => (if x2 = 0 then some ((-1), μ1) else (if (jmax v2 0) < (jmin v3 (Int32.ofNat (Zlen.getD bi 0))) then cl (Jl_indexOfChar bi v1 (jmax v2 0) (jmin v3 (Int32.ofNat (Zlen.getD bi 0))) μ1) (fun x4 μ3 => some (x4, μ3)) else some ((-1), μ1))))
set_option maxRecDepth 100000 in
set_option maxHeartbeats 4000000 in
theorem jJl_indexOf {X : Cx} {l : Launch} {G : Gx} {y : Ly} {bi : Nat} (hbi : bi < 2) (hX : Ok X l G prog_18_method_22_code 4 (some .int) "java/lang/StringLatin1") (v1 : Int32) (v2 : Int32) (v3 : Int32) (μ : Mu) : J X G 4 3 y (emy y) rvI tpT 0 [(0, .ref (G.2.2.2.2.2 (bi + 2))), (1, .int v1), (2, .int v2), (3, .int v3)] [] (μ, y) (Jl_indexOf bi v1 v2 v3 μ) := by
  unfold Jl_indexOf
  refine J_iload_n (k0 := 1) (pc := 0) 1 hX (by decide +kernel) rfl rfl ?_
  refine J_cSi (pc := 1) (idx := 88) [.int v1] hX (by decide +kernel) (mq mt_3 193 (by decide +kernel)) mv_Jl_canEncode rfl rfl (Nat.le_of_ble_eq_true rfl) (Nat.le_of_ble_eq_true rfl) (c_Jl_canEncode v1 μ) (fun x2 μ1 => ?_)
  refine J_if_ne (pc := 4) (off := 5) (tgt := 9) hX (by decide +kernel) (by decide +kernel) (fun _ => ?_) (fun _ => ?_)
  · refine J_iload_n (k0 := 2) (pc := 9) 2 hX (by decide +kernel) rfl rfl ?_
    refine J_iconst (pc := 10) (n := 0) (v := 0) hX (by decide +kernel) (by decide +kernel) ?_
    refine J_mmax (pc := 11) (idx := 92) hX (by decide +kernel) (mq mt_3 196 (by decide +kernel)) (Nat.le_of_ble_eq_true rfl) (Nat.le_of_ble_eq_true rfl) ?_
    refine J_istore_n (k0 := 2) (pc := 14) [(2, .int (jmax v2 0)), (0, .ref (G.2.2.2.2.2 (bi + 2))), (1, .int v1), (3, .int v3)] hX (by decide +kernel) rfl (by decide) rfl ?_
    refine J_iload_n (k0 := 3) (pc := 15) 3 hX (by decide +kernel) rfl rfl ?_
    refine J_aload_n (k0 := 0) (pc := 16) 1 hX (by decide +kernel) rfl rfl ?_
    refine J_sLen (pc := 17) hbi hX (by decide +kernel) ?_
    refine J_mmin (pc := 18) (idx := 38) hX (by decide +kernel) (mq mt_3 197 (by decide +kernel)) (Nat.le_of_ble_eq_true rfl) (Nat.le_of_ble_eq_true rfl) ?_
    refine J_istore_n (k0 := 3) (pc := 21) [(3, .int (jmin v3 (Int32.ofNat (Zlen.getD bi 0)))), (2, .int (jmax v2 0)), (0, .ref (G.2.2.2.2.2 (bi + 2))), (1, .int v1)] hX (by decide +kernel) rfl (by decide) rfl ?_
    refine J_iload_n (k0 := 2) (pc := 22) 1 hX (by decide +kernel) rfl rfl ?_
    refine J_iload_n (k0 := 3) (pc := 23) 0 hX (by decide +kernel) rfl rfl ?_
    refine J_icmp_lt (pc := 24) (off := 5) (tgt := 29) hX (by decide +kernel) (by decide +kernel) (fun _ => ?_) (fun _ => ?_)
    · refine J_aload_n (k0 := 0) (pc := 29) 2 hX (by decide +kernel) rfl rfl ?_
      refine J_iload_n (k0 := 1) (pc := 30) 3 hX (by decide +kernel) rfl rfl ?_
      refine J_iload_n (k0 := 2) (pc := 31) 1 hX (by decide +kernel) rfl rfl ?_
      refine J_iload_n (k0 := 3) (pc := 32) 0 hX (by decide +kernel) rfl rfl ?_
      refine J_cSi (pc := 33) (idx := 95) [.ref (G.2.2.2.2.2 (bi + 2)), .int v1, .int (jmax v2 0), .int (jmin v3 (Int32.ofNat (Zlen.getD bi 0)))] hX (by decide +kernel) (mq mt_3 198 (by decide +kernel)) mv_Jl_indexOfChar rfl rfl (Nat.le_of_ble_eq_true rfl) (Nat.le_of_ble_eq_true rfl) (c_Jl_indexOfChar hbi v1 (jmax v2 0) (jmin v3 (Int32.ofNat (Zlen.getD bi 0))) μ1) (fun x4 μ3 => ?_)
      exact J_iret (pc := 36) hX (by decide +kernel) rfl trivial
    · refine J_iconst (pc := 27) (n := -1) (v := (-1)) hX (by decide +kernel) (by decide +kernel) ?_
      exact J_iret (pc := 28) hX (by decide +kernel) rfl trivial
  · refine J_iconst (pc := 7) (n := -1) (v := (-1)) hX (by decide +kernel) (by decide +kernel) ?_
    exact J_iret (pc := 8) hX (by decide +kernel) rfl trivial
set_option maxRecDepth 100000 in
set_option maxHeartbeats 4000000 in
theorem c_Jl_indexOf {l : Launch} {G : Gx} {y : Ly} {bi : Nat} (hbi : bi < 2) (v1 : Int32) (v2 : Int32) (v3 : Int32) (μ : Mu) : Cn l G ⟨"java/lang/StringLatin1", "indexOf", "([BIII)I"⟩ prog_18_method_22_code 4 (some .int) 3 [.ref (G.2.2.2.2.2 (bi + 2)), .int v1, .int v2, .int v3] (μ, y) (emy y) rvI tpT (Jl_indexOf bi v1 v2 v3 μ) := cn_of (by decide +kernel) (Nat.le_of_ble_eq_true rfl) (fun _ _ _ => ⟨List.prefix_refl _, trivial⟩) (fun X hX _ => jJl_indexOf hbi hX v1 v2 v3 μ)

def Js_indexOf2 (si : Nat) (v1 : Int32) (v2 : Int32) (μ : Mu) : Option (Int32 × Mu) := cl (Js_isLatin1 si μ) (fun x2 μ1 => (if x2 = 0 then cl (Js_length si μ1) (fun x4 μ3 => none) else cl (Js_length si μ1) (fun x6 μ5 => cl (Jl_indexOf si v1 v2 x6 μ5) (fun x8 μ7 => some (x8, μ7)))))
set_option maxRecDepth 100000 in
set_option maxHeartbeats 4000000 in
theorem jJs_indexOf2 {X : Cx} {l : Launch} {G : Gx} {y : Ly} {si : Nat} (hsi : si < 2) (hX : Ok X l G prog_17_method_80_code 3 (some .int) "java/lang/String") (v1 : Int32) (v2 : Int32) (μ : Mu) : J X G 3 7 y (emy y) rvI tpT 0 [(0, .ref (G.2.2.2.2.2 si)), (1, .int v1), (2, .int v2)] [] (μ, y) (Js_indexOf2 si v1 v2 μ) := by
  unfold Js_indexOf2
  refine J_aload_n (k0 := 0) (pc := 0) 0 hX (by decide +kernel) rfl rfl ?_
  refine J_cZi (pc := 1) (idx := 492) [] hsi hX (by decide +kernel) (mq mt_3 146 (by decide +kernel)) mv_Js_isLatin1 rfl rfl (Nat.le_of_ble_eq_true rfl) (Nat.le_of_ble_eq_true rfl) (c_Js_isLatin1 hsi μ) (fun x2 μ1 => ?_)
  refine J_if_eq (pc := 4) (off := 19) (tgt := 23) hX (by decide +kernel) (by decide +kernel) (fun _ => ?_) (fun _ => ?_)
  · refine J_aload_n (k0 := 0) (pc := 23) 0 hX (by decide +kernel) rfl rfl ?_
    refine J_sVal (pc := 24) (idx := 9) hsi hX (by decide +kernel) (mq mt_9 30 (by decide +kernel)) ?_
    refine J_iload_n (k0 := 1) (pc := 27) 1 hX (by decide +kernel) rfl rfl ?_
    refine J_iload_n (k0 := 2) (pc := 28) 2 hX (by decide +kernel) rfl rfl ?_
    refine J_aload_n (k0 := 0) (pc := 29) 0 hX (by decide +kernel) rfl rfl ?_
    refine J_cZi (pc := 30) (idx := 505) [] hsi hX (by decide +kernel) (mq mt_3 189 (by decide +kernel)) mv_Js_length rfl rfl (Nat.le_of_ble_eq_true rfl) (Nat.le_of_ble_eq_true rfl) (c_Js_length hsi μ1) (fun x4 μ3 => ?_)
    exact J_none
  · refine J_aload_n (k0 := 0) (pc := 7) 0 hX (by decide +kernel) rfl rfl ?_
    refine J_sVal (pc := 8) (idx := 9) hsi hX (by decide +kernel) (mq mt_9 30 (by decide +kernel)) ?_
    refine J_iload_n (k0 := 1) (pc := 11) 1 hX (by decide +kernel) rfl rfl ?_
    refine J_iload_n (k0 := 2) (pc := 12) 2 hX (by decide +kernel) rfl rfl ?_
    refine J_aload_n (k0 := 0) (pc := 13) 0 hX (by decide +kernel) rfl rfl ?_
    refine J_cZi (pc := 14) (idx := 505) [] hsi hX (by decide +kernel) (mq mt_3 189 (by decide +kernel)) mv_Js_length rfl rfl (Nat.le_of_ble_eq_true rfl) (Nat.le_of_ble_eq_true rfl) (c_Js_length hsi μ1) (fun x6 μ5 => ?_)
    refine J_cSi (pc := 17) (idx := 637) [.ref (G.2.2.2.2.2 (si + 2)), .int v1, .int v2, .int x6] hX (by decide +kernel) (mq mt_3 190 (by decide +kernel)) mv_Jl_indexOf rfl rfl (Nat.le_of_ble_eq_true rfl) (Nat.le_of_ble_eq_true rfl) (c_Jl_indexOf hsi v1 v2 x6 μ5) (fun x8 μ7 => ?_)
    refine J_goto (pc := 20) (off := 16) (tgt := 36) hX (by decide +kernel) (by decide +kernel) ?_
    exact J_iret (pc := 36) hX (by decide +kernel) rfl trivial
set_option maxRecDepth 100000 in
set_option maxHeartbeats 4000000 in
theorem c_Js_indexOf2 {l : Launch} {G : Gx} {y : Ly} {si : Nat} (hsi : si < 2) (v1 : Int32) (v2 : Int32) (μ : Mu) : Cn l G ⟨"java/lang/String", "indexOf", "(II)I"⟩ prog_17_method_80_code 3 (some .int) 7 [.ref (G.2.2.2.2.2 si), .int v1, .int v2] (μ, y) (emy y) rvI tpT (Js_indexOf2 si v1 v2 μ) := cn_of (by decide +kernel) (Nat.le_of_ble_eq_true rfl) (fun _ _ _ => ⟨List.prefix_refl _, trivial⟩) (fun X hX _ => jJs_indexOf2 hsi hX v1 v2 μ)

def Js_indexOf1 (si : Nat) (v1 : Int32) (μ : Mu) : Option (Int32 × Mu) := cl (Js_indexOf2 si v1 0 μ) (fun x2 μ1 => some (x2, μ1))
set_option maxRecDepth 100000 in
set_option maxHeartbeats 4000000 in
theorem jJs_indexOf1 {X : Cx} {l : Launch} {G : Gx} {y : Ly} {si : Nat} (hsi : si < 2) (hX : Ok X l G prog_17_method_79_code 2 (some .int) "java/lang/String") (v1 : Int32) (μ : Mu) : J X G 2 8 y (emy y) rvI tpT 0 [(0, .ref (G.2.2.2.2.2 si)), (1, .int v1)] [] (μ, y) (Js_indexOf1 si v1 μ) := by
  unfold Js_indexOf1
  refine J_aload_n (k0 := 0) (pc := 0) 0 hX (by decide +kernel) rfl rfl ?_
  refine J_iload_n (k0 := 1) (pc := 1) 1 hX (by decide +kernel) rfl rfl ?_
  refine J_iconst (pc := 2) (n := 0) (v := 0) hX (by decide +kernel) (by decide +kernel) ?_
  refine J_cZi (pc := 3) (idx := 633) [.int v1, .int 0] hsi hX (by decide +kernel) (mq mt_3 185 (by decide +kernel)) mv_Js_indexOf2 rfl rfl (Nat.le_of_ble_eq_true rfl) (Nat.le_of_ble_eq_true rfl) (c_Js_indexOf2 hsi v1 0 μ) (fun x2 μ1 => ?_)
  exact J_iret (pc := 6) hX (by decide +kernel) rfl trivial
set_option maxRecDepth 100000 in
set_option maxHeartbeats 4000000 in
theorem c_Js_indexOf1 {l : Launch} {G : Gx} {y : Ly} {si : Nat} (hsi : si < 2) (v1 : Int32) (μ : Mu) : Cn l G ⟨"java/lang/String", "indexOf", "(I)I"⟩ prog_17_method_79_code 2 (some .int) 8 [.ref (G.2.2.2.2.2 si), .int v1] (μ, y) (emy y) rvI tpT (Js_indexOf1 si v1 μ) := cn_of (by decide +kernel) (Nat.le_of_ble_eq_true rfl) (fun _ _ _ => ⟨List.prefix_refl _, trivial⟩) (fun X hX _ => jJs_indexOf1 hsi hX v1 μ)

def Rd_next_86 (a : Nat)     (μ : Mu) : Option (Unit × Mu) := pF μ a 3 0 (fun μ1 => some ((), μ1))
def Rd_next_291 (a : Nat)    (s0 : Int32) (μ : Mu) : Option (Unit × Mu) := pF μ a 3 s0 (fun μ1 => some ((), μ1))
def Rd_next_263 (a : Nat)     (μ : Mu) : Option (Unit × Mu) := cl (Rd_keyword a μ) (fun x2 μ1 => pF μ1 a 3 x2 (fun μ3 => some ((), μ3)))
def Rd_next_224b (a : Nat)  (kb224 : Mu → Option (Unit × Mu))    (μ : Mu) : Option (Unit × Mu) := gF μ a 6 (fun x1 => gF μ a 2 (fun x2 => (if x2 ≤ x1 then Rd_next_263 a μ else gF μ a 6 (fun x3 => ldA μ (a + 1) 400 x3 (fun x4 => cl (Rd_isLetter x4 μ) (fun x6 μ5 => (if x6 = 0 then Rd_next_263 a μ5 else gF μ5 a 6 (fun x7 => pF μ5 a 6 (x7 + 1) (fun μ8 => kb224 μ8)))))))))
def Rd_next_224 (a : Nat)   (fu : Nat) : Mu → Option (Unit × Mu) := lp (fun kb => Rd_next_224b a  kb ) (fun _ => none) fu
def Rd_next_211 (a : Nat)    (s0 : Int32) (μ : Mu) : Option (Unit × Mu) := pF μ a 3 s0 (fun μ1 => some ((), μ1))
def Rd_next_190 (a : Nat)     (μ : Mu) : Option (Unit × Mu) := gF μ a 6 (fun x1 => gF μ a 5 (fun x2 => (if (x1 - x2) ≤ 4 then Rd_next_211 a 30 μ else Rd_next_211 a 31 μ)))
def Rd_next_127b (a : Nat)  (kb127 : Mu → Option (Unit × Mu))    (μ : Mu) : Option (Unit × Mu) := gF μ a 6 (fun x1 => gF μ a 2 (fun x2 => (if x2 ≤ x1 then Rd_next_190 a μ else gF μ a 6 (fun x3 => ldA μ (a + 1) 400 x3 (fun x4 => cl (Rd_isDigit x4 μ) (fun x6 μ5 => (if x6 = 0 then Rd_next_190 a μ5 else gF μ5 a 4 (fun x7 => gF μ5 a 6 (fun x8 => ldA μ5 (a + 1) 400 x8 (fun x9 => pF μ5 a 4 (((x7 * 10) + x9) - 48) (fun μ10 => gF μ10 a 6 (fun x11 => pF μ10 a 6 (x11 + 1) (fun μ12 => kb127 μ12)))))))))))))
def Rd_next_127 (a : Nat)   (fu : Nat) : Mu → Option (Unit × Mu) := lp (fun kb => Rd_next_127b a  kb ) (fun _ => none) fu
def Rd_next_60 (a : Nat)     (μ : Mu) : Option (Unit × Mu) := gF μ a 5 (fun x1 => pF μ a 6 x1 (fun μ2 => gF μ2 a 5 (fun x3 => gF μ2 a 2 (fun x4 => (if x4 ≤ x3 then Rd_next_86 a μ2 else gF μ2 a 8 (fun x5 => (if x5 = 0 then gF μ2 a 5 (fun x6 => ldA μ2 (a + 1) 400 x6 (fun x7 => gF μ2 a 6 (fun x8 => pF μ2 a 6 (x8 + 1) (fun μ9 => cl (Rd_isDigit x7 μ9) (fun x11 μ10 => (if x11 = 0 then cl (Rd_isLetter x7 μ10) (fun x13 μ12 => (if x13 = 0 then cl (Js_indexOf1 1 (ji2c x7) μ12) (fun x15 μ14 => (if x15 < 0 then Rd_next_291 a 31 μ14 else Rd_next_291 a x7 μ14)) else Rd_next_224 a FU μ12)) else pF μ10 a 4 (x7 - 48) (fun μ16 => Rd_next_127 a FU μ16))))))) else Rd_next_86 a μ2)))))))
def Rd_next_47 (a : Nat) (kb8 : Mu → Option (Unit × Mu))    (μ : Mu) : Option (Unit × Mu) := gF μ a 5 (fun x1 => pF μ a 5 (x1 + 1) (fun μ2 => kb8 μ2))
def Rd_next_8b (a : Nat)  (kb8 : Mu → Option (Unit × Mu))    (μ : Mu) : Option (Unit × Mu) := gF μ a 5 (fun x1 => gF μ a 2 (fun x2 => (if x2 ≤ x1 then Rd_next_60 a μ else gF μ a 5 (fun x3 => ldA μ (a + 1) 400 x3 (fun x4 => (if x4 = 32 then Rd_next_47 a kb8 μ else gF μ a 5 (fun x5 => ldA μ (a + 1) 400 x5 (fun x6 => (if x6 = 10 then Rd_next_47 a kb8 μ else Rd_next_60 a μ)))))))))
def Rd_next_8 (a : Nat)   (fu : Nat) : Mu → Option (Unit × Mu) := lp (fun kb => Rd_next_8b a  kb ) (fun _ => none) fu
def Rd_next (a : Nat)  (μ : Mu) : Option (Unit × Mu) := gF μ a 6 (fun x1 => pF μ a 5 x1 (fun μ2 => Rd_next_8 a FU μ2))
set_option maxRecDepth 100000 in
set_option maxHeartbeats 4000000 in
theorem jRd_next_86 {X : Cx} {l : Launch} {G : Gx} {y : Ly} {a : Nat} (hL : LyRd y a ) (hX : Ok X l G prog_6_method_6_code 2 none "SaltFigures$Reader")      (μ : Mu) : J X G 2 10 y (emy y) rvV tpT 86 [(0, .ref (G.1 + a))] [] (μ, y) (Rd_next_86 a     μ) := by
  unfold Rd_next_86
  refine J_aload_n (k0 := 0) (pc := 86) 0 hX (by decide +kernel) rfl rfl ?_
  refine J_iconst (pc := 87) (n := 0) (v := 0) hX (by decide +kernel) (by decide +kernel) ?_
  refine J_pF (pc := 88) hX (by decide +kernel) fl_Rd_53 hL.1 rfl (fun μ1 => ?_)
  exact J_vret (pc := 91) hX (by decide +kernel) rfl trivial
set_option maxRecDepth 100000 in
set_option maxHeartbeats 4000000 in
theorem jRd_next_291 {X : Cx} {l : Launch} {G : Gx} {y : Ly} {a : Nat} (hL : LyRd y a ) (hX : Ok X l G prog_6_method_6_code 2 none "SaltFigures$Reader")   (s0 : Int32)   (μ : Mu) : J X G 2 10 y (emy y) rvV tpT 291 [] [.int s0, .ref (G.1 + a)] (μ, y) (Rd_next_291 a    s0 μ) := by
  unfold Rd_next_291
  refine J_pF (pc := 291) hX (by decide +kernel) fl_Rd_53 hL.1 rfl (fun μ1 => ?_)
  exact J_vret (pc := 294) hX (by decide +kernel) rfl trivial
set_option maxRecDepth 100000 in
set_option maxHeartbeats 4000000 in
theorem jRd_next_263 {X : Cx} {l : Launch} {G : Gx} {y : Ly} {a : Nat} (hL : LyRd y a ) (hX : Ok X l G prog_6_method_6_code 2 none "SaltFigures$Reader")      (μ : Mu) : J X G 2 10 y (emy y) rvV tpT 263 [(0, .ref (G.1 + a))] [] (μ, y) (Rd_next_263 a     μ) := by
  unfold Rd_next_263
  refine J_aload_n (k0 := 0) (pc := 263) 0 hX (by decide +kernel) rfl rfl ?_
  refine J_aload_n (k0 := 0) (pc := 264) 0 hX (by decide +kernel) rfl rfl ?_
  refine J_cVi (pc := 265) (idx := 66) [] hX (by decide +kernel) (mq mt_3 127 (by decide +kernel)) mv_Rd_keyword hL.1 rfl rfl (Nat.le_of_ble_eq_true rfl) (Nat.le_of_ble_eq_true rfl) (c_Rd_keyword hL μ) (fun x2 μ1 => ?_)
  refine J_pF (pc := 268) hX (by decide +kernel) fl_Rd_53 hL.1 rfl (fun μ3 => ?_)
  refine J_goto (pc := 271) (off := 23) (tgt := 294) hX (by decide +kernel) (by decide +kernel) ?_
  exact J_vret (pc := 294) hX (by decide +kernel) rfl trivial
set_option maxRecDepth 100000 in
set_option maxHeartbeats 4000000 in
theorem jRd_next_224b {X : Cx} {l : Launch} {G : Gx} {y : Ly} {a : Nat} (hL : LyRd y a ) (hX : Ok X l G prog_6_method_6_code 2 none "SaltFigures$Reader")   {kb224 : Mu → Option (Unit × Mu)}  (hk224 : ∀  (μ : Mu), J X G 2 10 y (emy y) rvV tpT 224 [(0, .ref (G.1 + a))] [] (μ, y) (kb224  μ)) (μ : Mu) : J X G 2 10 y (emy y) rvV tpT 224 [(0, .ref (G.1 + a))] [] (μ, y) (Rd_next_224b a  kb224    μ) := by
  unfold Rd_next_224b
  refine J_aload_n (k0 := 0) (pc := 224) 0 hX (by decide +kernel) rfl rfl ?_
  refine J_gF (pc := 225) hX (by decide +kernel) fl_Rd_44 hL.1 rfl (fun x1 => ?_)
  refine J_aload_n (k0 := 0) (pc := 228) 0 hX (by decide +kernel) rfl rfl ?_
  refine J_gF (pc := 229) hX (by decide +kernel) fl_Rd_35 hL.1 rfl (fun x2 => ?_)
  refine J_icmp_ge (pc := 232) (off := 31) (tgt := 263) hX (by decide +kernel) (by decide +kernel) (fun _ => ?_) (fun _ => ?_)
  · exact J_sub [0] _ rfl (jRd_next_263 hL hX μ)
  · refine J_aload_n (k0 := 0) (pc := 235) 0 hX (by decide +kernel) rfl rfl ?_
    refine J_gr (pc := 236) hX (by decide +kernel) fl_Rd_9 hL.1 rfl hL.2.1.1 ?_
    refine J_aload_n (k0 := 0) (pc := 239) 0 hX (by decide +kernel) rfl rfl ?_
    refine J_gF (pc := 240) hX (by decide +kernel) fl_Rd_44 hL.1 rfl (fun x3 => ?_)
    refine J_ldA (pc := 243) hX (by decide +kernel) hL.2.1.2 (fun x4 => ?_)
    refine J_cSi (pc := 244) (idx := 63) [.int x4] hX (by decide +kernel) (mq mt_3 124 (by decide +kernel)) mv_Rd_isLetter rfl rfl (Nat.le_of_ble_eq_true rfl) (Nat.le_of_ble_eq_true rfl) (c_Rd_isLetter x4 μ) (fun x6 μ5 => ?_)
    refine J_if_eq (pc := 247) (off := 16) (tgt := 263) hX (by decide +kernel) (by decide +kernel) (fun _ => ?_) (fun _ => ?_)
    · exact J_sub [0] _ rfl (jRd_next_263 hL hX μ5)
    · refine J_aload_n (k0 := 0) (pc := 250) 0 hX (by decide +kernel) rfl rfl ?_
      refine J_dup (pc := 251) hX (by decide +kernel) rfl ?_
      refine J_gF (pc := 252) hX (by decide +kernel) fl_Rd_44 hL.1 rfl (fun x7 => ?_)
      refine J_iconst (pc := 255) (n := 1) (v := 1) hX (by decide +kernel) (by decide +kernel) ?_
      refine J_iadd (pc := 256) hX (by decide +kernel) ?_
      refine J_pF (pc := 257) hX (by decide +kernel) fl_Rd_44 hL.1 rfl (fun μ8 => ?_)
      refine J_goto (pc := 260) (off := -36) (tgt := 224) hX (by decide +kernel) (by decide +kernel) ?_
      exact J_sub [0] _ rfl (hk224 μ8)
set_option maxRecDepth 100000 in
set_option maxHeartbeats 4000000 in
theorem jRd_next_224 {X : Cx} {l : Launch} {G : Gx} {y : Ly} {a : Nat} (hL : LyRd y a ) (hX : Ok X l G prog_6_method_6_code 2 none "SaltFigures$Reader")    : ∀ (fu : Nat)  (μ : Mu), J X G 2 10 y (emy y) rvV tpT 224 [(0, .ref (G.1 + a))] [] (μ, y) (Rd_next_224 a   fu  μ) := by
  intro fu
  induction fu with
  | zero => intros; exact J_none
  | succ fu ih => intro  μ; exact jRd_next_224b hL hX   ih  μ
set_option maxRecDepth 100000 in
set_option maxHeartbeats 4000000 in
theorem jRd_next_211 {X : Cx} {l : Launch} {G : Gx} {y : Ly} {a : Nat} (hL : LyRd y a ) (hX : Ok X l G prog_6_method_6_code 2 none "SaltFigures$Reader")   (s0 : Int32)   (μ : Mu) : J X G 2 10 y (emy y) rvV tpT 211 [] [.int s0, .ref (G.1 + a)] (μ, y) (Rd_next_211 a    s0 μ) := by
  unfold Rd_next_211
  refine J_pF (pc := 211) hX (by decide +kernel) fl_Rd_53 hL.1 rfl (fun μ1 => ?_)
  refine J_goto (pc := 214) (off := 80) (tgt := 294) hX (by decide +kernel) (by decide +kernel) ?_
  exact J_vret (pc := 294) hX (by decide +kernel) rfl trivial
set_option maxRecDepth 100000 in
set_option maxHeartbeats 4000000 in
theorem jRd_next_190 {X : Cx} {l : Launch} {G : Gx} {y : Ly} {a : Nat} (hL : LyRd y a ) (hX : Ok X l G prog_6_method_6_code 2 none "SaltFigures$Reader")      (μ : Mu) : J X G 2 10 y (emy y) rvV tpT 190 [(0, .ref (G.1 + a))] [] (μ, y) (Rd_next_190 a     μ) := by
  unfold Rd_next_190
  refine J_aload_n (k0 := 0) (pc := 190) 0 hX (by decide +kernel) rfl rfl ?_
  refine J_aload_n (k0 := 0) (pc := 191) 0 hX (by decide +kernel) rfl rfl ?_
  refine J_gF (pc := 192) hX (by decide +kernel) fl_Rd_44 hL.1 rfl (fun x1 => ?_)
  refine J_aload_n (k0 := 0) (pc := 195) 0 hX (by decide +kernel) rfl rfl ?_
  refine J_gF (pc := 196) hX (by decide +kernel) fl_Rd_50 hL.1 rfl (fun x2 => ?_)
  refine J_isub (pc := 199) hX (by decide +kernel) ?_
  refine J_iconst (pc := 200) (n := 4) (v := 4) hX (by decide +kernel) (by decide +kernel) ?_
  refine J_icmp_le (pc := 201) (off := 8) (tgt := 209) hX (by decide +kernel) (by decide +kernel) (fun _ => ?_) (fun _ => ?_)
  · refine J_bipush (pc := 209) (n := 30) (v := 30) hX (by decide +kernel) (by decide +kernel) ?_
    exact J_sub [] _ rfl (jRd_next_211 hL hX 30 μ)
  · refine J_bipush (pc := 204) (n := 31) (v := 31) hX (by decide +kernel) (by decide +kernel) ?_
    refine J_goto (pc := 206) (off := 5) (tgt := 211) hX (by decide +kernel) (by decide +kernel) ?_
    exact J_sub [] _ rfl (jRd_next_211 hL hX 31 μ)
set_option maxRecDepth 100000 in
set_option maxHeartbeats 4000000 in
theorem jRd_next_127b {X : Cx} {l : Launch} {G : Gx} {y : Ly} {a : Nat} (hL : LyRd y a ) (hX : Ok X l G prog_6_method_6_code 2 none "SaltFigures$Reader")   {kb127 : Mu → Option (Unit × Mu)}  (hk127 : ∀  (μ : Mu), J X G 2 10 y (emy y) rvV tpT 127 [(0, .ref (G.1 + a))] [] (μ, y) (kb127  μ)) (μ : Mu) : J X G 2 10 y (emy y) rvV tpT 127 [(0, .ref (G.1 + a))] [] (μ, y) (Rd_next_127b a  kb127    μ) := by
  unfold Rd_next_127b
  refine J_aload_n (k0 := 0) (pc := 127) 0 hX (by decide +kernel) rfl rfl ?_
  refine J_gF (pc := 128) hX (by decide +kernel) fl_Rd_44 hL.1 rfl (fun x1 => ?_)
  refine J_aload_n (k0 := 0) (pc := 131) 0 hX (by decide +kernel) rfl rfl ?_
  refine J_gF (pc := 132) hX (by decide +kernel) fl_Rd_35 hL.1 rfl (fun x2 => ?_)
  refine J_icmp_ge (pc := 135) (off := 55) (tgt := 190) hX (by decide +kernel) (by decide +kernel) (fun _ => ?_) (fun _ => ?_)
  · exact J_sub [0] _ rfl (jRd_next_190 hL hX μ)
  · refine J_aload_n (k0 := 0) (pc := 138) 0 hX (by decide +kernel) rfl rfl ?_
    refine J_gr (pc := 139) hX (by decide +kernel) fl_Rd_9 hL.1 rfl hL.2.1.1 ?_
    refine J_aload_n (k0 := 0) (pc := 142) 0 hX (by decide +kernel) rfl rfl ?_
    refine J_gF (pc := 143) hX (by decide +kernel) fl_Rd_44 hL.1 rfl (fun x3 => ?_)
    refine J_ldA (pc := 146) hX (by decide +kernel) hL.2.1.2 (fun x4 => ?_)
    refine J_cSi (pc := 147) (idx := 56) [.int x4] hX (by decide +kernel) (mq mt_3 121 (by decide +kernel)) mv_Rd_isDigit rfl rfl (Nat.le_of_ble_eq_true rfl) (Nat.le_of_ble_eq_true rfl) (c_Rd_isDigit x4 μ) (fun x6 μ5 => ?_)
    refine J_if_eq (pc := 150) (off := 40) (tgt := 190) hX (by decide +kernel) (by decide +kernel) (fun _ => ?_) (fun _ => ?_)
    · exact J_sub [0] _ rfl (jRd_next_190 hL hX μ5)
    · refine J_aload_n (k0 := 0) (pc := 153) 0 hX (by decide +kernel) rfl rfl ?_
      refine J_aload_n (k0 := 0) (pc := 154) 0 hX (by decide +kernel) rfl rfl ?_
      refine J_gF (pc := 155) hX (by decide +kernel) fl_Rd_60 hL.1 rfl (fun x7 => ?_)
      refine J_bipush (pc := 158) (n := 10) (v := 10) hX (by decide +kernel) (by decide +kernel) ?_
      refine J_imul (pc := 160) hX (by decide +kernel) ?_
      refine J_aload_n (k0 := 0) (pc := 161) 0 hX (by decide +kernel) rfl rfl ?_
      refine J_gr (pc := 162) hX (by decide +kernel) fl_Rd_9 hL.1 rfl hL.2.1.1 ?_
      refine J_aload_n (k0 := 0) (pc := 165) 0 hX (by decide +kernel) rfl rfl ?_
      refine J_gF (pc := 166) hX (by decide +kernel) fl_Rd_44 hL.1 rfl (fun x8 => ?_)
      refine J_ldA (pc := 169) hX (by decide +kernel) hL.2.1.2 (fun x9 => ?_)
      refine J_iadd (pc := 170) hX (by decide +kernel) ?_
      refine J_bipush (pc := 171) (n := 48) (v := 48) hX (by decide +kernel) (by decide +kernel) ?_
      refine J_isub (pc := 173) hX (by decide +kernel) ?_
      refine J_pF (pc := 174) hX (by decide +kernel) fl_Rd_60 hL.1 rfl (fun μ10 => ?_)
      refine J_aload_n (k0 := 0) (pc := 177) 0 hX (by decide +kernel) rfl rfl ?_
      refine J_dup (pc := 178) hX (by decide +kernel) rfl ?_
      refine J_gF (pc := 179) hX (by decide +kernel) fl_Rd_44 hL.1 rfl (fun x11 => ?_)
      refine J_iconst (pc := 182) (n := 1) (v := 1) hX (by decide +kernel) (by decide +kernel) ?_
      refine J_iadd (pc := 183) hX (by decide +kernel) ?_
      refine J_pF (pc := 184) hX (by decide +kernel) fl_Rd_44 hL.1 rfl (fun μ12 => ?_)
      refine J_goto (pc := 187) (off := -60) (tgt := 127) hX (by decide +kernel) (by decide +kernel) ?_
      exact J_sub [0] _ rfl (hk127 μ12)
set_option maxRecDepth 100000 in
set_option maxHeartbeats 4000000 in
theorem jRd_next_127 {X : Cx} {l : Launch} {G : Gx} {y : Ly} {a : Nat} (hL : LyRd y a ) (hX : Ok X l G prog_6_method_6_code 2 none "SaltFigures$Reader")    : ∀ (fu : Nat)  (μ : Mu), J X G 2 10 y (emy y) rvV tpT 127 [(0, .ref (G.1 + a))] [] (μ, y) (Rd_next_127 a   fu  μ) := by
  intro fu
  induction fu with
  | zero => intros; exact J_none
  | succ fu ih => intro  μ; exact jRd_next_127b hL hX   ih  μ
set_option maxRecDepth 100000 in
set_option maxHeartbeats 4000000 in
theorem jRd_next_60 {X : Cx} {l : Launch} {G : Gx} {y : Ly} {a : Nat} (hL : LyRd y a ) (hX : Ok X l G prog_6_method_6_code 2 none "SaltFigures$Reader")      (μ : Mu) : J X G 2 10 y (emy y) rvV tpT 60 [(0, .ref (G.1 + a))] [] (μ, y) (Rd_next_60 a     μ) := by
  unfold Rd_next_60
  refine J_aload_n (k0 := 0) (pc := 60) 0 hX (by decide +kernel) rfl rfl ?_
  refine J_aload_n (k0 := 0) (pc := 61) 0 hX (by decide +kernel) rfl rfl ?_
  refine J_gF (pc := 62) hX (by decide +kernel) fl_Rd_50 hL.1 rfl (fun x1 => ?_)
  refine J_pF (pc := 65) hX (by decide +kernel) fl_Rd_44 hL.1 rfl (fun μ2 => ?_)
  refine J_aload_n (k0 := 0) (pc := 68) 0 hX (by decide +kernel) rfl rfl ?_
  refine J_gF (pc := 69) hX (by decide +kernel) fl_Rd_50 hL.1 rfl (fun x3 => ?_)
  refine J_aload_n (k0 := 0) (pc := 72) 0 hX (by decide +kernel) rfl rfl ?_
  refine J_gF (pc := 73) hX (by decide +kernel) fl_Rd_35 hL.1 rfl (fun x4 => ?_)
  refine J_icmp_ge (pc := 76) (off := 10) (tgt := 86) hX (by decide +kernel) (by decide +kernel) (fun _ => ?_) (fun _ => ?_)
  · exact J_sub [0] _ rfl (jRd_next_86 hL hX μ2)
  · refine J_aload_n (k0 := 0) (pc := 79) 0 hX (by decide +kernel) rfl rfl ?_
    refine J_gF (pc := 80) hX (by decide +kernel) fl_Rd_38 hL.1 rfl (fun x5 => ?_)
    refine J_if_eq (pc := 83) (off := 9) (tgt := 92) hX (by decide +kernel) (by decide +kernel) (fun _ => ?_) (fun _ => ?_)
    · refine J_aload_n (k0 := 0) (pc := 92) 0 hX (by decide +kernel) rfl rfl ?_
      refine J_gr (pc := 93) hX (by decide +kernel) fl_Rd_9 hL.1 rfl hL.2.1.1 ?_
      refine J_aload_n (k0 := 0) (pc := 96) 0 hX (by decide +kernel) rfl rfl ?_
      refine J_gF (pc := 97) hX (by decide +kernel) fl_Rd_50 hL.1 rfl (fun x6 => ?_)
      refine J_ldA (pc := 100) hX (by decide +kernel) hL.2.1.2 (fun x7 => ?_)
      refine J_istore_n (k0 := 1) (pc := 101) [(1, .int x7), (0, .ref (G.1 + a))] hX (by decide +kernel) rfl (by decide) rfl ?_
      refine J_aload_n (k0 := 0) (pc := 102) 1 hX (by decide +kernel) rfl rfl ?_
      refine J_dup (pc := 103) hX (by decide +kernel) rfl ?_
      refine J_gF (pc := 104) hX (by decide +kernel) fl_Rd_44 hL.1 rfl (fun x8 => ?_)
      refine J_iconst (pc := 107) (n := 1) (v := 1) hX (by decide +kernel) (by decide +kernel) ?_
      refine J_iadd (pc := 108) hX (by decide +kernel) ?_
      refine J_pF (pc := 109) hX (by decide +kernel) fl_Rd_44 hL.1 rfl (fun μ9 => ?_)
      refine J_iload_n (k0 := 1) (pc := 112) 0 hX (by decide +kernel) rfl rfl ?_
      refine J_cSi (pc := 113) (idx := 56) [.int x7] hX (by decide +kernel) (mq mt_3 121 (by decide +kernel)) mv_Rd_isDigit rfl rfl (Nat.le_of_ble_eq_true rfl) (Nat.le_of_ble_eq_true rfl) (c_Rd_isDigit x7 μ9) (fun x11 μ10 => ?_)
      refine J_if_eq (pc := 116) (off := 101) (tgt := 217) hX (by decide +kernel) (by decide +kernel) (fun _ => ?_) (fun _ => ?_)
      · refine J_iload_n (k0 := 1) (pc := 217) 0 hX (by decide +kernel) rfl rfl ?_
        refine J_cSi (pc := 218) (idx := 63) [.int x7] hX (by decide +kernel) (mq mt_3 124 (by decide +kernel)) mv_Rd_isLetter rfl rfl (Nat.le_of_ble_eq_true rfl) (Nat.le_of_ble_eq_true rfl) (c_Rd_isLetter x7 μ10) (fun x13 μ12 => ?_)
        refine J_if_eq (pc := 221) (off := 53) (tgt := 274) hX (by decide +kernel) (by decide +kernel) (fun _ => ?_) (fun _ => ?_)
        · refine J_aload_n (k0 := 0) (pc := 274) 1 hX (by decide +kernel) rfl rfl ?_
          refine J_ldcG (pc := 275) hX (by decide +kernel) ?_
          refine J_iload_n (k0 := 1) (pc := 277) 0 hX (by decide +kernel) rfl rfl ?_
          refine J_i2c (pc := 278) hX (by decide +kernel) rfl ?_
          refine J_cZi (pc := 279) (idx := 72) [.int (ji2c x7)] (by decide) hX (by decide +kernel) (mq mt_3 181 (by decide +kernel)) mv_Js_indexOf1 rfl rfl (Nat.le_of_ble_eq_true rfl) (Nat.le_of_ble_eq_true rfl) (c_Js_indexOf1 ((by decide)) (ji2c x7) μ12) (fun x15 μ14 => ?_)
          refine J_if_lt (pc := 282) (off := 7) (tgt := 289) hX (by decide +kernel) (by decide +kernel) (fun _ => ?_) (fun _ => ?_)
          · refine J_bipush (pc := 289) (n := 31) (v := 31) hX (by decide +kernel) (by decide +kernel) ?_
            exact J_sub [] _ rfl (jRd_next_291 hL hX 31 μ14)
          · refine J_iload_n (k0 := 1) (pc := 285) 0 hX (by decide +kernel) rfl rfl ?_
            refine J_goto (pc := 286) (off := 5) (tgt := 291) hX (by decide +kernel) (by decide +kernel) ?_
            exact J_sub [] _ rfl (jRd_next_291 hL hX x7 μ14)
        · exact J_sub [1] _ rfl (jRd_next_224 hL hX FU μ12)
      · refine J_aload_n (k0 := 0) (pc := 119) 1 hX (by decide +kernel) rfl rfl ?_
        refine J_iload_n (k0 := 1) (pc := 120) 0 hX (by decide +kernel) rfl rfl ?_
        refine J_bipush (pc := 121) (n := 48) (v := 48) hX (by decide +kernel) (by decide +kernel) ?_
        refine J_isub (pc := 123) hX (by decide +kernel) ?_
        refine J_pF (pc := 124) hX (by decide +kernel) fl_Rd_60 hL.1 rfl (fun μ16 => ?_)
        exact J_sub [1] _ rfl (jRd_next_127 hL hX FU μ16)
    · exact J_sub [0] _ rfl (jRd_next_86 hL hX μ2)
set_option maxRecDepth 100000 in
set_option maxHeartbeats 4000000 in
theorem jRd_next_47 {X : Cx} {l : Launch} {G : Gx} {y : Ly} {a : Nat} (hL : LyRd y a ) (hX : Ok X l G prog_6_method_6_code 2 none "SaltFigures$Reader")    {kb8 : Mu → Option (Unit × Mu)} (hk8 : ∀  (μ : Mu), J X G 2 10 y (emy y) rvV tpT 8 [(0, .ref (G.1 + a))] [] (μ, y) (kb8  μ)) (μ : Mu) : J X G 2 10 y (emy y) rvV tpT 47 [(0, .ref (G.1 + a))] [] (μ, y) (Rd_next_47 a kb8    μ) := by
  unfold Rd_next_47
  refine J_aload_n (k0 := 0) (pc := 47) 0 hX (by decide +kernel) rfl rfl ?_
  refine J_dup (pc := 48) hX (by decide +kernel) rfl ?_
  refine J_gF (pc := 49) hX (by decide +kernel) fl_Rd_50 hL.1 rfl (fun x1 => ?_)
  refine J_iconst (pc := 52) (n := 1) (v := 1) hX (by decide +kernel) (by decide +kernel) ?_
  refine J_iadd (pc := 53) hX (by decide +kernel) ?_
  refine J_pF (pc := 54) hX (by decide +kernel) fl_Rd_50 hL.1 rfl (fun μ2 => ?_)
  refine J_goto (pc := 57) (off := -49) (tgt := 8) hX (by decide +kernel) (by decide +kernel) ?_
  exact J_sub [0] _ rfl (hk8 μ2)
set_option maxRecDepth 100000 in
set_option maxHeartbeats 4000000 in
theorem jRd_next_8b {X : Cx} {l : Launch} {G : Gx} {y : Ly} {a : Nat} (hL : LyRd y a ) (hX : Ok X l G prog_6_method_6_code 2 none "SaltFigures$Reader")   {kb8 : Mu → Option (Unit × Mu)}  (hk8 : ∀  (μ : Mu), J X G 2 10 y (emy y) rvV tpT 8 [(0, .ref (G.1 + a))] [] (μ, y) (kb8  μ)) (μ : Mu) : J X G 2 10 y (emy y) rvV tpT 8 [(0, .ref (G.1 + a))] [] (μ, y) (Rd_next_8b a  kb8    μ) := by
  unfold Rd_next_8b
  refine J_aload_n (k0 := 0) (pc := 8) 0 hX (by decide +kernel) rfl rfl ?_
  refine J_gF (pc := 9) hX (by decide +kernel) fl_Rd_50 hL.1 rfl (fun x1 => ?_)
  refine J_aload_n (k0 := 0) (pc := 12) 0 hX (by decide +kernel) rfl rfl ?_
  refine J_gF (pc := 13) hX (by decide +kernel) fl_Rd_35 hL.1 rfl (fun x2 => ?_)
  refine J_icmp_ge (pc := 16) (off := 44) (tgt := 60) hX (by decide +kernel) (by decide +kernel) (fun _ => ?_) (fun _ => ?_)
  · exact J_sub [0] _ rfl (jRd_next_60 hL hX μ)
  · refine J_aload_n (k0 := 0) (pc := 19) 0 hX (by decide +kernel) rfl rfl ?_
    refine J_gr (pc := 20) hX (by decide +kernel) fl_Rd_9 hL.1 rfl hL.2.1.1 ?_
    refine J_aload_n (k0 := 0) (pc := 23) 0 hX (by decide +kernel) rfl rfl ?_
    refine J_gF (pc := 24) hX (by decide +kernel) fl_Rd_50 hL.1 rfl (fun x3 => ?_)
    refine J_ldA (pc := 27) hX (by decide +kernel) hL.2.1.2 (fun x4 => ?_)
    refine J_bipush (pc := 28) (n := 32) (v := 32) hX (by decide +kernel) (by decide +kernel) ?_
    refine J_icmp_eq (pc := 30) (off := 17) (tgt := 47) hX (by decide +kernel) (by decide +kernel) (fun _ => ?_) (fun _ => ?_)
    · exact J_sub [0] _ rfl (jRd_next_47 hL hX hk8 μ)
    · refine J_aload_n (k0 := 0) (pc := 33) 0 hX (by decide +kernel) rfl rfl ?_
      refine J_gr (pc := 34) hX (by decide +kernel) fl_Rd_9 hL.1 rfl hL.2.1.1 ?_
      refine J_aload_n (k0 := 0) (pc := 37) 0 hX (by decide +kernel) rfl rfl ?_
      refine J_gF (pc := 38) hX (by decide +kernel) fl_Rd_50 hL.1 rfl (fun x5 => ?_)
      refine J_ldA (pc := 41) hX (by decide +kernel) hL.2.1.2 (fun x6 => ?_)
      refine J_bipush (pc := 42) (n := 10) (v := 10) hX (by decide +kernel) (by decide +kernel) ?_
      refine J_icmp_ne (pc := 44) (off := 16) (tgt := 60) hX (by decide +kernel) (by decide +kernel) (fun _ => ?_) (fun _ => ?_)
      · exact J_sub [0] _ rfl (jRd_next_60 hL hX μ)
      · exact J_sub [0] _ rfl (jRd_next_47 hL hX hk8 μ)
set_option maxRecDepth 100000 in
set_option maxHeartbeats 4000000 in
theorem jRd_next_8 {X : Cx} {l : Launch} {G : Gx} {y : Ly} {a : Nat} (hL : LyRd y a ) (hX : Ok X l G prog_6_method_6_code 2 none "SaltFigures$Reader")    : ∀ (fu : Nat)  (μ : Mu), J X G 2 10 y (emy y) rvV tpT 8 [(0, .ref (G.1 + a))] [] (μ, y) (Rd_next_8 a   fu  μ) := by
  intro fu
  induction fu with
  | zero => intros; exact J_none
  | succ fu ih => intro  μ; exact jRd_next_8b hL hX   ih  μ
set_option maxRecDepth 100000 in
set_option maxHeartbeats 4000000 in
theorem jRd_next {X : Cx} {l : Launch} {G : Gx} {y : Ly} {a : Nat} (hL : LyRd y a ) (hX : Ok X l G prog_6_method_6_code 2 none "SaltFigures$Reader")  (μ : Mu) : J X G 2 10 y (emy y) rvV tpT 0 [(0, .ref (G.1 + a))] [] (μ, y) (Rd_next a  μ) := by
  unfold Rd_next
  refine J_aload_n (k0 := 0) (pc := 0) 0 hX (by decide +kernel) rfl rfl ?_
  refine J_aload_n (k0 := 0) (pc := 1) 0 hX (by decide +kernel) rfl rfl ?_
  refine J_gF (pc := 2) hX (by decide +kernel) fl_Rd_44 hL.1 rfl (fun x1 => ?_)
  refine J_pF (pc := 5) hX (by decide +kernel) fl_Rd_50 hL.1 rfl (fun μ2 => ?_)
  exact J_sub [0] _ rfl (jRd_next_8 hL hX FU μ2)
set_option maxRecDepth 100000 in
set_option maxHeartbeats 4000000 in
theorem c_Rd_next {l : Launch} {G : Gx} {y : Ly} {a : Nat} (hL : LyRd y a )  (μ : Mu) : Cn l G ⟨"SaltFigures$Reader", "next", "()V"⟩ prog_6_method_6_code 2 none 10 [.ref (G.1 + a)] (μ, y) (emy y) rvV tpT (Rd_next a  μ) := cn_of (by decide +kernel) (Nat.le_of_ble_eq_true rfl) (fun _ _ _ => ⟨List.prefix_refl _, trivial⟩) (fun X hX _ => jRd_next hL hX  μ)

def Rd_open (a : Nat) (v1 : Int32) (μ : Mu) : Option (Unit × Mu) := pF μ a 7 v1 (fun μ1 => gF μ1 a 1 (fun x2 => pF μ1 a 2 x2 (fun μ3 => pF μ3 a 1 0 (fun μ4 => pF μ4 a 8 0 (fun μ5 => pF μ5 a 9 ((-1)) (fun μ6 => pF μ6 a 10 0 (fun μ7 => pF μ7 a 6 0 (fun μ8 => cl (Rd_next a μ8) (fun _ μ9 => some ((), μ9))))))))))
set_option maxRecDepth 100000 in
set_option maxHeartbeats 4000000 in
theorem jRd_open {X : Cx} {l : Launch} {G : Gx} {y : Ly} {a : Nat} (hL : LyRd y a ) (hX : Ok X l G prog_6_method_5_code 2 none "SaltFigures$Reader") (v1 : Int32) (μ : Mu) : J X G 2 11 y (emy y) rvV tpT 0 [(0, .ref (G.1 + a)), (1, .int v1)] [] (μ, y) (Rd_open a v1 μ) := by
  unfold Rd_open
  refine J_aload_n (k0 := 0) (pc := 0) 0 hX (by decide +kernel) rfl rfl ?_
  refine J_iload_n (k0 := 1) (pc := 1) 1 hX (by decide +kernel) rfl rfl ?_
  refine J_pF (pc := 2) hX (by decide +kernel) fl_Rd_32 hL.1 rfl (fun μ1 => ?_)
  refine J_aload_n (k0 := 0) (pc := 5) 0 hX (by decide +kernel) rfl rfl ?_
  refine J_aload_n (k0 := 0) (pc := 6) 0 hX (by decide +kernel) rfl rfl ?_
  refine J_gF (pc := 7) hX (by decide +kernel) fl_Rd_29 hL.1 rfl (fun x2 => ?_)
  refine J_pF (pc := 10) hX (by decide +kernel) fl_Rd_35 hL.1 rfl (fun μ3 => ?_)
  refine J_aload_n (k0 := 0) (pc := 13) 0 hX (by decide +kernel) rfl rfl ?_
  refine J_iconst (pc := 14) (n := 0) (v := 0) hX (by decide +kernel) (by decide +kernel) ?_
  refine J_pF (pc := 15) hX (by decide +kernel) fl_Rd_29 hL.1 rfl (fun μ4 => ?_)
  refine J_aload_n (k0 := 0) (pc := 18) 0 hX (by decide +kernel) rfl rfl ?_
  refine J_iconst (pc := 19) (n := 0) (v := 0) hX (by decide +kernel) (by decide +kernel) ?_
  refine J_pF (pc := 20) hX (by decide +kernel) fl_Rd_38 hL.1 rfl (fun μ5 => ?_)
  refine J_aload_n (k0 := 0) (pc := 23) 0 hX (by decide +kernel) rfl rfl ?_
  refine J_iconst (pc := 24) (n := -1) (v := (-1)) hX (by decide +kernel) (by decide +kernel) ?_
  refine J_pF (pc := 25) hX (by decide +kernel) fl_Rd_15 hL.1 rfl (fun μ6 => ?_)
  refine J_aload_n (k0 := 0) (pc := 28) 0 hX (by decide +kernel) rfl rfl ?_
  refine J_iconst (pc := 29) (n := 0) (v := 0) hX (by decide +kernel) (by decide +kernel) ?_
  refine J_pF (pc := 30) hX (by decide +kernel) fl_Rd_41 hL.1 rfl (fun μ7 => ?_)
  refine J_aload_n (k0 := 0) (pc := 33) 0 hX (by decide +kernel) rfl rfl ?_
  refine J_iconst (pc := 34) (n := 0) (v := 0) hX (by decide +kernel) (by decide +kernel) ?_
  refine J_pF (pc := 35) hX (by decide +kernel) fl_Rd_44 hL.1 rfl (fun μ8 => ?_)
  refine J_aload_n (k0 := 0) (pc := 38) 0 hX (by decide +kernel) rfl rfl ?_
  refine J_cVv (pc := 39) (idx := 47) [] hX (by decide +kernel) (mq mt_3 117 (by decide +kernel)) mv_Rd_next hL.1 rfl rfl (Nat.le_of_ble_eq_true rfl) (Nat.le_of_ble_eq_true rfl) (c_Rd_next hL μ8) (fun μ9 => ?_)
  exact J_vret (pc := 42) hX (by decide +kernel) rfl trivial
set_option maxRecDepth 100000 in
set_option maxHeartbeats 4000000 in
theorem c_Rd_open {l : Launch} {G : Gx} {y : Ly} {a : Nat} (hL : LyRd y a ) (v1 : Int32) (μ : Mu) : Cn l G ⟨"SaltFigures$Reader", "open", "(I)V"⟩ prog_6_method_5_code 2 none 11 [.ref (G.1 + a), .int v1] (μ, y) (emy y) rvV tpT (Rd_open a v1 μ) := cn_of (by decide +kernel) (Nat.le_of_ble_eq_true rfl) (fun _ _ _ => ⟨List.prefix_refl _, trivial⟩) (fun X hX _ => jRd_open hL hX v1 μ)

def Lw_clear (a : Nat)  (μ : Mu) : Option (Unit × Mu) := pF μ a 0 0 (fun μ1 => pF μ1 a 1 0 (fun μ2 => some ((), μ2)))
set_option maxRecDepth 100000 in
set_option maxHeartbeats 4000000 in
theorem jLw_clear {X : Cx} {l : Launch} {G : Gx} {y : Ly} {a : Nat} (hL : LyLw y a ) (hX : Ok X l G prog_4_method_3_code 1 none "SaltFigures$Law")  (μ : Mu) : J X G 1 1 y (emy y) rvV tpT 0 [(0, .ref (G.1 + a))] [] (μ, y) (Lw_clear a  μ) := by
  unfold Lw_clear
  refine J_aload_n (k0 := 0) (pc := 0) 0 hX (by decide +kernel) rfl rfl ?_
  refine J_iconst (pc := 1) (n := 0) (v := 0) hX (by decide +kernel) (by decide +kernel) ?_
  refine J_pF (pc := 2) hX (by decide +kernel) fl_Lw_30 hL.1 rfl (fun μ1 => ?_)
  refine J_aload_n (k0 := 0) (pc := 5) 0 hX (by decide +kernel) rfl rfl ?_
  refine J_iconst (pc := 6) (n := 0) (v := 0) hX (by decide +kernel) (by decide +kernel) ?_
  refine J_pF (pc := 7) hX (by decide +kernel) fl_Lw_34 hL.1 rfl (fun μ2 => ?_)
  exact J_vret (pc := 10) hX (by decide +kernel) rfl trivial
set_option maxRecDepth 100000 in
set_option maxHeartbeats 4000000 in
theorem c_Lw_clear {l : Launch} {G : Gx} {y : Ly} {a : Nat} (hL : LyLw y a )  (μ : Mu) : Cn l G ⟨"SaltFigures$Law", "clear", "()V"⟩ prog_4_method_3_code 1 none 1 [.ref (G.1 + a)] (μ, y) (emy y) rvV tpT (Lw_clear a  μ) := cn_of (by decide +kernel) (Nat.le_of_ble_eq_true rfl) (fun _ _ _ => ⟨List.prefix_refl _, trivial⟩) (fun X hX _ => jLw_clear hL hX  μ)

def Rd_fail_20 (a : Nat)     (μ : Mu) : Option (Unit × Mu) := pF μ a 3 0 (fun μ1 => some ((), μ1))
def Rd_fail (a : Nat) (v1 : Int32) (μ : Mu) : Option (Unit × Mu) := gF μ a 8 (fun x1 => (if x1 = 0 then pF μ a 8 v1 (fun μ2 => gF μ2 a 5 (fun x3 => pF μ2 a 9 x3 (fun μ4 => Rd_fail_20 a μ4))) else Rd_fail_20 a μ))
set_option maxRecDepth 100000 in
set_option maxHeartbeats 4000000 in
theorem jRd_fail_20 {X : Cx} {l : Launch} {G : Gx} {y : Ly} {a : Nat} (hL : LyRd y a ) (hX : Ok X l G prog_6_method_10_code 2 none "SaltFigures$Reader")      (μ : Mu) : J X G 2 1 y (emy y) rvV tpT 20 [(0, .ref (G.1 + a))] [] (μ, y) (Rd_fail_20 a     μ) := by
  unfold Rd_fail_20
  refine J_aload_n (k0 := 0) (pc := 20) 0 hX (by decide +kernel) rfl rfl ?_
  refine J_iconst (pc := 21) (n := 0) (v := 0) hX (by decide +kernel) (by decide +kernel) ?_
  refine J_pF (pc := 22) hX (by decide +kernel) fl_Rd_53 hL.1 rfl (fun μ1 => ?_)
  exact J_vret (pc := 25) hX (by decide +kernel) rfl trivial
set_option maxRecDepth 100000 in
set_option maxHeartbeats 4000000 in
theorem jRd_fail {X : Cx} {l : Launch} {G : Gx} {y : Ly} {a : Nat} (hL : LyRd y a ) (hX : Ok X l G prog_6_method_10_code 2 none "SaltFigures$Reader") (v1 : Int32) (μ : Mu) : J X G 2 1 y (emy y) rvV tpT 0 [(0, .ref (G.1 + a)), (1, .int v1)] [] (μ, y) (Rd_fail a v1 μ) := by
  unfold Rd_fail
  refine J_aload_n (k0 := 0) (pc := 0) 0 hX (by decide +kernel) rfl rfl ?_
  refine J_gF (pc := 1) hX (by decide +kernel) fl_Rd_38 hL.1 rfl (fun x1 => ?_)
  refine J_if_ne (pc := 4) (off := 16) (tgt := 20) hX (by decide +kernel) (by decide +kernel) (fun _ => ?_) (fun _ => ?_)
  · exact J_sub [0] _ rfl (jRd_fail_20 hL hX μ)
  · refine J_aload_n (k0 := 0) (pc := 7) 0 hX (by decide +kernel) rfl rfl ?_
    refine J_iload_n (k0 := 1) (pc := 8) 1 hX (by decide +kernel) rfl rfl ?_
    refine J_pF (pc := 9) hX (by decide +kernel) fl_Rd_38 hL.1 rfl (fun μ2 => ?_)
    refine J_aload_n (k0 := 0) (pc := 12) 0 hX (by decide +kernel) rfl rfl ?_
    refine J_aload_n (k0 := 0) (pc := 13) 0 hX (by decide +kernel) rfl rfl ?_
    refine J_gF (pc := 14) hX (by decide +kernel) fl_Rd_50 hL.1 rfl (fun x3 => ?_)
    refine J_pF (pc := 17) hX (by decide +kernel) fl_Rd_15 hL.1 rfl (fun μ4 => ?_)
    exact J_sub [0] _ rfl (jRd_fail_20 hL hX μ4)
set_option maxRecDepth 100000 in
set_option maxHeartbeats 4000000 in
theorem c_Rd_fail {l : Launch} {G : Gx} {y : Ly} {a : Nat} (hL : LyRd y a ) (v1 : Int32) (μ : Mu) : Cn l G ⟨"SaltFigures$Reader", "fail", "(I)V"⟩ prog_6_method_10_code 2 none 1 [.ref (G.1 + a), .int v1] (μ, y) (emy y) rvV tpT (Rd_fail a v1 μ) := cn_of (by decide +kernel) (Nat.le_of_ble_eq_true rfl) (fun _ _ _ => ⟨List.prefix_refl _, trivial⟩) (fun X hX _ => jRd_fail hL hX v1 μ)

def Rd_begins (a : Nat) (v1 : Int32) (μ : Mu) : Option (Int32 × Mu) := gF μ a 3 (fun x1 => (if x1 = 0 then some (0, μ) else gF μ a 3 (fun x2 => (if x2 = v1 then gF μ a 10 (fun x3 => (if x3 < 16 then cl (Rd_next a μ) (fun _ μ4 => some (1, μ4)) else cl (Rd_fail a 3 μ) (fun _ μ5 => some (0, μ5)))) else cl (Rd_fail a 1 μ) (fun _ μ6 => some (0, μ6))))))
set_option maxRecDepth 100000 in
set_option maxHeartbeats 4000000 in
theorem jRd_begins {X : Cx} {l : Launch} {G : Gx} {y : Ly} {a : Nat} (hL : LyRd y a ) (hX : Ok X l G prog_6_method_14_code 2 (some .boolean) "SaltFigures$Reader") (v1 : Int32) (μ : Mu) : J X G 2 11 y (emy y) rvI tpT 0 [(0, .ref (G.1 + a)), (1, .int v1)] [] (μ, y) (Rd_begins a v1 μ) := by
  unfold Rd_begins
  refine J_aload_n (k0 := 0) (pc := 0) 0 hX (by decide +kernel) rfl rfl ?_
  refine J_gF (pc := 1) hX (by decide +kernel) fl_Rd_53 hL.1 rfl (fun x1 => ?_)
  refine J_if_ne (pc := 4) (off := 5) (tgt := 9) hX (by decide +kernel) (by decide +kernel) (fun _ => ?_) (fun _ => ?_)
  · refine J_aload_n (k0 := 0) (pc := 9) 0 hX (by decide +kernel) rfl rfl ?_
    refine J_gF (pc := 10) hX (by decide +kernel) fl_Rd_53 hL.1 rfl (fun x2 => ?_)
    refine J_iload_n (k0 := 1) (pc := 13) 1 hX (by decide +kernel) rfl rfl ?_
    refine J_icmp_eq (pc := 14) (off := 10) (tgt := 24) hX (by decide +kernel) (by decide +kernel) (fun _ => ?_) (fun _ => ?_)
    · refine J_aload_n (k0 := 0) (pc := 24) 0 hX (by decide +kernel) rfl rfl ?_
      refine J_gF (pc := 25) hX (by decide +kernel) fl_Rd_41 hL.1 rfl (fun x3 => ?_)
      refine J_bipush (pc := 28) (n := 16) (v := 16) hX (by decide +kernel) (by decide +kernel) ?_
      refine J_icmp_lt (pc := 30) (off := 10) (tgt := 40) hX (by decide +kernel) (by decide +kernel) (fun _ => ?_) (fun _ => ?_)
      · refine J_aload_n (k0 := 0) (pc := 40) 0 hX (by decide +kernel) rfl rfl ?_
        refine J_cVv (pc := 41) (idx := 47) [] hX (by decide +kernel) (mq mt_3 117 (by decide +kernel)) mv_Rd_next hL.1 rfl rfl (Nat.le_of_ble_eq_true rfl) (Nat.le_of_ble_eq_true rfl) (c_Rd_next hL μ) (fun μ4 => ?_)
        refine J_iconst (pc := 44) (n := 1) (v := 1) hX (by decide +kernel) (by decide +kernel) ?_
        exact J_zret (pc := 45) hX (by decide +kernel) rfl (by decide +kernel) trivial
      · refine J_aload_n (k0 := 0) (pc := 33) 0 hX (by decide +kernel) rfl rfl ?_
        refine J_iconst (pc := 34) (n := 3) (v := 3) hX (by decide +kernel) (by decide +kernel) ?_
        refine J_cVv (pc := 35) (idx := 86) [.int 3] hX (by decide +kernel) (mq mt_4 8 (by decide +kernel)) mv_Rd_fail hL.1 rfl rfl (Nat.le_of_ble_eq_true rfl) (Nat.le_of_ble_eq_true rfl) (c_Rd_fail hL 3 μ) (fun μ5 => ?_)
        refine J_iconst (pc := 38) (n := 0) (v := 0) hX (by decide +kernel) (by decide +kernel) ?_
        exact J_zret (pc := 39) hX (by decide +kernel) rfl (by decide +kernel) trivial
    · refine J_aload_n (k0 := 0) (pc := 17) 0 hX (by decide +kernel) rfl rfl ?_
      refine J_iconst (pc := 18) (n := 1) (v := 1) hX (by decide +kernel) (by decide +kernel) ?_
      refine J_cVv (pc := 19) (idx := 86) [.int 1] hX (by decide +kernel) (mq mt_4 8 (by decide +kernel)) mv_Rd_fail hL.1 rfl rfl (Nat.le_of_ble_eq_true rfl) (Nat.le_of_ble_eq_true rfl) (c_Rd_fail hL 1 μ) (fun μ6 => ?_)
      refine J_iconst (pc := 22) (n := 0) (v := 0) hX (by decide +kernel) (by decide +kernel) ?_
      exact J_zret (pc := 23) hX (by decide +kernel) rfl (by decide +kernel) trivial
  · refine J_iconst (pc := 7) (n := 0) (v := 0) hX (by decide +kernel) (by decide +kernel) ?_
    exact J_zret (pc := 8) hX (by decide +kernel) rfl (by decide +kernel) trivial
set_option maxRecDepth 100000 in
set_option maxHeartbeats 4000000 in
theorem c_Rd_begins {l : Launch} {G : Gx} {y : Ly} {a : Nat} (hL : LyRd y a ) (v1 : Int32) (μ : Mu) : Cn l G ⟨"SaltFigures$Reader", "begins", "(I)Z"⟩ prog_6_method_14_code 2 (some .boolean) 11 [.ref (G.1 + a), .int v1] (μ, y) (emy y) rvI tpT (Rd_begins a v1 μ) := cn_of (by decide +kernel) (Nat.le_of_ble_eq_true rfl) (fun _ _ _ => ⟨List.prefix_refl _, trivial⟩) (fun X hX _ => jRd_begins hL hX v1 μ)

def Lw_begin (a : Nat) (v1 : Int32) (μ : Mu) : Option (Unit × Mu) := gF μ a 0 (fun x1 => (if 16 ≤ x1 then some ((), μ) else gF μ a 0 (fun x2 => stA μ (a + 1) 16 x2 v1 (fun μ3 => gF μ3 a 0 (fun x4 => gF μ3 a 1 (fun x5 => stA μ3 (a + 2) 16 x4 x5 (fun μ6 => some ((), μ6))))))))
set_option maxRecDepth 100000 in
set_option maxHeartbeats 4000000 in
theorem jLw_begin {X : Cx} {l : Launch} {G : Gx} {y : Ly} {a : Nat} (hL : LyLw y a ) (hX : Ok X l G prog_4_method_4_code 2 none "SaltFigures$Law") (v1 : Int32) (μ : Mu) : J X G 2 1 y (emy y) rvV tpT 0 [(0, .ref (G.1 + a)), (1, .int v1)] [] (μ, y) (Lw_begin a v1 μ) := by
  unfold Lw_begin
  refine J_aload_n (k0 := 0) (pc := 0) 0 hX (by decide +kernel) rfl rfl ?_
  refine J_gF (pc := 1) hX (by decide +kernel) fl_Lw_30 hL.1 rfl (fun x1 => ?_)
  refine J_bipush (pc := 4) (n := 16) (v := 16) hX (by decide +kernel) (by decide +kernel) ?_
  refine J_icmp_ge (pc := 6) (off := 26) (tgt := 32) hX (by decide +kernel) (by decide +kernel) (fun _ => ?_) (fun _ => ?_)
  · exact J_vret (pc := 32) hX (by decide +kernel) rfl trivial
  · refine J_aload_n (k0 := 0) (pc := 9) 0 hX (by decide +kernel) rfl rfl ?_
    refine J_gr (pc := 10) hX (by decide +kernel) fl_Lw_9 hL.1 rfl hL.2.1.1 ?_
    refine J_aload_n (k0 := 0) (pc := 13) 0 hX (by decide +kernel) rfl rfl ?_
    refine J_gF (pc := 14) hX (by decide +kernel) fl_Lw_30 hL.1 rfl (fun x2 => ?_)
    refine J_iload_n (k0 := 1) (pc := 17) 1 hX (by decide +kernel) rfl rfl ?_
    refine J_stA (pc := 18) hX (by decide +kernel) hL.2.1.2 (fun μ3 => ?_)
    refine J_aload_n (k0 := 0) (pc := 19) 0 hX (by decide +kernel) rfl rfl ?_
    refine J_gr (pc := 20) hX (by decide +kernel) fl_Lw_15 hL.1 rfl hL.2.2.1.1 ?_
    refine J_aload_n (k0 := 0) (pc := 23) 0 hX (by decide +kernel) rfl rfl ?_
    refine J_gF (pc := 24) hX (by decide +kernel) fl_Lw_30 hL.1 rfl (fun x4 => ?_)
    refine J_aload_n (k0 := 0) (pc := 27) 0 hX (by decide +kernel) rfl rfl ?_
    refine J_gF (pc := 28) hX (by decide +kernel) fl_Lw_34 hL.1 rfl (fun x5 => ?_)
    refine J_stA (pc := 31) hX (by decide +kernel) hL.2.2.1.2 (fun μ6 => ?_)
    exact J_vret (pc := 32) hX (by decide +kernel) rfl trivial
set_option maxRecDepth 100000 in
set_option maxHeartbeats 4000000 in
theorem c_Lw_begin {l : Launch} {G : Gx} {y : Ly} {a : Nat} (hL : LyLw y a ) (v1 : Int32) (μ : Mu) : Cn l G ⟨"SaltFigures$Law", "begin", "(I)V"⟩ prog_4_method_4_code 2 none 1 [.ref (G.1 + a), .int v1] (μ, y) (emy y) rvV tpT (Lw_begin a v1 μ) := cn_of (by decide +kernel) (Nat.le_of_ble_eq_true rfl) (fun _ _ _ => ⟨List.prefix_refl _, trivial⟩) (fun X hX _ => jLw_begin hL hX v1 μ)

def Lw_emit (a : Nat) (v1 : Int32) (v2 : Int32) (μ : Mu) : Option (Unit × Mu) := gF μ a 1 (fun x1 => (if 400 ≤ x1 then some ((), μ) else gF μ a 1 (fun x2 => stA μ (a + 5) 400 x2 ((v1 * 10000) + v2) (fun μ3 => gF μ3 a 1 (fun x4 => pF μ3 a 1 (x4 + 1) (fun μ5 => some ((), μ5)))))))
set_option maxRecDepth 100000 in
set_option maxHeartbeats 4000000 in
theorem jLw_emit {X : Cx} {l : Launch} {G : Gx} {y : Ly} {a : Nat} (hL : LyLw y a ) (hX : Ok X l G prog_4_method_7_code 3 none "SaltFigures$Law") (v1 : Int32) (v2 : Int32) (μ : Mu) : J X G 3 1 y (emy y) rvV tpT 0 [(0, .ref (G.1 + a)), (1, .int v1), (2, .int v2)] [] (μ, y) (Lw_emit a v1 v2 μ) := by
  unfold Lw_emit
  refine J_aload_n (k0 := 0) (pc := 0) 0 hX (by decide +kernel) rfl rfl ?_
  refine J_gF (pc := 1) hX (by decide +kernel) fl_Lw_34 hL.1 rfl (fun x1 => ?_)
  refine J_sipush (pc := 4) (n := 400) (v := 400) hX (by decide +kernel) (by decide +kernel) ?_
  refine J_icmp_ge (pc := 7) (off := 29) (tgt := 36) hX (by decide +kernel) (by decide +kernel) (fun _ => ?_) (fun _ => ?_)
  · exact J_vret (pc := 36) hX (by decide +kernel) rfl trivial
  · refine J_aload_n (k0 := 0) (pc := 10) 0 hX (by decide +kernel) rfl rfl ?_
    refine J_gr (pc := 11) hX (by decide +kernel) fl_Lw_24 hL.1 rfl hL.2.2.2.2.2.1.1 ?_
    refine J_aload_n (k0 := 0) (pc := 14) 0 hX (by decide +kernel) rfl rfl ?_
    refine J_gF (pc := 15) hX (by decide +kernel) fl_Lw_34 hL.1 rfl (fun x2 => ?_)
    refine J_iload_n (k0 := 1) (pc := 18) 1 hX (by decide +kernel) rfl rfl ?_
    refine J_sipush (pc := 19) (n := 10000) (v := 10000) hX (by decide +kernel) (by decide +kernel) ?_
    refine J_imul (pc := 22) hX (by decide +kernel) ?_
    refine J_iload_n (k0 := 2) (pc := 23) 2 hX (by decide +kernel) rfl rfl ?_
    refine J_iadd (pc := 24) hX (by decide +kernel) ?_
    refine J_stA (pc := 25) hX (by decide +kernel) hL.2.2.2.2.2.1.2 (fun μ3 => ?_)
    refine J_aload_n (k0 := 0) (pc := 26) 0 hX (by decide +kernel) rfl rfl ?_
    refine J_dup (pc := 27) hX (by decide +kernel) rfl ?_
    refine J_gF (pc := 28) hX (by decide +kernel) fl_Lw_34 hL.1 rfl (fun x4 => ?_)
    refine J_iconst (pc := 31) (n := 1) (v := 1) hX (by decide +kernel) (by decide +kernel) ?_
    refine J_iadd (pc := 32) hX (by decide +kernel) ?_
    refine J_pF (pc := 33) hX (by decide +kernel) fl_Lw_34 hL.1 rfl (fun μ5 => ?_)
    exact J_vret (pc := 36) hX (by decide +kernel) rfl trivial
set_option maxRecDepth 100000 in
set_option maxHeartbeats 4000000 in
theorem c_Lw_emit {l : Launch} {G : Gx} {y : Ly} {a : Nat} (hL : LyLw y a ) (v1 : Int32) (v2 : Int32) (μ : Mu) : Cn l G ⟨"SaltFigures$Law", "emit", "(II)V"⟩ prog_4_method_7_code 3 none 1 [.ref (G.1 + a), .int v1, .int v2] (μ, y) (emy y) rvV tpT (Lw_emit a v1 v2 μ) := cn_of (by decide +kernel) (Nat.le_of_ble_eq_true rfl) (fun _ _ _ => ⟨List.prefix_refl _, trivial⟩) (fun X hX _ => jLw_emit hL hX v1 v2 μ)

def Rd_operand_59 (a : Nat)     (μ : Mu) : Option (Unit × Mu) := cl (Rd_fail a 1 μ) (fun _ μ1 => some ((), μ1))
def Rd_operand (a : Nat)  (μ : Mu) : Option (Unit × Mu) := gF μ a 3 (fun x1 => (if x1 = 30 then gF μ a 4 (fun x4 => cl (Lw_emit (a + 2) 30 x4 μ) (fun _ μ5 => cl (Rd_next a μ5) (fun _ μ6 => some ((), μ6)))) else (if x1 < 8 then Rd_operand_59 a μ else (if 18 ≤ x1 then Rd_operand_59 a μ else cl (Lw_emit (a + 2) x1 0 μ) (fun _ μ2 => cl (Rd_next a μ2) (fun _ μ3 => some ((), μ3)))))))
set_option maxRecDepth 100000 in
set_option maxHeartbeats 4000000 in
theorem jRd_operand_59 {X : Cx} {l : Launch} {G : Gx} {y : Ly} {a : Nat} (hL : LyRd y a ) (hX : Ok X l G prog_6_method_23_code 2 none "SaltFigures$Reader")      (μ : Mu) : J X G 2 11 y (emy y) rvV tpT 59 [(0, .ref (G.1 + a))] [] (μ, y) (Rd_operand_59 a     μ) := by
  unfold Rd_operand_59
  refine J_aload_n (k0 := 0) (pc := 59) 0 hX (by decide +kernel) rfl rfl ?_
  refine J_iconst (pc := 60) (n := 1) (v := 1) hX (by decide +kernel) (by decide +kernel) ?_
  refine J_cVv (pc := 61) (idx := 86) [.int 1] hX (by decide +kernel) (mq mt_4 8 (by decide +kernel)) mv_Rd_fail hL.1 rfl rfl (Nat.le_of_ble_eq_true rfl) (Nat.le_of_ble_eq_true rfl) (c_Rd_fail hL 1 μ) (fun μ1 => ?_)
  exact J_vret (pc := 64) hX (by decide +kernel) rfl trivial
set_option maxRecDepth 100000 in
set_option maxHeartbeats 4000000 in
theorem jRd_operand {X : Cx} {l : Launch} {G : Gx} {y : Ly} {a : Nat} (hL : LyRd y a ) (hX : Ok X l G prog_6_method_23_code 2 none "SaltFigures$Reader")  (μ : Mu) : J X G 2 11 y (emy y) rvV tpT 0 [(0, .ref (G.1 + a))] [] (μ, y) (Rd_operand a  μ) := by
  unfold Rd_operand
  refine J_aload_n (k0 := 0) (pc := 0) 0 hX (by decide +kernel) rfl rfl ?_
  refine J_gF (pc := 1) hX (by decide +kernel) fl_Rd_53 hL.1 rfl (fun x1 => ?_)
  refine J_istore_n (k0 := 1) (pc := 4) [(1, .int x1), (0, .ref (G.1 + a))] hX (by decide +kernel) rfl (by decide) rfl ?_
  refine J_iload_n (k0 := 1) (pc := 5) 0 hX (by decide +kernel) rfl rfl ?_
  refine J_bipush (pc := 6) (n := 30) (v := 30) hX (by decide +kernel) (by decide +kernel) ?_
  refine J_icmp_ne (pc := 8) (off := 23) (tgt := 31) hX (by decide +kernel) (by decide +kernel) (fun _ => ?_) (fun _ => ?_)
  · refine J_iload_n (k0 := 1) (pc := 31) 0 hX (by decide +kernel) rfl rfl ?_
    refine J_bipush (pc := 32) (n := 8) (v := 8) hX (by decide +kernel) (by decide +kernel) ?_
    refine J_icmp_lt (pc := 34) (off := 25) (tgt := 59) hX (by decide +kernel) (by decide +kernel) (fun _ => ?_) (fun _ => ?_)
    · exact J_sub [1] _ rfl (jRd_operand_59 hL hX μ)
    · refine J_iload_n (k0 := 1) (pc := 37) 0 hX (by decide +kernel) rfl rfl ?_
      refine J_bipush (pc := 38) (n := 18) (v := 18) hX (by decide +kernel) (by decide +kernel) ?_
      refine J_icmp_ge (pc := 40) (off := 19) (tgt := 59) hX (by decide +kernel) (by decide +kernel) (fun _ => ?_) (fun _ => ?_)
      · exact J_sub [1] _ rfl (jRd_operand_59 hL hX μ)
      · refine J_aload_n (k0 := 0) (pc := 43) 1 hX (by decide +kernel) rfl rfl ?_
        refine J_gr (pc := 44) hX (by decide +kernel) fl_Rd_22 hL.1 rfl hL.2.2.1.1 ?_
        refine J_iload_n (k0 := 1) (pc := 47) 0 hX (by decide +kernel) rfl rfl ?_
        refine J_iconst (pc := 48) (n := 0) (v := 0) hX (by decide +kernel) (by decide +kernel) ?_
        refine J_cVv (pc := 49) (idx := 128) [.int x1, .int 0] hX (by decide +kernel) (mq mt_4 24 (by decide +kernel)) mv_Lw_emit hL.2.2.1.2.1 rfl rfl (Nat.le_of_ble_eq_true rfl) (Nat.le_of_ble_eq_true rfl) (c_Lw_emit hL.2.2.1.2 x1 0 μ) (fun μ2 => ?_)
        refine J_aload_n (k0 := 0) (pc := 52) 1 hX (by decide +kernel) rfl rfl ?_
        refine J_cVv (pc := 53) (idx := 47) [] hX (by decide +kernel) (mq mt_3 117 (by decide +kernel)) mv_Rd_next hL.1 rfl rfl (Nat.le_of_ble_eq_true rfl) (Nat.le_of_ble_eq_true rfl) (c_Rd_next hL μ2) (fun μ3 => ?_)
        refine J_goto (pc := 56) (off := 8) (tgt := 64) hX (by decide +kernel) (by decide +kernel) ?_
        exact J_vret (pc := 64) hX (by decide +kernel) rfl trivial
  · refine J_aload_n (k0 := 0) (pc := 11) 1 hX (by decide +kernel) rfl rfl ?_
    refine J_gr (pc := 12) hX (by decide +kernel) fl_Rd_22 hL.1 rfl hL.2.2.1.1 ?_
    refine J_bipush (pc := 15) (n := 30) (v := 30) hX (by decide +kernel) (by decide +kernel) ?_
    refine J_aload_n (k0 := 0) (pc := 17) 1 hX (by decide +kernel) rfl rfl ?_
    refine J_gF (pc := 18) hX (by decide +kernel) fl_Rd_60 hL.1 rfl (fun x4 => ?_)
    refine J_cVv (pc := 21) (idx := 128) [.int 30, .int x4] hX (by decide +kernel) (mq mt_4 24 (by decide +kernel)) mv_Lw_emit hL.2.2.1.2.1 rfl rfl (Nat.le_of_ble_eq_true rfl) (Nat.le_of_ble_eq_true rfl) (c_Lw_emit hL.2.2.1.2 30 x4 μ) (fun μ5 => ?_)
    refine J_aload_n (k0 := 0) (pc := 24) 1 hX (by decide +kernel) rfl rfl ?_
    refine J_cVv (pc := 25) (idx := 47) [] hX (by decide +kernel) (mq mt_3 117 (by decide +kernel)) mv_Rd_next hL.1 rfl rfl (Nat.le_of_ble_eq_true rfl) (Nat.le_of_ble_eq_true rfl) (c_Rd_next hL μ5) (fun μ6 => ?_)
    refine J_goto (pc := 28) (off := 36) (tgt := 64) hX (by decide +kernel) (by decide +kernel) ?_
    exact J_vret (pc := 64) hX (by decide +kernel) rfl trivial
set_option maxRecDepth 100000 in
set_option maxHeartbeats 4000000 in
theorem c_Rd_operand {l : Launch} {G : Gx} {y : Ly} {a : Nat} (hL : LyRd y a )  (μ : Mu) : Cn l G ⟨"SaltFigures$Reader", "operand", "()V"⟩ prog_6_method_23_code 2 none 11 [.ref (G.1 + a)] (μ, y) (emy y) rvV tpT (Rd_operand a  μ) := cn_of (by decide +kernel) (Nat.le_of_ble_eq_true rfl) (fun _ _ _ => ⟨List.prefix_refl _, trivial⟩) (fun X hX _ => jRd_operand hL hX  μ)
