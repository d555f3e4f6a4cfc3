/-! THE CLASS: models and their rows (by program) -/
def Sf_voyage (a : Nat) (v1 : Int32) (v2 : Int32) (μ : Mu) : Option (Int32 × Mu) := cl (Sf_within v1 1 200 μ) (fun x2 μ1 => (if x2 = 0 then some ((-1), μ1) else cl (Sf_within v2 0 1 μ1) (fun x4 μ3 => (if x4 = 0 then some ((-1), μ3) else (if v2 = 0 then cl (Th_voyageRows (a + 45) (a + 1 + 17) v1 μ3) (fun x8 μ7 => some (x8, μ7)) else cl (Th_fewestStages (a + 45) (a + 1 + 17) v1 μ3) (fun x6 μ5 => some (x6, μ5)))))))
set_option maxRecDepth 100000 in
set_option maxHeartbeats 4000000 in
theorem jSf_voyage {X : Cx} {l : Launch} {G : Gx} {y : Ly} {a : Nat} (hL : LySf y a ) (hX : Ok X l G prog_1_method_35_code 3 (some .int) "SaltFigures") (v1 : Int32) (v2 : Int32) (μ : Mu) : J X G 3 3 y (emy y) rvI tpT 0 [(0, .ref (G.1 + a)), (1, .int v1), (2, .int v2)] [] (μ, y) (Sf_voyage a v1 v2 μ) := by
  unfold Sf_voyage
  refine J_iload_n (k0 := 1) (pc := 0) 1 hX (by decide +kernel) rfl rfl ?_
  refine J_iconst (pc := 1) (n := 1) (v := 1) hX (by decide +kernel) (by decide +kernel) ?_
  refine J_sipush (pc := 2) (n := 200) (v := 200) hX (by decide +kernel) (by decide +kernel) ?_
  refine J_cSi (pc := 5) (idx := 68) [.int v1, .int 1, .int 200] hX (by decide +kernel) (mq mt_2 148 (by decide +kernel)) mv_Sf_within rfl rfl (Nat.le_of_ble_eq_true rfl) (Nat.le_of_ble_eq_true rfl) (c_Sf_within v1 1 200 μ) (fun x2 μ1 => ?_)
  refine J_if_eq (pc := 8) (off := 12) (tgt := 20) hX (by decide +kernel) (by decide +kernel) (fun _ => ?_) (fun _ => ?_)
  · refine J_iconst (pc := 20) (n := -1) (v := (-1)) hX (by decide +kernel) (by decide +kernel) ?_
    exact J_iret (pc := 21) hX (by decide +kernel) rfl trivial
  · refine J_iload_n (k0 := 2) (pc := 11) 2 hX (by decide +kernel) rfl rfl ?_
    refine J_iconst (pc := 12) (n := 0) (v := 0) hX (by decide +kernel) (by decide +kernel) ?_
    refine J_iconst (pc := 13) (n := 1) (v := 1) hX (by decide +kernel) (by decide +kernel) ?_
    refine J_cSi (pc := 14) (idx := 68) [.int v2, .int 0, .int 1] hX (by decide +kernel) (mq mt_2 148 (by decide +kernel)) mv_Sf_within rfl rfl (Nat.le_of_ble_eq_true rfl) (Nat.le_of_ble_eq_true rfl) (c_Sf_within v2 0 1 μ1) (fun x4 μ3 => ?_)
    refine J_if_ne (pc := 17) (off := 5) (tgt := 22) hX (by decide +kernel) (by decide +kernel) (fun _ => ?_) (fun _ => ?_)
    · refine J_iload_n (k0 := 2) (pc := 22) 2 hX (by decide +kernel) rfl rfl ?_
      refine J_if_ne (pc := 23) (off := 14) (tgt := 37) hX (by decide +kernel) (by decide +kernel) (fun _ => ?_) (fun _ => ?_)
      · refine J_aload_n (k0 := 0) (pc := 37) 0 hX (by decide +kernel) rfl rfl ?_
        refine J_gr (pc := 38) hX (by decide +kernel) fl_Sf_43 hL.1 rfl hL.2.2.2.2.1.1 ?_
        refine J_iload_n (k0 := 1) (pc := 41) 1 hX (by decide +kernel) rfl rfl ?_
        refine J_cVi (pc := 42) (idx := 331) [.int v1] hX (by decide +kernel) (mq mt_5 153 (by decide +kernel)) mv_Th_fewestStages hL.2.2.2.2.1.2.1 rfl rfl (Nat.le_of_ble_eq_true rfl) (Nat.le_of_ble_eq_true rfl) (c_Th_fewestStages hL.2.2.2.2.1.2 v1 μ3) (fun x6 μ5 => ?_)
        exact J_iret (pc := 45) hX (by decide +kernel) rfl trivial
      · refine J_aload_n (k0 := 0) (pc := 26) 0 hX (by decide +kernel) rfl rfl ?_
        refine J_gr (pc := 27) hX (by decide +kernel) fl_Sf_43 hL.1 rfl hL.2.2.2.2.1.1 ?_
        refine J_iload_n (k0 := 1) (pc := 30) 1 hX (by decide +kernel) rfl rfl ?_
        refine J_cVi (pc := 31) (idx := 328) [.int v1] hX (by decide +kernel) (mq mt_5 148 (by decide +kernel)) mv_Th_voyageRows hL.2.2.2.2.1.2.1 rfl rfl (Nat.le_of_ble_eq_true rfl) (Nat.le_of_ble_eq_true rfl) (c_Th_voyageRows hL.2.2.2.2.1.2 v1 μ3) (fun x8 μ7 => ?_)
        refine J_goto (pc := 34) (off := 11) (tgt := 45) hX (by decide +kernel) (by decide +kernel) ?_
        exact J_iret (pc := 45) hX (by decide +kernel) rfl trivial
    · refine J_iconst (pc := 20) (n := -1) (v := (-1)) hX (by decide +kernel) (by decide +kernel) ?_
      exact J_iret (pc := 21) hX (by decide +kernel) rfl trivial
set_option maxRecDepth 100000 in
set_option maxHeartbeats 4000000 in
theorem c_Sf_voyage {l : Launch} {G : Gx} {y : Ly} {a : Nat} (hL : LySf y a ) (v1 : Int32) (v2 : Int32) (μ : Mu) : Cn l G ⟨"SaltFigures", "voyage", "(II)I"⟩ prog_1_method_35_code 3 (some .int) 3 [.ref (G.1 + a), .int v1, .int v2] (μ, y) (emy y) rvI tpT (Sf_voyage a v1 v2 μ) := cn_of (by decide +kernel) (Nat.le_of_ble_eq_true rfl) (fun _ _ _ => ⟨List.prefix_refl _, trivial⟩) (fun X hX _ => jSf_voyage hL hX v1 v2 μ)

def Jm_floorMod  (v0 : Int32) (v1 : Int32) (μ : Mu) : Option (Int32 × Mu) := nz v1 ((if 0 ≤ (v0 ^^^ v1) then some (jrem v0 v1, μ) else (if (jrem v0 v1) = 0 then some (jrem v0 v1, μ) else some ((jrem v0 v1) + v1, μ))))
set_option maxRecDepth 100000 in
set_option maxHeartbeats 4000000 in
theorem jJm_floorMod {X : Cx} {l : Launch} {G : Gx} {y : Ly}   (hX : Ok X l G prog_16_method_50_code 3 (some .int) "java/lang/Math") (v0 : Int32) (v1 : Int32) (μ : Mu) : J X G 3 1 y (emy y) rvI tpT 0 [(0, .int v0), (1, .int v1)] [] (μ, y) (Jm_floorMod  v0 v1 μ) := by
  unfold Jm_floorMod
  refine J_iload_n (k0 := 0) (pc := 0) 0 hX (by decide +kernel) rfl rfl ?_
  refine J_iload_n (k0 := 1) (pc := 1) 1 hX (by decide +kernel) rfl rfl ?_
  refine J_irem (pc := 2) hX (by decide +kernel) (fun _ => ?_)
  refine J_istore_n (k0 := 2) (pc := 3) [(2, .int (jrem v0 v1)), (0, .int v0), (1, .int v1)] hX (by decide +kernel) rfl (by decide) rfl ?_
  refine J_iload_n (k0 := 0) (pc := 4) 1 hX (by decide +kernel) rfl rfl ?_
  refine J_iload_n (k0 := 1) (pc := 5) 2 hX (by decide +kernel) rfl rfl ?_
  refine J_ixor (pc := 6) hX (by decide +kernel) ?_
  refine J_if_ge (pc := 7) (off := 11) (tgt := 18) hX (by decide +kernel) (by decide +kernel) (fun _ => ?_) (fun _ => ?_)
  · refine J_iload_n (k0 := 2) (pc := 18) 0 hX (by decide +kernel) rfl rfl ?_
    exact J_iret (pc := 19) hX (by decide +kernel) rfl trivial
  · refine J_iload_n (k0 := 2) (pc := 10) 0 hX (by decide +kernel) rfl rfl ?_
    refine J_if_eq (pc := 11) (off := 7) (tgt := 18) hX (by decide +kernel) (by decide +kernel) (fun _ => ?_) (fun _ => ?_)
    · refine J_iload_n (k0 := 2) (pc := 18) 0 hX (by decide +kernel) rfl rfl ?_
      exact J_iret (pc := 19) hX (by decide +kernel) rfl trivial
    · refine J_iload_n (k0 := 2) (pc := 14) 0 hX (by decide +kernel) rfl rfl ?_
      refine J_iload_n (k0 := 1) (pc := 15) 2 hX (by decide +kernel) rfl rfl ?_
      refine J_iadd (pc := 16) hX (by decide +kernel) ?_
      exact J_iret (pc := 17) hX (by decide +kernel) rfl trivial
set_option maxRecDepth 100000 in
set_option maxHeartbeats 4000000 in
theorem c_Jm_floorMod {l : Launch} {G : Gx} {y : Ly}   (v0 : Int32) (v1 : Int32) (μ : Mu) : Cn l G ⟨"java/lang/Math", "floorMod", "(II)I"⟩ prog_16_method_50_code 3 (some .int) 1 [.int v0, .int v1] (μ, y) (emy y) rvI tpT (Jm_floorMod  v0 v1 μ) := cn_ofF (by decide +kernel) (Nat.le_of_ble_eq_true rfl) (fun _ _ _ => ⟨List.prefix_refl _, trivial⟩) (fun X hX _ => jJm_floorMod  hX v0 v1 μ)

def Sm_weekday  (v0 : Int32) (μ : Mu) : Option (Int32 × Mu) := cl (Jm_floorMod (v0 + 6) 7 μ) (fun x2 μ1 => some (x2, μ1))
set_option maxRecDepth 100000 in
set_option maxHeartbeats 4000000 in
theorem jSm_weekday {X : Cx} {l : Launch} {G : Gx} {y : Ly}   (hX : Ok X l G prog_8_method_6_code 1 (some .int) "SaltFigures$Sums") (v0 : Int32) (μ : Mu) : J X G 1 2 y (emy y) rvI tpT 0 [(0, .int v0)] [] (μ, y) (Sm_weekday  v0 μ) := by
  unfold Sm_weekday
  refine J_iload_n (k0 := 0) (pc := 0) 0 hX (by decide +kernel) rfl rfl ?_
  refine J_bipush (pc := 1) (n := 6) (v := 6) hX (by decide +kernel) (by decide +kernel) ?_
  refine J_iadd (pc := 3) hX (by decide +kernel) ?_
  refine J_bipush (pc := 4) (n := 7) (v := 7) hX (by decide +kernel) (by decide +kernel) ?_
  refine J_cSi (pc := 6) (idx := 23) [.int (v0 + 6), .int 7] hX (by decide +kernel) (mq mt_4 171 (by decide +kernel)) mv_Jm_floorMod rfl rfl (Nat.le_of_ble_eq_true rfl) (Nat.le_of_ble_eq_true rfl) (c_Jm_floorMod (v0 + 6) 7 μ) (fun x2 μ1 => ?_)
  exact J_iret (pc := 9) hX (by decide +kernel) rfl trivial
set_option maxRecDepth 100000 in
set_option maxHeartbeats 4000000 in
theorem c_Sm_weekday {l : Launch} {G : Gx} {y : Ly}   (v0 : Int32) (μ : Mu) : Cn l G ⟨"SaltFigures$Sums", "weekday", "(I)I"⟩ prog_8_method_6_code 1 (some .int) 2 [.int v0] (μ, y) (emy y) rvI tpT (Sm_weekday  v0 μ) := cn_of (by decide +kernel) (Nat.le_of_ble_eq_true rfl) (fun _ _ _ => ⟨List.prefix_refl _, trivial⟩) (fun X hX _ => jSm_weekday  hX v0 μ)

def Sm_fridays_29  (kb4 : Int32 → Int32 → Mu → Option (Int32 × Mu))  (v0 : Int32) (v1 : Int32) (v2 : Int32)  (μ : Mu) : Option (Int32 × Mu) := kb4 v1 (v2 + 1) μ
def Sm_fridays_4b   (kb4 : Int32 → Int32 → Mu → Option (Int32 × Mu)) (v0 : Int32) (v1 : Int32) (v2 : Int32)  (μ : Mu) : Option (Int32 × Mu) := (if 12 < v2 then some (v1, μ) else cl (Sm_dayNumber v0 v2 13 μ) (fun x2 μ1 => cl (Sm_weekday x2 μ1) (fun x4 μ3 => (if x4 = 5 then Sm_fridays_29 kb4 v0 (v1 + 1) v2 μ3 else Sm_fridays_29 kb4 v0 v1 v2 μ3))))
def Sm_fridays_4   (v0 : Int32) (fu : Nat) : Int32 → Int32 → Mu → Option (Int32 × Mu) := lp (fun kb => Sm_fridays_4b   kb v0) (fun _ _ _ => none) fu
def Sm_fridays  (v0 : Int32) (μ : Mu) : Option (Int32 × Mu) := Sm_fridays_4 v0 FU 0 1 μ
set_option maxRecDepth 100000 in
set_option maxHeartbeats 4000000 in
theorem jSm_fridays_29 {X : Cx} {l : Launch} {G : Gx} {y : Ly}   (hX : Ok X l G prog_8_method_7_code 3 (some .int) "SaltFigures$Sums")  (v0 : Int32) (v1 : Int32) (v2 : Int32)  {kb4 : Int32 → Int32 → Mu → Option (Int32 × Mu)} (hk4 : ∀ (v1 : Int32) (v2 : Int32) (μ : Mu), J X G 3 3 y (emy y) rvI tpT 4 [(0, .int v0), (1, .int v1), (2, .int v2)] [] (μ, y) (kb4 v1 v2 μ)) (μ : Mu) : J X G 3 3 y (emy y) rvI tpT 29 [(0, .int v0), (1, .int v1), (2, .int v2)] [] (μ, y) (Sm_fridays_29  kb4  v0 v1 v2  μ) := by
  unfold Sm_fridays_29
  refine J_iinc (pc := 29) (n := 1) 2 [(2, .int (v2 + 1)), (0, .int v0), (1, .int v1)] hX (by decide +kernel) rfl rfl (by decide) rfl ?_
  refine J_goto (pc := 32) (off := -28) (tgt := 4) hX (by decide +kernel) (by decide +kernel) ?_
  exact J_sub [1, 2, 0] _ rfl (hk4 v1 (v2 + 1) μ)
set_option maxRecDepth 100000 in
set_option maxHeartbeats 4000000 in
theorem jSm_fridays_4b {X : Cx} {l : Launch} {G : Gx} {y : Ly}   (hX : Ok X l G prog_8_method_7_code 3 (some .int) "SaltFigures$Sums") (v0 : Int32)  {kb4 : Int32 → Int32 → Mu → Option (Int32 × Mu)}  (hk4 : ∀ (v1 : Int32) (v2 : Int32) (μ : Mu), J X G 3 3 y (emy y) rvI tpT 4 [(0, .int v0), (1, .int v1), (2, .int v2)] [] (μ, y) (kb4 v1 v2 μ)) (v1 : Int32) (v2 : Int32)  (μ : Mu) : J X G 3 3 y (emy y) rvI tpT 4 [(0, .int v0), (1, .int v1), (2, .int v2)] [] (μ, y) (Sm_fridays_4b   kb4 v0 v1 v2  μ) := by
  unfold Sm_fridays_4b
  refine J_iload_n (k0 := 2) (pc := 4) 2 hX (by decide +kernel) rfl rfl ?_
  refine J_getsN (pc := 5) (v := .ref (G.2.2.2.2.2 4)) (idx := 15) (host := "SaltFigures") hX (by decide +kernel) (mq mt_4 155 (by decide +kernel)) (fun _ h => h.2.2.2.2.2.2.1) ?_
  refine J_moL (pc := 8) hX (by decide +kernel) ?_
  refine J_icmp_gt (pc := 9) (off := 26) (tgt := 35) hX (by decide +kernel) (by decide +kernel) (fun _ => ?_) (fun _ => ?_)
  · refine J_iload_n (k0 := 1) (pc := 35) 1 hX (by decide +kernel) rfl rfl ?_
    exact J_iret (pc := 36) hX (by decide +kernel) rfl trivial
  · refine J_iload_n (k0 := 0) (pc := 12) 0 hX (by decide +kernel) rfl rfl ?_
    refine J_iload_n (k0 := 2) (pc := 13) 2 hX (by decide +kernel) rfl rfl ?_
    refine J_bipush (pc := 14) (n := 13) (v := 13) hX (by decide +kernel) (by decide +kernel) ?_
    refine J_cSi (pc := 16) (idx := 28) [.int v0, .int v2, .int 13] hX (by decide +kernel) (mq mt_4 177 (by decide +kernel)) mv_Sm_dayNumber rfl rfl (Nat.le_of_ble_eq_true rfl) (Nat.le_of_ble_eq_true rfl) (c_Sm_dayNumber v0 v2 13 μ) (fun x2 μ1 => ?_)
    refine J_cSi (pc := 19) (idx := 32) [.int x2] hX (by decide +kernel) (mq mt_4 178 (by decide +kernel)) mv_Sm_weekday rfl rfl (Nat.le_of_ble_eq_true rfl) (Nat.le_of_ble_eq_true rfl) (c_Sm_weekday x2 μ1) (fun x4 μ3 => ?_)
    refine J_iconst (pc := 22) (n := 5) (v := 5) hX (by decide +kernel) (by decide +kernel) ?_
    refine J_icmp_ne (pc := 23) (off := 6) (tgt := 29) hX (by decide +kernel) (by decide +kernel) (fun _ => ?_) (fun _ => ?_)
    · exact J_sub [0, 1, 2] _ rfl (jSm_fridays_29 hX v0 v1 v2 hk4 μ3)
    · refine J_iinc (pc := 26) (n := 1) 1 [(1, .int (v1 + 1)), (0, .int v0), (2, .int v2)] hX (by decide +kernel) rfl rfl (by decide) rfl ?_
      exact J_sub [1, 0, 2] _ rfl (jSm_fridays_29 hX v0 (v1 + 1) v2 hk4 μ3)
set_option maxRecDepth 100000 in
set_option maxHeartbeats 4000000 in
theorem jSm_fridays_4 {X : Cx} {l : Launch} {G : Gx} {y : Ly}   (hX : Ok X l G prog_8_method_7_code 3 (some .int) "SaltFigures$Sums") (v0 : Int32)   : ∀ (fu : Nat) (v1 : Int32) (v2 : Int32) (μ : Mu), J X G 3 3 y (emy y) rvI tpT 4 [(0, .int v0), (1, .int v1), (2, .int v2)] [] (μ, y) (Sm_fridays_4   v0 fu v1 v2 μ) := by
  intro fu
  induction fu with
  | zero => intros; exact J_none
  | succ fu ih => intro v1 v2 μ; exact jSm_fridays_4b  hX v0  ih v1 v2 μ
set_option maxRecDepth 100000 in
set_option maxHeartbeats 4000000 in
theorem jSm_fridays {X : Cx} {l : Launch} {G : Gx} {y : Ly}   (hX : Ok X l G prog_8_method_7_code 3 (some .int) "SaltFigures$Sums") (v0 : Int32) (μ : Mu) : J X G 3 3 y (emy y) rvI tpT 0 [(0, .int v0)] [] (μ, y) (Sm_fridays  v0 μ) := by
  unfold Sm_fridays
  refine J_iconst (pc := 0) (n := 0) (v := 0) hX (by decide +kernel) (by decide +kernel) ?_
  refine J_istore_n (k0 := 1) (pc := 1) [(1, .int 0), (0, .int v0)] hX (by decide +kernel) rfl (by decide) rfl ?_
  refine J_iconst (pc := 2) (n := 1) (v := 1) hX (by decide +kernel) (by decide +kernel) ?_
  refine J_istore_n (k0 := 2) (pc := 3) [(2, .int 1), (1, .int 0), (0, .int v0)] hX (by decide +kernel) rfl (by decide) rfl ?_
  exact J_sub [2, 1, 0] _ rfl (jSm_fridays_4 hX v0 FU 0 1 μ)
set_option maxRecDepth 100000 in
set_option maxHeartbeats 4000000 in
theorem c_Sm_fridays {l : Launch} {G : Gx} {y : Ly}   (v0 : Int32) (μ : Mu) : Cn l G ⟨"SaltFigures$Sums", "fridays", "(I)I"⟩ prog_8_method_7_code 3 (some .int) 3 [.int v0] (μ, y) (emy y) rvI tpT (Sm_fridays  v0 μ) := cn_of (by decide +kernel) (Nat.le_of_ble_eq_true rfl) (fun _ _ _ => ⟨List.prefix_refl _, trivial⟩) (fun X hX _ => jSm_fridays  hX v0 μ)

def Sf_week_19 (a : Nat)     (μ : Mu) : Option (Int32 × Mu) := some ((-1000000), μ)
def Sf_week (a : Nat) (v1 : Int32) (v2 : Int32) (v3 : Int32) (v4 : Int32) (μ : Mu) : Option (Int32 × Mu) := cl (Sm_isDate v1 v2 v3 μ) (fun x2 μ1 => (if x2 = 0 then Sf_week_19 a μ1 else cl (Sf_within v4 0 2 μ1) (fun x4 μ3 => (if x4 = 0 then Sf_week_19 a μ3 else cl (Sm_dayNumber v1 v2 v3 μ3) (fun x6 μ5 => (if v4 = 0 then cl (Sm_weekday x6 μ5) (fun x11 μ10 => some (x11, μ10)) else (if v4 = 1 then cl (Sm_fridays v1 μ5) (fun x9 μ8 => some (x9, μ8)) else gF μ5 (a + 1 + 17) 0 (fun x7 => some (x6 - x7, μ5)))))))))
set_option maxRecDepth 100000 in
set_option maxHeartbeats 4000000 in
theorem jSf_week_19 {X : Cx} {l : Launch} {G : Gx} {y : Ly} {a : Nat} (hL : LySf y a ) (hX : Ok X l G prog_1_method_19_code 6 (some .int) "SaltFigures")      (μ : Mu) : J X G 6 4 y (emy y) rvI tpT 19 [] [] (μ, y) (Sf_week_19 a     μ) := by
  unfold Sf_week_19
  refine J_ldc (pc := 19) (idx := 228) (v := (-1000000)) hX (by decide +kernel) (mq mt_4 167 (by decide +kernel)) ?_
  exact J_iret (pc := 21) hX (by decide +kernel) rfl trivial
set_option maxRecDepth 100000 in
set_option maxHeartbeats 4000000 in
theorem jSf_week {X : Cx} {l : Launch} {G : Gx} {y : Ly} {a : Nat} (hL : LySf y a ) (hX : Ok X l G prog_1_method_19_code 6 (some .int) "SaltFigures") (v1 : Int32) (v2 : Int32) (v3 : Int32) (v4 : Int32) (μ : Mu) : J X G 6 4 y (emy y) rvI tpT 0 [(0, .ref (G.1 + a)), (1, .int v1), (2, .int v2), (3, .int v3), (4, .int v4)] [] (μ, y) (Sf_week a v1 v2 v3 v4 μ) := by
  unfold Sf_week
  refine J_iload_n (k0 := 1) (pc := 0) 1 hX (by decide +kernel) rfl rfl ?_
  refine J_iload_n (k0 := 2) (pc := 1) 2 hX (by decide +kernel) rfl rfl ?_
  refine J_iload_n (k0 := 3) (pc := 2) 3 hX (by decide +kernel) rfl rfl ?_
  refine J_cSi (pc := 3) (idx := 214) [.int v1, .int v2, .int v3] hX (by decide +kernel) (mq mt_4 149 (by decide +kernel)) mv_Sm_isDate rfl rfl (Nat.le_of_ble_eq_true rfl) (Nat.le_of_ble_eq_true rfl) (c_Sm_isDate v1 v2 v3 μ) (fun x2 μ1 => ?_)
  refine J_if_eq (pc := 6) (off := 13) (tgt := 19) hX (by decide +kernel) (by decide +kernel) (fun _ => ?_) (fun _ => ?_)
  · exact J_sub [] _ rfl (jSf_week_19 hL hX μ1)
  · refine J_iload (pc := 9) 4 hX (by decide +kernel) rfl ?_
    refine J_iconst (pc := 11) (n := 0) (v := 0) hX (by decide +kernel) (by decide +kernel) ?_
    refine J_iconst (pc := 12) (n := 2) (v := 2) hX (by decide +kernel) (by decide +kernel) ?_
    refine J_cSi (pc := 13) (idx := 68) [.int v4, .int 0, .int 2] hX (by decide +kernel) (mq mt_2 148 (by decide +kernel)) mv_Sf_within rfl rfl (Nat.le_of_ble_eq_true rfl) (Nat.le_of_ble_eq_true rfl) (c_Sf_within v4 0 2 μ1) (fun x4 μ3 => ?_)
    refine J_if_ne (pc := 16) (off := 6) (tgt := 22) hX (by decide +kernel) (by decide +kernel) (fun _ => ?_) (fun _ => ?_)
    · refine J_iload_n (k0 := 1) (pc := 22) 1 hX (by decide +kernel) rfl rfl ?_
      refine J_iload_n (k0 := 2) (pc := 23) 2 hX (by decide +kernel) rfl rfl ?_
      refine J_iload_n (k0 := 3) (pc := 24) 3 hX (by decide +kernel) rfl rfl ?_
      refine J_cSi (pc := 25) (idx := 219) [.int v1, .int v2, .int v3] hX (by decide +kernel) (mq mt_4 157 (by decide +kernel)) mv_Sm_dayNumber rfl rfl (Nat.le_of_ble_eq_true rfl) (Nat.le_of_ble_eq_true rfl) (c_Sm_dayNumber v1 v2 v3 μ3) (fun x6 μ5 => ?_)
      refine J_istore (pc := 28) [(5, .int x6), (0, .ref (G.1 + a)), (1, .int v1), (2, .int v2), (3, .int v3), (4, .int v4)] hX (by decide +kernel) (by decide) rfl ?_
      refine J_iload (pc := 30) 5 hX (by decide +kernel) rfl ?_
      refine J_if_ne (pc := 32) (off := 9) (tgt := 41) hX (by decide +kernel) (by decide +kernel) (fun _ => ?_) (fun _ => ?_)
      · refine J_iload (pc := 41) 5 hX (by decide +kernel) rfl ?_
        refine J_iconst (pc := 43) (n := 1) (v := 1) hX (by decide +kernel) (by decide +kernel) ?_
        refine J_icmp_ne (pc := 44) (off := 10) (tgt := 54) hX (by decide +kernel) (by decide +kernel) (fun _ => ?_) (fun _ => ?_)
        · refine J_iload (pc := 54) 0 hX (by decide +kernel) rfl ?_
          refine J_aload_n (k0 := 0) (pc := 56) 1 hX (by decide +kernel) rfl rfl ?_
          refine J_gr (pc := 57) hX (by decide +kernel) fl_Sf_12 hL.1 rfl hL.2.1.1 ?_
          refine J_gr (pc := 60) hX (by decide +kernel) fl_Sf_36 hL.2.1.2.1 rfl hL.2.1.2.2.2.2.2.1.1 ?_
          refine J_gF (pc := 63) hX (by decide +kernel) fl_Sf_223 hL.2.1.2.2.2.2.2.1.2.1 rfl (fun x7 => ?_)
          refine J_isub (pc := 66) hX (by decide +kernel) ?_
          exact J_iret (pc := 67) hX (by decide +kernel) rfl trivial
        · refine J_iload_n (k0 := 1) (pc := 47) 2 hX (by decide +kernel) rfl rfl ?_
          refine J_cSi (pc := 48) (idx := 232) [.int v1] hX (by decide +kernel) (mq mt_4 174 (by decide +kernel)) mv_Sm_fridays rfl rfl (Nat.le_of_ble_eq_true rfl) (Nat.le_of_ble_eq_true rfl) (c_Sm_fridays v1 μ5) (fun x9 μ8 => ?_)
          refine J_goto (pc := 51) (off := 16) (tgt := 67) hX (by decide +kernel) (by decide +kernel) ?_
          exact J_iret (pc := 67) hX (by decide +kernel) rfl trivial
      · refine J_iload (pc := 35) 0 hX (by decide +kernel) rfl ?_
        refine J_cSi (pc := 37) (idx := 229) [.int x6] hX (by decide +kernel) (mq mt_4 168 (by decide +kernel)) mv_Sm_weekday rfl rfl (Nat.le_of_ble_eq_true rfl) (Nat.le_of_ble_eq_true rfl) (c_Sm_weekday x6 μ5) (fun x11 μ10 => ?_)
        exact J_iret (pc := 40) hX (by decide +kernel) rfl trivial
    · exact J_sub [] _ rfl (jSf_week_19 hL hX μ3)
set_option maxRecDepth 100000 in
set_option maxHeartbeats 4000000 in
theorem c_Sf_week {l : Launch} {G : Gx} {y : Ly} {a : Nat} (hL : LySf y a ) (v1 : Int32) (v2 : Int32) (v3 : Int32) (v4 : Int32) (μ : Mu) : Cn l G ⟨"SaltFigures", "week", "(IIII)I"⟩ prog_1_method_19_code 6 (some .int) 4 [.ref (G.1 + a), .int v1, .int v2, .int v3, .int v4] (μ, y) (emy y) rvI tpT (Sf_week a v1 v2 v3 v4 μ) := cn_of (by decide +kernel) (Nat.le_of_ble_eq_true rfl) (fun _ _ _ => ⟨List.prefix_refl _, trivial⟩) (fun X hX _ => jSf_week hL hX v1 v2 v3 v4 μ)

def Th_laidWays_4b (a tt : Nat)  (kb4 : Int32 → Int32 → Mu → Option (Int32 × Mu))  (v1 : Int32) (v2 : Int32)  (μ : Mu) : Option (Int32 × Mu) := gF μ (tt + 5) 3 (fun x1 => (if x1 ≤ v2 then some (v1, μ) else kb4 (v1 * 3) (v2 + 1) μ))
def Th_laidWays_4 (a tt : Nat)   (fu : Nat) : Int32 → Int32 → Mu → Option (Int32 × Mu) := lp (fun kb => Th_laidWays_4b a tt  kb ) (fun _ _ _ => none) fu
def Th_laidWays (a tt : Nat)  (μ : Mu) : Option (Int32 × Mu) := Th_laidWays_4 a tt FU 1 0 μ
set_option maxRecDepth 100000 in
set_option maxHeartbeats 4000000 in
theorem jTh_laidWays_4b {X : Cx} {l : Launch} {G : Gx} {y : Ly} {a tt : Nat} (hL : LyTh y a tt) (hX : Ok X l G prog_10_method_12_code 3 (some .int) "SaltFigures$Thinker")   {kb4 : Int32 → Int32 → Mu → Option (Int32 × Mu)}  (hk4 : ∀ (v1 : Int32) (v2 : Int32) (μ : Mu), J X G 3 1 y (emy y) rvI tpT 4 [(0, .ref (G.1 + a)), (1, .int v1), (2, .int v2)] [] (μ, y) (kb4 v1 v2 μ)) (v1 : Int32) (v2 : Int32)  (μ : Mu) : J X G 3 1 y (emy y) rvI tpT 4 [(0, .ref (G.1 + a)), (1, .int v1), (2, .int v2)] [] (μ, y) (Th_laidWays_4b a tt  kb4  v1 v2  μ) := by
  unfold Th_laidWays_4b
  refine J_iload_n (k0 := 2) (pc := 4) 2 hX (by decide +kernel) rfl rfl ?_
  refine J_aload_n (k0 := 0) (pc := 5) 0 hX (by decide +kernel) rfl rfl ?_
  refine J_gr (pc := 6) hX (by decide +kernel) fl_Th_18 hL.1 rfl hL.2.1.1 ?_
  refine J_gr (pc := 9) hX (by decide +kernel) fl_Th_85 hL.2.1.2.1 rfl hL.2.1.2.2.2.2.1.1 ?_
  refine J_gF (pc := 12) hX (by decide +kernel) fl_Th_28 hL.2.1.2.2.2.2.1.2.1 rfl (fun x1 => ?_)
  refine J_icmp_ge (pc := 15) (off := 13) (tgt := 28) hX (by decide +kernel) (by decide +kernel) (fun _ => ?_) (fun _ => ?_)
  · refine J_iload_n (k0 := 1) (pc := 28) 1 hX (by decide +kernel) rfl rfl ?_
    exact J_iret (pc := 29) hX (by decide +kernel) rfl trivial
  · refine J_iload_n (k0 := 1) (pc := 18) 1 hX (by decide +kernel) rfl rfl ?_
    refine J_iconst (pc := 19) (n := 3) (v := 3) hX (by decide +kernel) (by decide +kernel) ?_
    refine J_imul (pc := 20) hX (by decide +kernel) ?_
    refine J_istore_n (k0 := 1) (pc := 21) [(1, .int (v1 * 3)), (0, .ref (G.1 + a)), (2, .int v2)] hX (by decide +kernel) rfl (by decide) rfl ?_
    refine J_iinc (pc := 22) (n := 1) 2 [(2, .int (v2 + 1)), (1, .int (v1 * 3)), (0, .ref (G.1 + a))] hX (by decide +kernel) rfl rfl (by decide) rfl ?_
    refine J_goto (pc := 25) (off := -21) (tgt := 4) hX (by decide +kernel) (by decide +kernel) ?_
    exact J_sub [2, 1, 0] _ rfl (hk4 (v1 * 3) (v2 + 1) μ)
set_option maxRecDepth 100000 in
set_option maxHeartbeats 4000000 in
theorem jTh_laidWays_4 {X : Cx} {l : Launch} {G : Gx} {y : Ly} {a tt : Nat} (hL : LyTh y a tt) (hX : Ok X l G prog_10_method_12_code 3 (some .int) "SaltFigures$Thinker")    : ∀ (fu : Nat) (v1 : Int32) (v2 : Int32) (μ : Mu), J X G 3 1 y (emy y) rvI tpT 4 [(0, .ref (G.1 + a)), (1, .int v1), (2, .int v2)] [] (μ, y) (Th_laidWays_4 a tt   fu v1 v2 μ) := by
  intro fu
  induction fu with
  | zero => intros; exact J_none
  | succ fu ih => intro v1 v2 μ; exact jTh_laidWays_4b hL hX   ih v1 v2 μ
set_option maxRecDepth 100000 in
set_option maxHeartbeats 4000000 in
theorem jTh_laidWays {X : Cx} {l : Launch} {G : Gx} {y : Ly} {a tt : Nat} (hL : LyTh y a tt) (hX : Ok X l G prog_10_method_12_code 3 (some .int) "SaltFigures$Thinker")  (μ : Mu) : J X G 3 1 y (emy y) rvI tpT 0 [(0, .ref (G.1 + a))] [] (μ, y) (Th_laidWays a tt  μ) := by
  unfold Th_laidWays
  refine J_iconst (pc := 0) (n := 1) (v := 1) hX (by decide +kernel) (by decide +kernel) ?_
  refine J_istore_n (k0 := 1) (pc := 1) [(1, .int 1), (0, .ref (G.1 + a))] hX (by decide +kernel) rfl (by decide) rfl ?_
  refine J_iconst (pc := 2) (n := 0) (v := 0) hX (by decide +kernel) (by decide +kernel) ?_
  refine J_istore_n (k0 := 2) (pc := 3) [(2, .int 0), (1, .int 1), (0, .ref (G.1 + a))] hX (by decide +kernel) rfl (by decide) rfl ?_
  exact J_sub [2, 1, 0] _ rfl (jTh_laidWays_4 hL hX FU 1 0 μ)
set_option maxRecDepth 100000 in
set_option maxHeartbeats 4000000 in
theorem c_Th_laidWays {l : Launch} {G : Gx} {y : Ly} {a tt : Nat} (hL : LyTh y a tt)  (μ : Mu) : Cn l G ⟨"SaltFigures$Thinker", "laidWays", "()I"⟩ prog_10_method_12_code 3 (some .int) 1 [.ref (G.1 + a)] (μ, y) (emy y) rvI tpT (Th_laidWays a tt  μ) := cn_of (by decide +kernel) (Nat.le_of_ble_eq_true rfl) (fun _ _ _ => ⟨List.prefix_refl _, trivial⟩) (fun X hX _ => jTh_laidWays hL hX  μ)

def Th_weighed_7b (a tt : Nat)  (kb7 : Int32 → Int32 → Int32 → Mu → Option (Int32 × Mu))  (v2 : Int32) (v3 : Int32) (v4 : Int32)  (μ : Mu) : Option (Int32 × Mu) := gF μ (tt + 5) 3 (fun x1 => (if x1 ≤ v4 then some (v2, μ) else cl (Rw_at (tt + 5) 6 v4 μ) (fun x3 μ2 => kb7 (v2 + (((jrem v3 3) - 1) * x3)) (v3 / 3) (v4 + 1) μ2)))
def Th_weighed_7 (a tt : Nat)   (fu : Nat) : Int32 → Int32 → Int32 → Mu → Option (Int32 × Mu) := lp (fun kb => Th_weighed_7b a tt  kb ) (fun _ _ _ _ => none) fu
def Th_weighed (a tt : Nat) (v1 : Int32) (μ : Mu) : Option (Int32 × Mu) := Th_weighed_7 a tt FU 0 v1 0 μ
set_option maxRecDepth 100000 in
set_option maxHeartbeats 4000000 in
theorem jTh_weighed_7b {X : Cx} {l : Launch} {G : Gx} {y : Ly} {a tt : Nat} (hL : LyTh y a tt) (hX : Ok X l G prog_10_method_13_code 5 (some .int) "SaltFigures$Thinker")   {kb7 : Int32 → Int32 → Int32 → Mu → Option (Int32 × Mu)}  (hk7 : ∀ (v2 : Int32) (v3 : Int32) (v4 : Int32) (μ : Mu), J X G 5 2 y (emy y) rvI tpT 7 [(0, .ref (G.1 + a)), (2, .int v2), (3, .int v3), (4, .int v4)] [] (μ, y) (kb7 v2 v3 v4 μ)) (v2 : Int32) (v3 : Int32) (v4 : Int32)  (μ : Mu) : J X G 5 2 y (emy y) rvI tpT 7 [(0, .ref (G.1 + a)), (2, .int v2), (3, .int v3), (4, .int v4)] [] (μ, y) (Th_weighed_7b a tt  kb7  v2 v3 v4  μ) := by
  unfold Th_weighed_7b
  refine J_iload (pc := 7) 3 hX (by decide +kernel) rfl ?_
  refine J_aload_n (k0 := 0) (pc := 9) 0 hX (by decide +kernel) rfl rfl ?_
  refine J_gr (pc := 10) hX (by decide +kernel) fl_Th_18 hL.1 rfl hL.2.1.1 ?_
  refine J_gr (pc := 13) hX (by decide +kernel) fl_Th_85 hL.2.1.2.1 rfl hL.2.1.2.2.2.2.1.1 ?_
  refine J_gF (pc := 16) hX (by decide +kernel) fl_Th_28 hL.2.1.2.2.2.2.1.2.1 rfl (fun x1 => ?_)
  refine J_icmp_ge (pc := 19) (off := 34) (tgt := 53) hX (by decide +kernel) (by decide +kernel) (fun _ => ?_) (fun _ => ?_)
  · refine J_iload_n (k0 := 2) (pc := 53) 1 hX (by decide +kernel) rfl rfl ?_
    exact J_iret (pc := 54) hX (by decide +kernel) rfl trivial
  · refine J_iload_n (k0 := 2) (pc := 22) 1 hX (by decide +kernel) rfl rfl ?_
    refine J_iload_n (k0 := 3) (pc := 23) 2 hX (by decide +kernel) rfl rfl ?_
    refine J_iconst (pc := 24) (n := 3) (v := 3) hX (by decide +kernel) (by decide +kernel) ?_
    refine J_iremK (pc := 25) hX (by decide +kernel) (by decide +kernel) ?_
    refine J_iconst (pc := 26) (n := 1) (v := 1) hX (by decide +kernel) (by decide +kernel) ?_
    refine J_isub (pc := 27) hX (by decide +kernel) ?_
    refine J_aload_n (k0 := 0) (pc := 28) 0 hX (by decide +kernel) rfl rfl ?_
    refine J_gr (pc := 29) hX (by decide +kernel) fl_Th_18 hL.1 rfl hL.2.1.1 ?_
    refine J_gr (pc := 32) hX (by decide +kernel) fl_Th_85 hL.2.1.2.1 rfl hL.2.1.2.2.2.2.1.1 ?_
    refine J_iload (pc := 35) 3 hX (by decide +kernel) rfl ?_
    refine J_cVi (pc := 37) (idx := 34) [.int v4] hX (by decide +kernel) (mq mt_4 191 (by decide +kernel)) mv_Rw_at hL.2.1.2.2.2.2.1.2.1 rfl rfl (Nat.le_of_ble_eq_true rfl) (Nat.le_of_ble_eq_true rfl) (c_Rw_at hL.2.1.2.2.2.2.1.2 v4 μ) (fun x3 μ2 => ?_)
    refine J_imul (pc := 40) hX (by decide +kernel) ?_
    refine J_iadd (pc := 41) hX (by decide +kernel) ?_
    refine J_istore_n (k0 := 2) (pc := 42) [(2, .int (v2 + (((jrem v3 3) - 1) * x3))), (0, .ref (G.1 + a)), (3, .int v3), (4, .int v4)] hX (by decide +kernel) rfl (by decide) rfl ?_
    refine J_iload_n (k0 := 3) (pc := 43) 2 hX (by decide +kernel) rfl rfl ?_
    refine J_iconst (pc := 44) (n := 3) (v := 3) hX (by decide +kernel) (by decide +kernel) ?_
    refine J_idivK (pc := 45) hX (by decide +kernel) (by decide +kernel) ?_
    refine J_istore_n (k0 := 3) (pc := 46) [(3, .int (v3 / 3)), (2, .int (v2 + (((jrem v3 3) - 1) * x3))), (0, .ref (G.1 + a)), (4, .int v4)] hX (by decide +kernel) rfl (by decide) rfl ?_
    refine J_iinc (pc := 47) (n := 1) 3 [(4, .int (v4 + 1)), (3, .int (v3 / 3)), (2, .int (v2 + (((jrem v3 3) - 1) * x3))), (0, .ref (G.1 + a))] hX (by decide +kernel) rfl rfl (by decide) rfl ?_
    refine J_goto (pc := 50) (off := -43) (tgt := 7) hX (by decide +kernel) (by decide +kernel) ?_
    exact J_sub [3, 2, 1, 0] _ rfl (hk7 (v2 + (((jrem v3 3) - 1) * x3)) (v3 / 3) (v4 + 1) μ2)
set_option maxRecDepth 100000 in
set_option maxHeartbeats 4000000 in
theorem jTh_weighed_7 {X : Cx} {l : Launch} {G : Gx} {y : Ly} {a tt : Nat} (hL : LyTh y a tt) (hX : Ok X l G prog_10_method_13_code 5 (some .int) "SaltFigures$Thinker")    : ∀ (fu : Nat) (v2 : Int32) (v3 : Int32) (v4 : Int32) (μ : Mu), J X G 5 2 y (emy y) rvI tpT 7 [(0, .ref (G.1 + a)), (2, .int v2), (3, .int v3), (4, .int v4)] [] (μ, y) (Th_weighed_7 a tt   fu v2 v3 v4 μ) := by
  intro fu
  induction fu with
  | zero => intros; exact J_none
  | succ fu ih => intro v2 v3 v4 μ; exact jTh_weighed_7b hL hX   ih v2 v3 v4 μ
set_option maxRecDepth 100000 in
set_option maxHeartbeats 4000000 in
theorem jTh_weighed {X : Cx} {l : Launch} {G : Gx} {y : Ly} {a tt : Nat} (hL : LyTh y a tt) (hX : Ok X l G prog_10_method_13_code 5 (some .int) "SaltFigures$Thinker") (v1 : Int32) (μ : Mu) : J X G 5 2 y (emy y) rvI tpT 0 [(0, .ref (G.1 + a)), (1, .int v1)] [] (μ, y) (Th_weighed a tt v1 μ) := by
  unfold Th_weighed
  refine J_iconst (pc := 0) (n := 0) (v := 0) hX (by decide +kernel) (by decide +kernel) ?_
  refine J_istore_n (k0 := 2) (pc := 1) [(2, .int 0), (0, .ref (G.1 + a)), (1, .int v1)] hX (by decide +kernel) rfl (by decide) rfl ?_
  refine J_iload_n (k0 := 1) (pc := 2) 2 hX (by decide +kernel) rfl rfl ?_
  refine J_istore_n (k0 := 3) (pc := 3) [(3, .int v1), (2, .int 0), (0, .ref (G.1 + a)), (1, .int v1)] hX (by decide +kernel) rfl (by decide) rfl ?_
  refine J_iconst (pc := 4) (n := 0) (v := 0) hX (by decide +kernel) (by decide +kernel) ?_
  refine J_istore (pc := 5) [(4, .int 0), (3, .int v1), (2, .int 0), (0, .ref (G.1 + a)), (1, .int v1)] hX (by decide +kernel) (by decide) rfl ?_
  exact J_sub [3, 2, 1, 0] _ rfl (jTh_weighed_7 hL hX FU 0 v1 0 μ)
set_option maxRecDepth 100000 in
set_option maxHeartbeats 4000000 in
theorem c_Th_weighed {l : Launch} {G : Gx} {y : Ly} {a tt : Nat} (hL : LyTh y a tt) (v1 : Int32) (μ : Mu) : Cn l G ⟨"SaltFigures$Thinker", "weighed", "(I)I"⟩ prog_10_method_13_code 5 (some .int) 2 [.ref (G.1 + a), .int v1] (μ, y) (emy y) rvI tpT (Th_weighed a tt v1 μ) := cn_of (by decide +kernel) (Nat.le_of_ble_eq_true rfl) (fun _ _ _ => ⟨List.prefix_refl _, trivial⟩) (fun X hX _ => jTh_weighed hL hX v1 μ)

def Th_balancedNumbers_63 (a tt : Nat) (kb17 : Int32 → Int32 → Mu → Option (Int32 × Mu))  (v1 : Int32) (v2 : Int32) (v3 : Int32)  (μ : Mu) : Option (Int32 × Mu) := kb17 v1 (v3 + 1) μ
def Th_balancedNumbers_17b (a tt : Nat)  (kb17 : Int32 → Int32 → Mu → Option (Int32 × Mu)) (v2 : Int32) (v1 : Int32) (v3 : Int32)  (μ : Mu) : Option (Int32 × Mu) := (if v2 ≤ v3 then some (v1, μ) else cl (Th_weighed a tt v3 μ) (fun x2 μ1 => (if x2 ≤ 0 then Th_balancedNumbers_63 a tt kb17 v1 v2 v3 μ1 else (if 361 ≤ x2 then Th_balancedNumbers_63 a tt kb17 v1 v2 v3 μ1 else ldA μ1 (a + 1) 361 x2 (fun x3 => (if x3 = 0 then stA μ1 (a + 1) 361 x2 1 (fun μ4 => Th_balancedNumbers_63 a tt kb17 (v1 + 1) v2 v3 μ4) else Th_balancedNumbers_63 a tt kb17 v1 v2 v3 μ1))))))
def Th_balancedNumbers_17 (a tt : Nat)  (v2 : Int32) (fu : Nat) : Int32 → Int32 → Mu → Option (Int32 × Mu) := lp (fun kb => Th_balancedNumbers_17b a tt  kb v2) (fun _ _ _ => none) fu
def Th_balancedNumbers (a tt : Nat)  (μ : Mu) : Option (Int32 × Mu) := cl (Ja_fill (a + 1) 361 0 μ) (fun _ μ1 => cl (Th_laidWays a tt μ1) (fun x3 μ2 => Th_balancedNumbers_17 a tt x3 FU 0 0 μ2))
set_option maxRecDepth 100000 in
set_option maxHeartbeats 4000000 in
theorem jTh_balancedNumbers_63 {X : Cx} {l : Launch} {G : Gx} {y : Ly} {a tt : Nat} (hL : LyTh y a tt) (hX : Ok X l G prog_10_method_11_code 5 (some .int) "SaltFigures$Thinker")  (v1 : Int32) (v2 : Int32) (v3 : Int32)  {kb17 : Int32 → Int32 → Mu → Option (Int32 × Mu)} (hk17 : ∀ (v1 : Int32) (v3 : Int32) (μ : Mu), J X G 5 3 y (emy y) rvI tpT 17 [(0, .ref (G.1 + a)), (1, .int v1), (2, .int v2), (3, .int v3)] [] (μ, y) (kb17 v1 v3 μ)) (μ : Mu) : J X G 5 3 y (emy y) rvI tpT 63 [(0, .ref (G.1 + a)), (1, .int v1), (2, .int v2), (3, .int v3)] [] (μ, y) (Th_balancedNumbers_63 a tt kb17  v1 v2 v3  μ) := by
  unfold Th_balancedNumbers_63
  refine J_iinc (pc := 63) (n := 1) 3 [(3, .int (v3 + 1)), (0, .ref (G.1 + a)), (1, .int v1), (2, .int v2)] hX (by decide +kernel) rfl rfl (by decide) rfl ?_
  refine J_goto (pc := 66) (off := -49) (tgt := 17) hX (by decide +kernel) (by decide +kernel) ?_
  exact J_sub [1, 2, 3, 0] _ rfl (hk17 v1 (v3 + 1) μ)
set_option maxRecDepth 100000 in
set_option maxHeartbeats 4000000 in
theorem jTh_balancedNumbers_17b {X : Cx} {l : Launch} {G : Gx} {y : Ly} {a tt : Nat} (hL : LyTh y a tt) (hX : Ok X l G prog_10_method_11_code 5 (some .int) "SaltFigures$Thinker") (v2 : Int32)  {kb17 : Int32 → Int32 → Mu → Option (Int32 × Mu)}  (hk17 : ∀ (v1 : Int32) (v3 : Int32) (μ : Mu), J X G 5 3 y (emy y) rvI tpT 17 [(0, .ref (G.1 + a)), (1, .int v1), (2, .int v2), (3, .int v3)] [] (μ, y) (kb17 v1 v3 μ)) (v1 : Int32) (v3 : Int32)  (μ : Mu) : J X G 5 3 y (emy y) rvI tpT 17 [(0, .ref (G.1 + a)), (1, .int v1), (2, .int v2), (3, .int v3)] [] (μ, y) (Th_balancedNumbers_17b a tt  kb17 v2 v1 v3  μ) := by
  unfold Th_balancedNumbers_17b
  refine J_iload_n (k0 := 3) (pc := 17) 3 hX (by decide +kernel) rfl rfl ?_
  refine J_iload_n (k0 := 2) (pc := 18) 2 hX (by decide +kernel) rfl rfl ?_
  refine J_icmp_ge (pc := 19) (off := 50) (tgt := 69) hX (by decide +kernel) (by decide +kernel) (fun _ => ?_) (fun _ => ?_)
  · refine J_iload_n (k0 := 1) (pc := 69) 1 hX (by decide +kernel) rfl rfl ?_
    exact J_iret (pc := 70) hX (by decide +kernel) rfl trivial
  · refine J_aload_n (k0 := 0) (pc := 22) 0 hX (by decide +kernel) rfl rfl ?_
    refine J_iload_n (k0 := 3) (pc := 23) 3 hX (by decide +kernel) rfl rfl ?_
    refine J_cVi (pc := 24) (idx := 76) [.int v3] hX (by decide +kernel) (mq mt_5 37 (by decide +kernel)) mv_Th_weighed hL.1 rfl rfl (Nat.le_of_ble_eq_true rfl) (Nat.le_of_ble_eq_true rfl) (c_Th_weighed hL v3 μ) (fun x2 μ1 => ?_)
    refine J_istore (pc := 27) [(4, .int x2), (0, .ref (G.1 + a)), (1, .int v1), (2, .int v2), (3, .int v3)] hX (by decide +kernel) (by decide) rfl ?_
    refine J_iload (pc := 29) 0 hX (by decide +kernel) rfl ?_
    refine J_if_le (pc := 31) (off := 32) (tgt := 63) hX (by decide +kernel) (by decide +kernel) (fun _ => ?_) (fun _ => ?_)
    · exact J_sub [1, 2, 3, 4] _ rfl (jTh_balancedNumbers_63 hL hX v1 v2 v3 hk17 μ1)
    · refine J_iload (pc := 34) 0 hX (by decide +kernel) rfl ?_
      refine J_sipush (pc := 36) (n := 361) (v := 361) hX (by decide +kernel) (by decide +kernel) ?_
      refine J_icmp_ge (pc := 39) (off := 24) (tgt := 63) hX (by decide +kernel) (by decide +kernel) (fun _ => ?_) (fun _ => ?_)
      · exact J_sub [1, 2, 3, 4] _ rfl (jTh_balancedNumbers_63 hL hX v1 v2 v3 hk17 μ1)
      · refine J_aload_n (k0 := 0) (pc := 42) 1 hX (by decide +kernel) rfl rfl ?_
        refine J_gr (pc := 43) hX (by decide +kernel) fl_Th_11 hL.1 rfl hL.2.2.1.1 ?_
        refine J_iload (pc := 46) 0 hX (by decide +kernel) rfl ?_
        refine J_ldA (pc := 48) hX (by decide +kernel) hL.2.2.1.2 (fun x3 => ?_)
        refine J_if_ne (pc := 49) (off := 14) (tgt := 63) hX (by decide +kernel) (by decide +kernel) (fun _ => ?_) (fun _ => ?_)
        · exact J_sub [1, 2, 3, 4] _ rfl (jTh_balancedNumbers_63 hL hX v1 v2 v3 hk17 μ1)
        · refine J_aload_n (k0 := 0) (pc := 52) 1 hX (by decide +kernel) rfl rfl ?_
          refine J_gr (pc := 53) hX (by decide +kernel) fl_Th_11 hL.1 rfl hL.2.2.1.1 ?_
          refine J_iload (pc := 56) 0 hX (by decide +kernel) rfl ?_
          refine J_iconst (pc := 58) (n := 1) (v := 1) hX (by decide +kernel) (by decide +kernel) ?_
          refine J_stA (pc := 59) hX (by decide +kernel) hL.2.2.1.2 (fun μ4 => ?_)
          refine J_iinc (pc := 60) (n := 1) 2 [(1, .int (v1 + 1)), (4, .int x2), (0, .ref (G.1 + a)), (2, .int v2), (3, .int v3)] hX (by decide +kernel) rfl rfl (by decide) rfl ?_
          exact J_sub [2, 0, 3, 4] _ rfl (jTh_balancedNumbers_63 hL hX (v1 + 1) v2 v3 hk17 μ4)
set_option maxRecDepth 100000 in
set_option maxHeartbeats 4000000 in
theorem jTh_balancedNumbers_17 {X : Cx} {l : Launch} {G : Gx} {y : Ly} {a tt : Nat} (hL : LyTh y a tt) (hX : Ok X l G prog_10_method_11_code 5 (some .int) "SaltFigures$Thinker") (v2 : Int32)   : ∀ (fu : Nat) (v1 : Int32) (v3 : Int32) (μ : Mu), J X G 5 3 y (emy y) rvI tpT 17 [(0, .ref (G.1 + a)), (1, .int v1), (2, .int v2), (3, .int v3)] [] (μ, y) (Th_balancedNumbers_17 a tt  v2 fu v1 v3 μ) := by
  intro fu
  induction fu with
  | zero => intros; exact J_none
  | succ fu ih => intro v1 v3 μ; exact jTh_balancedNumbers_17b hL hX v2  ih v1 v3 μ
set_option maxRecDepth 100000 in
set_option maxHeartbeats 4000000 in
theorem jTh_balancedNumbers {X : Cx} {l : Launch} {G : Gx} {y : Ly} {a tt : Nat} (hL : LyTh y a tt) (hX : Ok X l G prog_10_method_11_code 5 (some .int) "SaltFigures$Thinker")  (μ : Mu) : J X G 5 3 y (emy y) rvI tpT 0 [(0, .ref (G.1 + a))] [] (μ, y) (Th_balancedNumbers a tt  μ) := by
  unfold Th_balancedNumbers
  refine J_aload_n (k0 := 0) (pc := 0) 0 hX (by decide +kernel) rfl rfl ?_
  refine J_gr (pc := 1) hX (by decide +kernel) fl_Th_11 hL.1 rfl hL.2.2.1.1 ?_
  refine J_iconst (pc := 4) (n := 0) (v := 0) hX (by decide +kernel) (by decide +kernel) ?_
  refine J_cSv (pc := 5) (idx := 79) [.ref (G.1 + (a + 1)), .int 0] hX (by decide +kernel) (mq mt_5 32 (by decide +kernel)) mv_Ja_fill rfl rfl (Nat.le_of_ble_eq_true rfl) (Nat.le_of_ble_eq_true rfl) (c_Ja_fill hL.2.2.1.2 0 μ) (fun μ1 => ?_)
  refine J_iconst (pc := 8) (n := 0) (v := 0) hX (by decide +kernel) (by decide +kernel) ?_
  refine J_istore_n (k0 := 1) (pc := 9) [(1, .int 0), (0, .ref (G.1 + a))] hX (by decide +kernel) rfl (by decide) rfl ?_
  refine J_aload_n (k0 := 0) (pc := 10) 1 hX (by decide +kernel) rfl rfl ?_
  refine J_cVi (pc := 11) (idx := 73) [] hX (by decide +kernel) (mq mt_5 33 (by decide +kernel)) mv_Th_laidWays hL.1 rfl rfl (Nat.le_of_ble_eq_true rfl) (Nat.le_of_ble_eq_true rfl) (c_Th_laidWays hL μ1) (fun x3 μ2 => ?_)
  refine J_istore_n (k0 := 2) (pc := 14) [(2, .int x3), (1, .int 0), (0, .ref (G.1 + a))] hX (by decide +kernel) rfl (by decide) rfl ?_
  refine J_iconst (pc := 15) (n := 0) (v := 0) hX (by decide +kernel) (by decide +kernel) ?_
  refine J_istore_n (k0 := 3) (pc := 16) [(3, .int 0), (2, .int x3), (1, .int 0), (0, .ref (G.1 + a))] hX (by decide +kernel) rfl (by decide) rfl ?_
  exact J_sub [3, 2, 1, 0] _ rfl (jTh_balancedNumbers_17 hL hX x3 FU 0 0 μ2)
set_option maxRecDepth 100000 in
set_option maxHeartbeats 4000000 in
theorem c_Th_balancedNumbers {l : Launch} {G : Gx} {y : Ly} {a tt : Nat} (hL : LyTh y a tt)  (μ : Mu) : Cn l G ⟨"SaltFigures$Thinker", "balancedNumbers", "()I"⟩ prog_10_method_11_code 5 (some .int) 3 [.ref (G.1 + a)] (μ, y) (emy y) rvI tpT (Th_balancedNumbers a tt  μ) := cn_of (by decide +kernel) (Nat.le_of_ble_eq_true rfl) (fun _ _ _ => ⟨List.prefix_refl _, trivial⟩) (fun X hX _ => jTh_balancedNumbers hL hX  μ)

def Th_weighings_29 (a tt : Nat) (kb10 : Int32 → Int32 → Mu → Option (Int32 × Mu))  (v1 : Int32) (v2 : Int32) (v3 : Int32) (v4 : Int32)  (μ : Mu) : Option (Int32 × Mu) := kb10 v2 (v4 + 1) μ
def Th_weighings_10b (a tt : Nat)  (kb10 : Int32 → Int32 → Mu → Option (Int32 × Mu)) (v1 : Int32) (v3 : Int32) (v2 : Int32) (v4 : Int32)  (μ : Mu) : Option (Int32 × Mu) := (if v3 ≤ v4 then some (v2, μ) else cl (Th_weighed a tt v4 μ) (fun x2 μ1 => (if x2 = v1 then Th_weighings_29 a tt kb10 v1 (v2 + 1) v3 v4 μ1 else Th_weighings_29 a tt kb10 v1 v2 v3 v4 μ1)))
def Th_weighings_10 (a tt : Nat)  (v1 : Int32) (v3 : Int32) (fu : Nat) : Int32 → Int32 → Mu → Option (Int32 × Mu) := lp (fun kb => Th_weighings_10b a tt  kb v1 v3) (fun _ _ _ => none) fu
def Th_weighings (a tt : Nat) (v1 : Int32) (μ : Mu) : Option (Int32 × Mu) := cl (Th_laidWays a tt μ) (fun x2 μ1 => Th_weighings_10 a tt v1 x2 FU 0 0 μ1)
set_option maxRecDepth 100000 in
set_option maxHeartbeats 4000000 in
theorem jTh_weighings_29 {X : Cx} {l : Launch} {G : Gx} {y : Ly} {a tt : Nat} (hL : LyTh y a tt) (hX : Ok X l G prog_10_method_10_code 5 (some .int) "SaltFigures$Thinker")  (v1 : Int32) (v2 : Int32) (v3 : Int32) (v4 : Int32)  {kb10 : Int32 → Int32 → Mu → Option (Int32 × Mu)} (hk10 : ∀ (v2 : Int32) (v4 : Int32) (μ : Mu), J X G 5 3 y (emy y) rvI tpT 10 [(0, .ref (G.1 + a)), (1, .int v1), (2, .int v2), (3, .int v3), (4, .int v4)] [] (μ, y) (kb10 v2 v4 μ)) (μ : Mu) : J X G 5 3 y (emy y) rvI tpT 29 [(0, .ref (G.1 + a)), (1, .int v1), (2, .int v2), (3, .int v3), (4, .int v4)] [] (μ, y) (Th_weighings_29 a tt kb10  v1 v2 v3 v4  μ) := by
  unfold Th_weighings_29
  refine J_iinc (pc := 29) (n := 1) 4 [(4, .int (v4 + 1)), (0, .ref (G.1 + a)), (1, .int v1), (2, .int v2), (3, .int v3)] hX (by decide +kernel) rfl rfl (by decide) rfl ?_
  refine J_goto (pc := 32) (off := -22) (tgt := 10) hX (by decide +kernel) (by decide +kernel) ?_
  exact J_sub [1, 2, 3, 4, 0] _ rfl (hk10 v2 (v4 + 1) μ)
set_option maxRecDepth 100000 in
set_option maxHeartbeats 4000000 in
theorem jTh_weighings_10b {X : Cx} {l : Launch} {G : Gx} {y : Ly} {a tt : Nat} (hL : LyTh y a tt) (hX : Ok X l G prog_10_method_10_code 5 (some .int) "SaltFigures$Thinker") (v1 : Int32) (v3 : Int32)  {kb10 : Int32 → Int32 → Mu → Option (Int32 × Mu)}  (hk10 : ∀ (v2 : Int32) (v4 : Int32) (μ : Mu), J X G 5 3 y (emy y) rvI tpT 10 [(0, .ref (G.1 + a)), (1, .int v1), (2, .int v2), (3, .int v3), (4, .int v4)] [] (μ, y) (kb10 v2 v4 μ)) (v2 : Int32) (v4 : Int32)  (μ : Mu) : J X G 5 3 y (emy y) rvI tpT 10 [(0, .ref (G.1 + a)), (1, .int v1), (2, .int v2), (3, .int v3), (4, .int v4)] [] (μ, y) (Th_weighings_10b a tt  kb10 v1 v3 v2 v4  μ) := by
  unfold Th_weighings_10b
  refine J_iload (pc := 10) 4 hX (by decide +kernel) rfl ?_
  refine J_iload_n (k0 := 3) (pc := 12) 3 hX (by decide +kernel) rfl rfl ?_
  refine J_icmp_ge (pc := 13) (off := 22) (tgt := 35) hX (by decide +kernel) (by decide +kernel) (fun _ => ?_) (fun _ => ?_)
  · refine J_iload_n (k0 := 2) (pc := 35) 2 hX (by decide +kernel) rfl rfl ?_
    exact J_iret (pc := 36) hX (by decide +kernel) rfl trivial
  · refine J_aload_n (k0 := 0) (pc := 16) 0 hX (by decide +kernel) rfl rfl ?_
    refine J_iload (pc := 17) 4 hX (by decide +kernel) rfl ?_
    refine J_cVi (pc := 19) (idx := 76) [.int v4] hX (by decide +kernel) (mq mt_5 37 (by decide +kernel)) mv_Th_weighed hL.1 rfl rfl (Nat.le_of_ble_eq_true rfl) (Nat.le_of_ble_eq_true rfl) (c_Th_weighed hL v4 μ) (fun x2 μ1 => ?_)
    refine J_iload_n (k0 := 1) (pc := 22) 1 hX (by decide +kernel) rfl rfl ?_
    refine J_icmp_ne (pc := 23) (off := 6) (tgt := 29) hX (by decide +kernel) (by decide +kernel) (fun _ => ?_) (fun _ => ?_)
    · exact J_sub [0, 1, 2, 3, 4] _ rfl (jTh_weighings_29 hL hX v1 v2 v3 v4 hk10 μ1)
    · refine J_iinc (pc := 26) (n := 1) 2 [(2, .int (v2 + 1)), (0, .ref (G.1 + a)), (1, .int v1), (3, .int v3), (4, .int v4)] hX (by decide +kernel) rfl rfl (by decide) rfl ?_
      exact J_sub [1, 2, 0, 3, 4] _ rfl (jTh_weighings_29 hL hX v1 (v2 + 1) v3 v4 hk10 μ1)
set_option maxRecDepth 100000 in
set_option maxHeartbeats 4000000 in
theorem jTh_weighings_10 {X : Cx} {l : Launch} {G : Gx} {y : Ly} {a tt : Nat} (hL : LyTh y a tt) (hX : Ok X l G prog_10_method_10_code 5 (some .int) "SaltFigures$Thinker") (v1 : Int32) (v3 : Int32)   : ∀ (fu : Nat) (v2 : Int32) (v4 : Int32) (μ : Mu), J X G 5 3 y (emy y) rvI tpT 10 [(0, .ref (G.1 + a)), (1, .int v1), (2, .int v2), (3, .int v3), (4, .int v4)] [] (μ, y) (Th_weighings_10 a tt  v1 v3 fu v2 v4 μ) := by
  intro fu
  induction fu with
  | zero => intros; exact J_none
  | succ fu ih => intro v2 v4 μ; exact jTh_weighings_10b hL hX v1 v3  ih v2 v4 μ
set_option maxRecDepth 100000 in
set_option maxHeartbeats 4000000 in
theorem jTh_weighings {X : Cx} {l : Launch} {G : Gx} {y : Ly} {a tt : Nat} (hL : LyTh y a tt) (hX : Ok X l G prog_10_method_10_code 5 (some .int) "SaltFigures$Thinker") (v1 : Int32) (μ : Mu) : J X G 5 3 y (emy y) rvI tpT 0 [(0, .ref (G.1 + a)), (1, .int v1)] [] (μ, y) (Th_weighings a tt v1 μ) := by
  unfold Th_weighings
  refine J_iconst (pc := 0) (n := 0) (v := 0) hX (by decide +kernel) (by decide +kernel) ?_
  refine J_istore_n (k0 := 2) (pc := 1) [(2, .int 0), (0, .ref (G.1 + a)), (1, .int v1)] hX (by decide +kernel) rfl (by decide) rfl ?_
  refine J_aload_n (k0 := 0) (pc := 2) 1 hX (by decide +kernel) rfl rfl ?_
  refine J_cVi (pc := 3) (idx := 73) [] hX (by decide +kernel) (mq mt_5 33 (by decide +kernel)) mv_Th_laidWays hL.1 rfl rfl (Nat.le_of_ble_eq_true rfl) (Nat.le_of_ble_eq_true rfl) (c_Th_laidWays hL μ) (fun x2 μ1 => ?_)
  refine J_istore_n (k0 := 3) (pc := 6) [(3, .int x2), (2, .int 0), (0, .ref (G.1 + a)), (1, .int v1)] hX (by decide +kernel) rfl (by decide) rfl ?_
  refine J_iconst (pc := 7) (n := 0) (v := 0) hX (by decide +kernel) (by decide +kernel) ?_
  refine J_istore (pc := 8) [(4, .int 0), (3, .int x2), (2, .int 0), (0, .ref (G.1 + a)), (1, .int v1)] hX (by decide +kernel) (by decide) rfl ?_
  exact J_sub [3, 4, 2, 1, 0] _ rfl (jTh_weighings_10 hL hX v1 x2 FU 0 0 μ1)
set_option maxRecDepth 100000 in
set_option maxHeartbeats 4000000 in
theorem c_Th_weighings {l : Launch} {G : Gx} {y : Ly} {a tt : Nat} (hL : LyTh y a tt) (v1 : Int32) (μ : Mu) : Cn l G ⟨"SaltFigures$Thinker", "weighings", "(I)I"⟩ prog_10_method_10_code 5 (some .int) 3 [.ref (G.1 + a), .int v1] (μ, y) (emy y) rvI tpT (Th_weighings a tt v1 μ) := cn_of (by decide +kernel) (Nat.le_of_ble_eq_true rfl) (fun _ _ _ => ⟨List.prefix_refl _, trivial⟩) (fun X hX _ => jTh_weighings hL hX v1 μ)

def Sf_weighs (a : Nat) (v1 : Int32) (μ : Mu) : Option (Int32 × Mu) := (if v1 = ((-1)) then cl (Th_balancedNumbers (a + 45) (a + 1 + 17) μ) (fun x6 μ5 => some (x6, μ5)) else cl (Sf_within v1 0 360 μ) (fun x2 μ1 => (if x2 = 0 then some ((-1), μ1) else cl (Th_weighings (a + 45) (a + 1 + 17) v1 μ1) (fun x4 μ3 => some (x4, μ3)))))
set_option maxRecDepth 100000 in
set_option maxHeartbeats 4000000 in
theorem jSf_weighs {X : Cx} {l : Launch} {G : Gx} {y : Ly} {a : Nat} (hL : LySf y a ) (hX : Ok X l G prog_1_method_25_code 2 (some .int) "SaltFigures") (v1 : Int32) (μ : Mu) : J X G 2 4 y (emy y) rvI tpT 0 [(0, .ref (G.1 + a)), (1, .int v1)] [] (μ, y) (Sf_weighs a v1 μ) := by
  unfold Sf_weighs
  refine J_iload_n (k0 := 1) (pc := 0) 1 hX (by decide +kernel) rfl rfl ?_
  refine J_iconst (pc := 1) (n := -1) (v := (-1)) hX (by decide +kernel) (by decide +kernel) ?_
  refine J_icmp_ne (pc := 2) (off := 11) (tgt := 13) hX (by decide +kernel) (by decide +kernel) (fun _ => ?_) (fun _ => ?_)
  · refine J_iload_n (k0 := 1) (pc := 13) 1 hX (by decide +kernel) rfl rfl ?_
    refine J_iconst (pc := 14) (n := 0) (v := 0) hX (by decide +kernel) (by decide +kernel) ?_
    refine J_sipush (pc := 15) (n := 360) (v := 360) hX (by decide +kernel) (by decide +kernel) ?_
    refine J_cSi (pc := 18) (idx := 68) [.int v1, .int 0, .int 360] hX (by decide +kernel) (mq mt_2 148 (by decide +kernel)) mv_Sf_within rfl rfl (Nat.le_of_ble_eq_true rfl) (Nat.le_of_ble_eq_true rfl) (c_Sf_within v1 0 360 μ) (fun x2 μ1 => ?_)
    refine J_if_eq (pc := 21) (off := 14) (tgt := 35) hX (by decide +kernel) (by decide +kernel) (fun _ => ?_) (fun _ => ?_)
    · refine J_iconst (pc := 35) (n := -1) (v := (-1)) hX (by decide +kernel) (by decide +kernel) ?_
      exact J_iret (pc := 36) hX (by decide +kernel) rfl trivial
    · refine J_aload_n (k0 := 0) (pc := 24) 0 hX (by decide +kernel) rfl rfl ?_
      refine J_gr (pc := 25) hX (by decide +kernel) fl_Sf_43 hL.1 rfl hL.2.2.2.2.1.1 ?_
      refine J_iload_n (k0 := 1) (pc := 28) 1 hX (by decide +kernel) rfl rfl ?_
      refine J_cVi (pc := 29) (idx := 280) [.int v1] hX (by decide +kernel) (mq mt_5 41 (by decide +kernel)) mv_Th_weighings hL.2.2.2.2.1.2.1 rfl rfl (Nat.le_of_ble_eq_true rfl) (Nat.le_of_ble_eq_true rfl) (c_Th_weighings hL.2.2.2.2.1.2 v1 μ1) (fun x4 μ3 => ?_)
      refine J_goto (pc := 32) (off := 4) (tgt := 36) hX (by decide +kernel) (by decide +kernel) ?_
      exact J_iret (pc := 36) hX (by decide +kernel) rfl trivial
  · refine J_aload_n (k0 := 0) (pc := 5) 0 hX (by decide +kernel) rfl rfl ?_
    refine J_gr (pc := 6) hX (by decide +kernel) fl_Sf_43 hL.1 rfl hL.2.2.2.2.1.1 ?_
    refine J_cVi (pc := 9) (idx := 277) [] hX (by decide +kernel) (mq mt_5 28 (by decide +kernel)) mv_Th_balancedNumbers hL.2.2.2.2.1.2.1 rfl rfl (Nat.le_of_ble_eq_true rfl) (Nat.le_of_ble_eq_true rfl) (c_Th_balancedNumbers hL.2.2.2.2.1.2 μ) (fun x6 μ5 => ?_)
    exact J_iret (pc := 12) hX (by decide +kernel) rfl trivial
set_option maxRecDepth 100000 in
set_option maxHeartbeats 4000000 in
theorem c_Sf_weighs {l : Launch} {G : Gx} {y : Ly} {a : Nat} (hL : LySf y a ) (v1 : Int32) (μ : Mu) : Cn l G ⟨"SaltFigures", "weighs", "(I)I"⟩ prog_1_method_25_code 2 (some .int) 4 [.ref (G.1 + a), .int v1] (μ, y) (emy y) rvI tpT (Sf_weighs a v1 μ) := cn_of (by decide +kernel) (Nat.le_of_ble_eq_true rfl) (fun _ _ _ => ⟨List.prefix_refl _, trivial⟩) (fun X hX _ => jSf_weighs hL hX v1 μ)

def Sf_weight (a : Nat) (v1 : Int32) (μ : Mu) : Option (Int32 × Mu) := cl (Rw_tell (a + 1 + 17 + 5) 6 v1 μ) (fun x2 μ1 => some (x2, μ1))
set_option maxRecDepth 100000 in
set_option maxHeartbeats 4000000 in
theorem jSf_weight {X : Cx} {l : Launch} {G : Gx} {y : Ly} {a : Nat} (hL : LySf y a ) (hX : Ok X l G prog_1_method_24_code 2 (some .int) "SaltFigures") (v1 : Int32) (μ : Mu) : J X G 2 3 y (emy y) rvI tpT 0 [(0, .ref (G.1 + a)), (1, .int v1)] [] (μ, y) (Sf_weight a v1 μ) := by
  unfold Sf_weight
  refine J_aload_n (k0 := 0) (pc := 0) 0 hX (by decide +kernel) rfl rfl ?_
  refine J_gr (pc := 1) hX (by decide +kernel) fl_Sf_12 hL.1 rfl hL.2.1.1 ?_
  refine J_gr (pc := 4) hX (by decide +kernel) fl_Sf_36 hL.2.1.2.1 rfl hL.2.1.2.2.2.2.2.1.1 ?_
  refine J_gr (pc := 7) hX (by decide +kernel) fl_Sf_271 hL.2.1.2.2.2.2.2.1.2.1 rfl hL.2.1.2.2.2.2.2.1.2.2.2.2.1.1 ?_
  refine J_iload_n (k0 := 1) (pc := 10) 1 hX (by decide +kernel) rfl rfl ?_
  refine J_cVi (pc := 11) (idx := 274) [.int v1] hX (by decide +kernel) (mq mt_5 18 (by decide +kernel)) mv_Rw_tell hL.2.1.2.2.2.2.2.1.2.2.2.2.1.2.1 rfl rfl (Nat.le_of_ble_eq_true rfl) (Nat.le_of_ble_eq_true rfl) (c_Rw_tell hL.2.1.2.2.2.2.2.1.2.2.2.2.1.2 v1 μ) (fun x2 μ1 => ?_)
  exact J_iret (pc := 14) hX (by decide +kernel) rfl trivial
set_option maxRecDepth 100000 in
set_option maxHeartbeats 4000000 in
theorem c_Sf_weight {l : Launch} {G : Gx} {y : Ly} {a : Nat} (hL : LySf y a ) (v1 : Int32) (μ : Mu) : Cn l G ⟨"SaltFigures", "weight", "(I)I"⟩ prog_1_method_24_code 2 (some .int) 3 [.ref (G.1 + a), .int v1] (μ, y) (emy y) rvI tpT (Sf_weight a v1 μ) := cn_of (by decide +kernel) (Nat.le_of_ble_eq_true rfl) (fun _ _ _ => ⟨List.prefix_refl _, trivial⟩) (fun X hX _ => jSf_weight hL hX v1 μ)
