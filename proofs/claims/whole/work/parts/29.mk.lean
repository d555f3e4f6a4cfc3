/-! THE METHODS THAT MAKE CELLS (by program) -/
theorem obj_i : Cond.instanceMethod objectInit ∈ lw_tbl := (mq mt_1 28 (by decide +kernel))
theorem obj_c : Cond.code objectInit ⟨#[0xb1]⟩ 1 none ∈ lw_tbl := (mq mt_1 29 (by decide +kernel))
theorem df_Fg : ∀ ty : FieldType, ∀ k, k < 10 → parseFieldDescriptor (TX1 k).2.2.1 = some ty → defaultValue ty = if mmR 1 k = true then .null else .int 0 := by
  intro ty k hk h
  rw [tyX1_ok k hk] at h
  cases h
  revert k
  decide +kernel
theorem df_Lw : ∀ ty : FieldType, ∀ k, k < 8 → parseFieldDescriptor (TX2 k).2.2.1 = some ty → defaultValue ty = if mmR 2 k = true then .null else .int 0 := by
  intro ty k hk h
  rw [tyX2_ok k hk] at h
  cases h
  revert k
  decide +kernel
theorem df_Rw : ∀ ty : FieldType, ∀ k, k < 4 → parseFieldDescriptor (TX5 k).2.2.1 = some ty → defaultValue ty = if mmR 5 k = true then .null else .int 0 := by
  intro ty k hk h
  rw [tyX5_ok k hk] at h
  cases h
  revert k
  decide +kernel
theorem df_Td : ∀ ty : FieldType, ∀ k, k < 11 → parseFieldDescriptor (TX9 k).2.2.1 = some ty → defaultValue ty = if mmR 8 k = true then .null else .int 0 := by
  intro ty k hk h
  rw [tyX9_ok k hk] at h
  cases h
  revert k
  decide +kernel
theorem df_Tx : ∀ ty : FieldType, ∀ k, k < 5 → parseFieldDescriptor (TX7 k).2.2.1 = some ty → defaultValue ty = if mmR 6 k = true then .null else .int 0 := by
  intro ty k hk h
  rw [tyX7_ok k hk] at h
  cases h
  revert k
  decide +kernel
theorem df_Pt : ∀ ty : FieldType, ∀ k, k < 4 → parseFieldDescriptor (TX3 k).2.2.1 = some ty → defaultValue ty = if mmR 3 k = true then .null else .int 0 := by
  intro ty k hk h
  rw [tyX3_ok k hk] at h
  cases h
  revert k
  decide +kernel
theorem df_Dy : ∀ ty : FieldType, ∀ k, k < 4 → parseFieldDescriptor (TX0 k).2.2.1 = some ty → defaultValue ty = if mmR 0 k = true then .null else .int 0 := by
  intro ty k hk h
  rw [tyX0_ok k hk] at h
  cases h
  revert k
  decide +kernel
theorem df_Th : ∀ ty : FieldType, ∀ k, k < 3 → parseFieldDescriptor (TX8 k).2.2.1 = some ty → defaultValue ty = if mmR 7 k = true then .null else .int 0 := by
  intro ty k hk h
  rw [tyX8_ok k hk] at h
  cases h
  revert k
  decide +kernel
theorem df_Rd : ∀ ty : FieldType, ∀ k, k < 13 → parseFieldDescriptor (TX4 k).2.2.1 = some ty → defaultValue ty = if mmR 4 k = true then .null else .int 0 := by
  intro ty k hk h
  rw [tyX4_ok k hk] at h
  cases h
  revert k
  decide +kernel
theorem df_Sf : ∀ ty : FieldType, ∀ k, k < 9 → parseFieldDescriptor (TX10 k).2.2.1 = some ty → defaultValue ty = if mmR 9 k = true then .null else .int 0 := by
  intro ty k hk h
  rw [tyX10_ok k hk] at h
  cases h
  revert k
  decide +kernel
theorem df_Mo : ∀ ty : FieldType, ∀ k, k < 69 → parseFieldDescriptor (TX11 k).2.2.1 = some ty → defaultValue ty = if mmR 10 k = true then .null else .int 0 := by
  intro ty k hk h
  rw [tyX11_ok k hk] at h
  cases h
  revert k
  decide +kernel
theorem fl_Sf_54 : Fl "SaltFigures" 54 9 6 (.array (.object "SaltFigures$Figures")) true := ⟨_, rfl, by decide, (mq mt_2 114 (by decide +kernel)), by decide +kernel, rfl, rfl⟩
theorem fl_Dy_22 : Fl "SaltFigures$Days" 22 3 2 (.object "SaltFigures$Texts") true := ⟨_, rfl, by decide, (mq mt_2 1 (by decide +kernel)), by decide +kernel, rfl, rfl⟩
theorem fl_Fg_18 : Fl "SaltFigures$Figures" 18 1 0 .boolean true := ⟨_, rfl, by decide, (mq mt_1 45 (by decide +kernel)), by decide +kernel, rfl, rfl⟩
theorem mc_Fg_init : Mc ⟨"SaltFigures$Figures", "<init>", "(Z)V"⟩ prog_3_method_1_code 2 1 := ⟨rfl, (mq mt_1 39 (by decide +kernel)), (mq mt_1 3 (by decide +kernel)), (mq mt_1 40 (by decide +kernel)), by decide +kernel, by decide +kernel, Nat.le_of_ble_eq_true rfl⟩
theorem mc_Lw_init : Mc ⟨"SaltFigures$Law", "<init>", "()V"⟩ prog_4_method_1_code 1 0 := ⟨rfl, (mq mt_1 102 (by decide +kernel)), (mq mt_1 6 (by decide +kernel)), (mq mt_1 103 (by decide +kernel)), by decide +kernel, by decide +kernel, Nat.le_of_ble_eq_true rfl⟩
theorem mc_Rw_init : Mc ⟨"SaltFigures$Row", "<init>", "(III)V"⟩ prog_7_method_1_code 4 3 := ⟨rfl, (mq mt_1 162 (by decide +kernel)), (mq mt_1 8 (by decide +kernel)), (mq mt_1 163 (by decide +kernel)), by decide +kernel, by decide +kernel, Nat.le_of_ble_eq_true rfl⟩
theorem mc_Td_init : Mc ⟨"SaltFigures$Told", "<init>", "()V"⟩ prog_11_method_1_code 1 0 := ⟨rfl, (mq mt_1 156 (by decide +kernel)), (mq mt_1 7 (by decide +kernel)), (mq mt_1 157 (by decide +kernel)), by decide +kernel, by decide +kernel, Nat.le_of_ble_eq_true rfl⟩
theorem mc_Tx_init : Mc ⟨"SaltFigures$Texts", "<init>", "()V"⟩ prog_9_method_1_code 1 0 := ⟨rfl, (mq mt_1 96 (by decide +kernel)), (mq mt_1 5 (by decide +kernel)), (mq mt_1 97 (by decide +kernel)), by decide +kernel, by decide +kernel, Nat.le_of_ble_eq_true rfl⟩
theorem mc_Pt_init : Mc ⟨"SaltFigures$Port", "<init>", "()V"⟩ prog_5_method_1_code 1 0 := ⟨rfl, (mq mt_1 33 (by decide +kernel)), (mq mt_1 2 (by decide +kernel)), (mq mt_1 34 (by decide +kernel)), by decide +kernel, by decide +kernel, Nat.le_of_ble_eq_true rfl⟩
theorem mc_Dy_init : Mc ⟨"SaltFigures$Days", "<init>", "(LSaltFigures$Port;)V"⟩ prog_2_method_1_code 2 1 := ⟨rfl, (mq mt_2 18 (by decide +kernel)), (mq mt_1 10 (by decide +kernel)), (mq mt_2 19 (by decide +kernel)), by decide +kernel, by decide +kernel, Nat.le_of_ble_eq_true rfl⟩
theorem mc_Th_init : Mc ⟨"SaltFigures$Thinker", "<init>", "(LSaltFigures$Told;)V"⟩ prog_10_method_1_code 2 1 := ⟨rfl, (mq mt_2 39 (by decide +kernel)), (mq mt_1 11 (by decide +kernel)), (mq mt_2 40 (by decide +kernel)), by decide +kernel, by decide +kernel, Nat.le_of_ble_eq_true rfl⟩
theorem mc_Rd_init : Mc ⟨"SaltFigures$Reader", "<init>", "()V"⟩ prog_6_method_1_code 1 0 := ⟨rfl, (mq mt_2 55 (by decide +kernel)), (mq mt_1 12 (by decide +kernel)), (mq mt_2 56 (by decide +kernel)), by decide +kernel, by decide +kernel, Nat.le_of_ble_eq_true rfl⟩
theorem mc_Sf_init : Mc ⟨"SaltFigures", "<init>", "()V"⟩ prog_1_method_1_code 1 0 := ⟨rfl, (mq mt_1 25 (by decide +kernel)), (mq mt_1 1 (by decide +kernel)), (mq mt_1 26 (by decide +kernel)), by decide +kernel, by decide +kernel, Nat.le_of_ble_eq_true rfl⟩
theorem mc_Mo_init : Mc ⟨"SaltFiguresModel", "<init>", "()V"⟩ prog_13_method_1_code 1 0 := ⟨rfl, (mq mt_6 3 (by decide +kernel)), (mq mt_1 13 (by decide +kernel)), (mq mt_6 4 rfl), by decide +kernel, by decide +kernel, Nat.le_of_ble_eq_true rfl⟩
theorem mv_Sf_keptAt : Mv 9 ⟨"SaltFigures", "keptAt", "(I)LSaltFigures$Figures;"⟩ prog_1_method_45_code 2 (some (.object "SaltFigures$Figures")) 1 := ⟨_, rfl, (mqs 3 (by decide +kernel)), (mq mt_2 191 (by decide +kernel)), (mq mt_1 1 (by decide +kernel)), (mq mt_2 192 (by decide +kernel)), by decide +kernel, by decide +kernel, Nat.le_of_ble_eq_true rfl⟩
theorem mv_Sf_keep : Mv 9 ⟨"SaltFigures", "keep", "()V"⟩ prog_1_method_44_code 1 none 0 := ⟨_, rfl, (mqs 2 (by decide +kernel)), (mq mt_2 187 (by decide +kernel)), (mq mt_1 1 (by decide +kernel)), (mq mt_2 188 (by decide +kernel)), by decide +kernel, by decide +kernel, Nat.le_of_ble_eq_true rfl⟩
theorem mv_Sf_act : Mv 9 ⟨"SaltFigures", "act", "(III)Z"⟩ prog_1_method_5_code 5 (some .boolean) 3 := ⟨_, rfl, (mq mt_2 174 (by decide +kernel)), (mq mt_2 173 (by decide +kernel)), (mq mt_1 1 (by decide +kernel)), (mq mt_2 175 (by decide +kernel)), by decide +kernel, by decide +kernel, Nat.le_of_ble_eq_true rfl⟩
theorem mv_Sf_days : Mv 9 ⟨"SaltFigures", "days", "(I)I"⟩ prog_1_method_7_code 5 (some .int) 1 := ⟨_, rfl, (mq mt_3 37 (by decide +kernel)), (mq mt_3 36 (by decide +kernel)), (mq mt_1 1 (by decide +kernel)), (mq mt_3 38 (by decide +kernel)), by decide +kernel, by decide +kernel, Nat.le_of_ble_eq_true rfl⟩
theorem mv_Sf_undo : Mv 9 ⟨"SaltFigures", "undo", "()Z"⟩ prog_1_method_41_code 1 (some .boolean) 0 := ⟨_, rfl, (mq mt_5 203 (by decide +kernel)), (mq mt_5 202 (by decide +kernel)), (mq mt_1 1 (by decide +kernel)), (mq mt_5 204 (by decide +kernel)), by decide +kernel, by decide +kernel, Nat.le_of_ble_eq_true rfl⟩
theorem mv_Sf_image : Mv 9 ⟨"SaltFigures", "image", "(Z)Z"⟩ prog_1_method_42_code 2 (some .boolean) 1 := ⟨_, rfl, (mq mt_5 207 (by decide +kernel)), (mq mt_5 206 (by decide +kernel)), (mq mt_1 1 (by decide +kernel)), (mq mt_5 208 (by decide +kernel)), by decide +kernel, by decide +kernel, Nat.le_of_ble_eq_true rfl⟩
set_option maxRecDepth 100000 in
noncomputable def Fg_init (a : Nat) (v1 : Int32) (μ : Mu) (y : Ly) : Option (Unit × Mm) := nwK μ y 0 112 (fun q1 μ2 y3 => ckP (y3.2[a]? = some (3, 10)) (pR y3 a 1 q1 (fun y5 => nwK μ2 y5 0 16 (fun q6 μ7 y8 => ckP (y8.2[a]? = some (3, 10)) (pR y8 a 2 q6 (fun y10 => ckP (y10.2[a]? = some (3, 10)) (zg v1 (pF μ7 a 0 v1 (fun μ12 => ckP (y10.2[a]? = some (3, 10)) (gR y10 a 2 (none) (fun q13 => ckP (y10.2[q13]? = some (0, 16)) (cl (Ja_fill q13 16 ((-1)) μ12) (fun _ μ16 => some ((), (μ16, y10)))))))))))))))
set_option maxRecDepth 100000 in
set_option maxHeartbeats 4000000 in
theorem jFg_init {X : Cx} {l : Launch} {G : Gx} {y0 : Ly} {a : Nat}  (hX : Ok X l G prog_3_method_1_code 2 none "SaltFigures$Figures") (hI : OkI X) (v1 : Int32) (μ : Mu) (y : Ly) : J X G 2 4 y0 id rvV tpT 0 [(0, .ref (G.1 + a)), (1, .int v1)] [] (μ, y) (Fg_init a v1 μ y) := by
  unfold Fg_init
  refine J_aload_n (k0 := 0) (pc := 0) 0 hX (by decide +kernel) rfl rfl ?_
  refine J_objI (pc := 1) (idx := 3) hX (by decide +kernel) (mq mt_1 41 (by decide +kernel)) obj_i obj_c (Nat.le_of_ble_eq_true rfl) (Nat.le_of_ble_eq_true rfl) ?_
  refine J_aload_n (k0 := 0) (pc := 4) 0 hX (by decide +kernel) rfl rfl ?_
  refine J_bipush (pc := 5) (n := 112) (v := 112) hX (by decide +kernel) (by decide +kernel) ?_
  refine J_nwA (pc := 7) hX (by decide +kernel) (mq mt_1 92 (by decide +kernel)) (by decide +kernel) (by decide +kernel) (by decide +kernel) (fun q1 μ2 y3 => ?_)
  refine J_ckP (fun h4 => ?_)
  refine J_pRf (pc := 9) hX hI (by decide +kernel) fl_Fg_9 (by intro r hr; cases hr; rfl) h4 rfl rfl rfl (fun y5 => ?_)
  refine J_aload_n (k0 := 0) (pc := 12) 0 hX (by decide +kernel) rfl rfl ?_
  refine J_bipush (pc := 13) (n := 16) (v := 16) hX (by decide +kernel) (by decide +kernel) ?_
  refine J_nwA (pc := 15) hX (by decide +kernel) (mq mt_1 92 (by decide +kernel)) (by decide +kernel) (by decide +kernel) (by decide +kernel) (fun q6 μ7 y8 => ?_)
  refine J_ckP (fun h9 => ?_)
  refine J_pRf (pc := 17) hX hI (by decide +kernel) fl_Fg_15 (by intro r hr; cases hr; rfl) h9 rfl rfl rfl (fun y10 => ?_)
  refine J_aload_n (k0 := 0) (pc := 20) 0 hX (by decide +kernel) rfl rfl ?_
  refine J_iload_n (k0 := 1) (pc := 21) 1 hX (by decide +kernel) rfl rfl ?_
  refine J_ckP (fun h11 => ?_)
  refine J_pFfz (pc := 22) hX hI (by decide +kernel) fl_Fg_18 (by intro r hr; cases hr; rfl) h11 rfl (fun μ12 => ?_)
  refine J_aload_n (k0 := 0) (pc := 25) 0 hX (by decide +kernel) rfl rfl ?_
  refine J_ckP (fun h14 => ?_)
  refine J_gRm (pc := 26) hX (by decide +kernel) fl_Fg_15 h14 rfl ?_ (fun q13 => ?_)
  · exact J_none
  · refine J_iconst (pc := 29) (n := -1) (v := (-1)) hX (by decide +kernel) (by decide +kernel) ?_
    refine J_ckP (fun h15 => ?_)
    refine J_cSv (pc := 30) (idx := 22) [.ref (G.1 + q13), .int ((-1))] hX (by decide +kernel) (mq mt_1 42 (by decide +kernel)) mv_Ja_fill rfl rfl (Nat.le_of_ble_eq_true rfl) (Nat.le_of_ble_eq_true rfl) (c_Ja_fill h15 ((-1)) μ12) (fun μ16 => ?_)
    exact J_vret (pc := 33) hX (by decide +kernel) rfl trivial
set_option maxRecDepth 100000 in
set_option maxHeartbeats 4000000 in
theorem c_Fg_init {l : Launch} {G : Gx} (a : Nat) (v1 : Int32) (μ : Mu) (y : Ly) : Cm l G ⟨"SaltFigures$Figures", "<init>", "(Z)V"⟩ prog_3_method_1_code 2 none 4 [.ref (G.1 + a), .int v1] (μ, y) rvV (Fg_init a v1 μ y) := cm_of (by decide +kernel) (Nat.le_of_ble_eq_true rfl) (fun X hX hI => jFg_init hX (hI rfl) v1 μ y)
set_option maxRecDepth 100000 in
noncomputable def Lw_init (a : Nat)  (μ : Mu) (y : Ly) : Option (Unit × Mm) := nwK μ y 0 16 (fun q1 μ2 y3 => ckP (y3.2[a]? = some (4, 8)) (pR y3 a 2 q1 (fun y5 => nwK μ2 y5 0 16 (fun q6 μ7 y8 => ckP (y8.2[a]? = some (4, 8)) (pR y8 a 3 q6 (fun y10 => nwK μ7 y10 0 16 (fun q11 μ12 y13 => ckP (y13.2[a]? = some (4, 8)) (pR y13 a 4 q11 (fun y15 => nwK μ12 y15 0 16 (fun q16 μ17 y18 => ckP (y18.2[a]? = some (4, 8)) (pR y18 a 5 q16 (fun y20 => nwK μ17 y20 0 400 (fun q21 μ22 y23 => ckP (y23.2[a]? = some (4, 8)) (pR y23 a 6 q21 (fun y25 => nwK μ22 y25 0 32 (fun q26 μ27 y28 => ckP (y28.2[a]? = some (4, 8)) (pR y28 a 7 q26 (fun y30 => some ((), (μ27, y30))))))))))))))))))))
set_option maxRecDepth 100000 in
set_option maxHeartbeats 4000000 in
theorem jLw_init {X : Cx} {l : Launch} {G : Gx} {y0 : Ly} {a : Nat}  (hX : Ok X l G prog_4_method_1_code 1 none "SaltFigures$Law") (hI : OkI X)  (μ : Mu) (y : Ly) : J X G 1 4 y0 id rvV tpT 0 [(0, .ref (G.1 + a))] [] (μ, y) (Lw_init a  μ y) := by
  unfold Lw_init
  refine J_aload_n (k0 := 0) (pc := 0) 0 hX (by decide +kernel) rfl rfl ?_
  refine J_objI (pc := 1) (idx := 3) hX (by decide +kernel) (mq mt_1 104 (by decide +kernel)) obj_i obj_c (Nat.le_of_ble_eq_true rfl) (Nat.le_of_ble_eq_true rfl) ?_
  refine J_aload_n (k0 := 0) (pc := 4) 0 hX (by decide +kernel) rfl rfl ?_
  refine J_bipush (pc := 5) (n := 16) (v := 16) hX (by decide +kernel) (by decide +kernel) ?_
  refine J_nwA (pc := 7) hX (by decide +kernel) (mq mt_1 92 (by decide +kernel)) (by decide +kernel) (by decide +kernel) (by decide +kernel) (fun q1 μ2 y3 => ?_)
  refine J_ckP (fun h4 => ?_)
  refine J_pRf (pc := 9) hX hI (by decide +kernel) fl_Lw_9 (by intro r hr; cases hr; rfl) h4 rfl rfl rfl (fun y5 => ?_)
  refine J_aload_n (k0 := 0) (pc := 12) 0 hX (by decide +kernel) rfl rfl ?_
  refine J_bipush (pc := 13) (n := 16) (v := 16) hX (by decide +kernel) (by decide +kernel) ?_
  refine J_nwA (pc := 15) hX (by decide +kernel) (mq mt_1 92 (by decide +kernel)) (by decide +kernel) (by decide +kernel) (by decide +kernel) (fun q6 μ7 y8 => ?_)
  refine J_ckP (fun h9 => ?_)
  refine J_pRf (pc := 17) hX hI (by decide +kernel) fl_Lw_15 (by intro r hr; cases hr; rfl) h9 rfl rfl rfl (fun y10 => ?_)
  refine J_aload_n (k0 := 0) (pc := 20) 0 hX (by decide +kernel) rfl rfl ?_
  refine J_bipush (pc := 21) (n := 16) (v := 16) hX (by decide +kernel) (by decide +kernel) ?_
  refine J_nwA (pc := 23) hX (by decide +kernel) (mq mt_1 92 (by decide +kernel)) (by decide +kernel) (by decide +kernel) (by decide +kernel) (fun q11 μ12 y13 => ?_)
  refine J_ckP (fun h14 => ?_)
  refine J_pRf (pc := 25) hX hI (by decide +kernel) fl_Lw_18 (by intro r hr; cases hr; rfl) h14 rfl rfl rfl (fun y15 => ?_)
  refine J_aload_n (k0 := 0) (pc := 28) 0 hX (by decide +kernel) rfl rfl ?_
  refine J_bipush (pc := 29) (n := 16) (v := 16) hX (by decide +kernel) (by decide +kernel) ?_
  refine J_nwA (pc := 31) hX (by decide +kernel) (mq mt_1 92 (by decide +kernel)) (by decide +kernel) (by decide +kernel) (by decide +kernel) (fun q16 μ17 y18 => ?_)
  refine J_ckP (fun h19 => ?_)
  refine J_pRf (pc := 33) hX hI (by decide +kernel) fl_Lw_21 (by intro r hr; cases hr; rfl) h19 rfl rfl rfl (fun y20 => ?_)
  refine J_aload_n (k0 := 0) (pc := 36) 0 hX (by decide +kernel) rfl rfl ?_
  refine J_sipush (pc := 37) (n := 400) (v := 400) hX (by decide +kernel) (by decide +kernel) ?_
  refine J_nwA (pc := 40) hX (by decide +kernel) (mq mt_1 92 (by decide +kernel)) (by decide +kernel) (by decide +kernel) (by decide +kernel) (fun q21 μ22 y23 => ?_)
  refine J_ckP (fun h24 => ?_)
  refine J_pRf (pc := 42) hX hI (by decide +kernel) fl_Lw_24 (by intro r hr; cases hr; rfl) h24 rfl rfl rfl (fun y25 => ?_)
  refine J_aload_n (k0 := 0) (pc := 45) 0 hX (by decide +kernel) rfl rfl ?_
  refine J_bipush (pc := 46) (n := 32) (v := 32) hX (by decide +kernel) (by decide +kernel) ?_
  refine J_nwA (pc := 48) hX (by decide +kernel) (mq mt_1 92 (by decide +kernel)) (by decide +kernel) (by decide +kernel) (by decide +kernel) (fun q26 μ27 y28 => ?_)
  refine J_ckP (fun h29 => ?_)
  refine J_pRf (pc := 50) hX hI (by decide +kernel) fl_Lw_27 (by intro r hr; cases hr; rfl) h29 rfl rfl rfl (fun y30 => ?_)
  exact J_vret (pc := 53) hX (by decide +kernel) rfl trivial
set_option maxRecDepth 100000 in
set_option maxHeartbeats 4000000 in
theorem c_Lw_init {l : Launch} {G : Gx} (a : Nat)  (μ : Mu) (y : Ly) : Cm l G ⟨"SaltFigures$Law", "<init>", "()V"⟩ prog_4_method_1_code 1 none 4 [.ref (G.1 + a)] (μ, y) rvV (Lw_init a  μ y) := cm_of (by decide +kernel) (Nat.le_of_ble_eq_true rfl) (fun X hX hI => jLw_init hX (hI rfl)  μ y)
set_option maxRecDepth 100000 in
noncomputable def Rw_init (a : Nat) (v1 : Int32) (v2 : Int32) (v3 : Int32) (μ : Mu) (y : Ly) : Option (Unit × Mm) := ckP (y.2[a]? = some (7, 4)) (pF μ a 0 v2 (fun μ2 => ckP (y.2[a]? = some (7, 4)) (pF μ2 a 1 v3 (fun μ4 => nwV μ4 y (jmax v1 0) (fun q5 μ6 y7 => ckP (y7.2[a]? = some (7, 4)) (pR y7 a 2 q5 (fun y9 => some ((), (μ6, y9)))))))))
set_option maxRecDepth 100000 in
set_option maxHeartbeats 4000000 in
theorem jRw_init {X : Cx} {l : Launch} {G : Gx} {y0 : Ly} {a : Nat}  (hX : Ok X l G prog_7_method_1_code 4 none "SaltFigures$Row") (hI : OkI X) (v1 : Int32) (v2 : Int32) (v3 : Int32) (μ : Mu) (y : Ly) : J X G 4 4 y0 id rvV tpT 0 [(0, .ref (G.1 + a)), (1, .int v1), (2, .int v2), (3, .int v3)] [] (μ, y) (Rw_init a v1 v2 v3 μ y) := by
  unfold Rw_init
  refine J_aload_n (k0 := 0) (pc := 0) 0 hX (by decide +kernel) rfl rfl ?_
  refine J_objI (pc := 1) (idx := 3) hX (by decide +kernel) (mq mt_1 164 (by decide +kernel)) obj_i obj_c (Nat.le_of_ble_eq_true rfl) (Nat.le_of_ble_eq_true rfl) ?_
  refine J_aload_n (k0 := 0) (pc := 4) 0 hX (by decide +kernel) rfl rfl ?_
  refine J_iload_n (k0 := 2) (pc := 5) 2 hX (by decide +kernel) rfl rfl ?_
  refine J_ckP (fun h1 => ?_)
  refine J_pFf (pc := 6) hX hI (by decide +kernel) fl_Rw_9 (by intro r hr; cases hr; rfl) h1 rfl (fun μ2 => ?_)
  refine J_aload_n (k0 := 0) (pc := 9) 0 hX (by decide +kernel) rfl rfl ?_
  refine J_iload_n (k0 := 3) (pc := 10) 3 hX (by decide +kernel) rfl rfl ?_
  refine J_ckP (fun h3 => ?_)
  refine J_pFf (pc := 11) hX hI (by decide +kernel) fl_Rw_15 (by intro r hr; cases hr; rfl) h3 rfl (fun μ4 => ?_)
  refine J_aload_n (k0 := 0) (pc := 14) 0 hX (by decide +kernel) rfl rfl ?_
  refine J_iload_n (k0 := 1) (pc := 15) 1 hX (by decide +kernel) rfl rfl ?_
  refine J_iconst (pc := 16) (n := 0) (v := 0) hX (by decide +kernel) (by decide +kernel) ?_
  refine J_mmax (pc := 17) (idx := 18) hX (by decide +kernel) (mq mt_1 165 (by decide +kernel)) (Nat.le_of_ble_eq_true rfl) (Nat.le_of_ble_eq_true rfl) ?_
  refine J_nwV (pc := 20) hX (by decide +kernel) (mq mt_1 92 (by decide +kernel)) (fun q5 μ6 y7 => ?_)
  refine J_ckP (fun h8 => ?_)
  refine J_pRf (pc := 22) hX hI (by decide +kernel) fl_Rw_24 (by intro r hr; cases hr; rfl) h8 rfl rfl rfl (fun y9 => ?_)
  exact J_vret (pc := 25) hX (by decide +kernel) rfl trivial
set_option maxRecDepth 100000 in
set_option maxHeartbeats 4000000 in
theorem c_Rw_init {l : Launch} {G : Gx} (a : Nat) (v1 : Int32) (v2 : Int32) (v3 : Int32) (μ : Mu) (y : Ly) : Cm l G ⟨"SaltFigures$Row", "<init>", "(III)V"⟩ prog_7_method_1_code 4 none 4 [.ref (G.1 + a), .int v1, .int v2, .int v3] (μ, y) rvV (Rw_init a v1 v2 v3 μ y) := cm_of (by decide +kernel) (Nat.le_of_ble_eq_true rfl) (fun X hX hI => jRw_init hX (hI rfl) v1 v2 v3 μ y)
set_option maxRecDepth 100000 in
noncomputable def Td_init (a : Nat)  (μ : Mu) (y : Ly) : Option (Unit × Mm) := nwK μ y 7 4 (fun q1 μ2 y3 => clm y3 (Rw_init q1 8 ((-99)) 99 μ2 y3) (fun _ μ4 y5 => ckP (y5.2[a]? = some (10, 11)) (pR y5 a 1 q1 (fun y7 => nwK μ4 y7 7 4 (fun q8 μ9 y10 => clm y10 (Rw_init q8 8 ((-99)) 99 μ9 y10) (fun _ μ11 y12 => ckP (y12.2[a]? = some (10, 11)) (pR y12 a 2 q8 (fun y14 => nwK μ11 y14 7 4 (fun q15 μ16 y17 => clm y17 (Rw_init q15 6 1 60 μ16 y17) (fun _ μ18 y19 => ckP (y19.2[a]? = some (10, 11)) (pR y19 a 3 q15 (fun y21 => nwK μ18 y21 7 4 (fun q22 μ23 y24 => clm y24 (Rw_init q22 10 0 9 μ23 y24) (fun _ μ25 y26 => ckP (y26.2[a]? = some (10, 11)) (pR y26 a 4 q22 (fun y28 => nwK μ25 y28 7 4 (fun q29 μ30 y31 => clm y31 (Rw_init q29 10 0 9 μ30 y31) (fun _ μ32 y33 => ckP (y33.2[a]? = some (10, 11)) (pR y33 a 5 q29 (fun y35 => nwK μ32 y35 7 4 (fun q36 μ37 y38 => clm y38 (Rw_init q36 6 2 30 μ37 y38) (fun _ μ39 y40 => ckP (y40.2[a]? = some (10, 11)) (pR y40 a 6 q36 (fun y42 => nwK μ39 y42 7 4 (fun q43 μ44 y45 => clm y45 (Rw_init q43 6 1 20 μ44 y45) (fun _ μ46 y47 => ckP (y47.2[a]? = some (10, 11)) (pR y47 a 7 q43 (fun y49 => nwK μ46 y49 7 4 (fun q50 μ51 y52 => clm y52 (Rw_init q50 8 1 99 μ51 y52) (fun _ μ53 y54 => ckP (y54.2[a]? = some (10, 11)) (pR y54 a 8 q50 (fun y56 => nwK μ53 y56 7 4 (fun q57 μ58 y59 => clm y59 (Rw_init q57 8 1 60 μ58 y59) (fun _ μ60 y61 => ckP (y61.2[a]? = some (10, 11)) (pR y61 a 9 q57 (fun y63 => nwK μ60 y63 7 4 (fun q64 μ65 y66 => clm y66 (Rw_init q64 8 0 99 μ65 y66) (fun _ μ67 y68 => ckP (y68.2[a]? = some (10, 11)) (pR y68 a 10 q64 (fun y70 => some ((), (μ67, y70))))))))))))))))))))))))))))))))))))))))))
set_option maxRecDepth 100000 in
set_option maxHeartbeats 4000000 in
theorem jTd_init {X : Cx} {l : Launch} {G : Gx} {y0 : Ly} {a : Nat}  (hX : Ok X l G prog_11_method_1_code 1 none "SaltFigures$Told") (hI : OkI X)  (μ : Mu) (y : Ly) : J X G 1 5 y0 id rvV tpT 0 [(0, .ref (G.1 + a))] [] (μ, y) (Td_init a  μ y) := by
  unfold Td_init
  refine J_aload_n (k0 := 0) (pc := 0) 0 hX (by decide +kernel) rfl rfl ?_
  refine J_objI (pc := 1) (idx := 1) hX (by decide +kernel) (mq mt_1 158 (by decide +kernel)) obj_i obj_c (Nat.le_of_ble_eq_true rfl) (Nat.le_of_ble_eq_true rfl) ?_
  refine J_aload_n (k0 := 0) (pc := 4) 0 hX (by decide +kernel) rfl rfl ?_
  refine J_nwC (pc := 5) (idx := 7) (ci := 5) (C := "SaltFigures$Row") (T := TX5) (N := 4) hX (by decide +kernel) (mq mt_1 159 (by decide +kernel)) (mq mt_1 160 (by decide +kernel)) (mq mt_1 8 (by decide +kernel)) rfl df_Rw (fun q1 μ2 y3 => ?_)
  refine J_dup (pc := 8) hX (by decide +kernel) rfl ?_
  refine J_bipush (pc := 9) (n := 8) (v := 8) hX (by decide +kernel) (by decide +kernel) ?_
  refine J_bipush (pc := 11) (n := -99) (v := (-99)) hX (by decide +kernel) (by decide +kernel) ?_
  refine J_bipush (pc := 13) (n := 99) (v := 99) hX (by decide +kernel) (by decide +kernel) ?_
  refine J_cIm (pc := 15) (idx := 9) [.int 8, .int ((-99)), .int 99] hX (by decide +kernel) (Or.inl (mq mt_1 161 (by decide +kernel))) mc_Rw_init rfl rfl (Nat.le_of_ble_eq_true rfl) (Nat.le_of_ble_eq_true rfl) (c_Rw_init q1 8 ((-99)) 99 μ2 y3) (fun μ4 y5 => ?_)
  refine J_ckP (fun h6 => ?_)
  refine J_pRf (pc := 18) hX hI (by decide +kernel) fl_Td_12 (by intro r hr; cases hr; rfl) h6 rfl rfl rfl (fun y7 => ?_)
  refine J_aload_n (k0 := 0) (pc := 21) 0 hX (by decide +kernel) rfl rfl ?_
  refine J_nwC (pc := 22) (idx := 7) (ci := 5) (C := "SaltFigures$Row") (T := TX5) (N := 4) hX (by decide +kernel) (mq mt_1 159 (by decide +kernel)) (mq mt_1 160 (by decide +kernel)) (mq mt_1 8 (by decide +kernel)) rfl df_Rw (fun q8 μ9 y10 => ?_)
  refine J_dup (pc := 25) hX (by decide +kernel) rfl ?_
  refine J_bipush (pc := 26) (n := 8) (v := 8) hX (by decide +kernel) (by decide +kernel) ?_
  refine J_bipush (pc := 28) (n := -99) (v := (-99)) hX (by decide +kernel) (by decide +kernel) ?_
  refine J_bipush (pc := 30) (n := 99) (v := 99) hX (by decide +kernel) (by decide +kernel) ?_
  refine J_cIm (pc := 32) (idx := 9) [.int 8, .int ((-99)), .int 99] hX (by decide +kernel) (Or.inl (mq mt_1 161 (by decide +kernel))) mc_Rw_init rfl rfl (Nat.le_of_ble_eq_true rfl) (Nat.le_of_ble_eq_true rfl) (c_Rw_init q8 8 ((-99)) 99 μ9 y10) (fun μ11 y12 => ?_)
  refine J_ckP (fun h13 => ?_)
  refine J_pRf (pc := 35) hX hI (by decide +kernel) fl_Td_18 (by intro r hr; cases hr; rfl) h13 rfl rfl rfl (fun y14 => ?_)
  refine J_aload_n (k0 := 0) (pc := 38) 0 hX (by decide +kernel) rfl rfl ?_
  refine J_nwC (pc := 39) (idx := 7) (ci := 5) (C := "SaltFigures$Row") (T := TX5) (N := 4) hX (by decide +kernel) (mq mt_1 159 (by decide +kernel)) (mq mt_1 160 (by decide +kernel)) (mq mt_1 8 (by decide +kernel)) rfl df_Rw (fun q15 μ16 y17 => ?_)
  refine J_dup (pc := 42) hX (by decide +kernel) rfl ?_
  refine J_bipush (pc := 43) (n := 6) (v := 6) hX (by decide +kernel) (by decide +kernel) ?_
  refine J_iconst (pc := 45) (n := 1) (v := 1) hX (by decide +kernel) (by decide +kernel) ?_
  refine J_bipush (pc := 46) (n := 60) (v := 60) hX (by decide +kernel) (by decide +kernel) ?_
  refine J_cIm (pc := 48) (idx := 9) [.int 6, .int 1, .int 60] hX (by decide +kernel) (Or.inl (mq mt_1 161 (by decide +kernel))) mc_Rw_init rfl rfl (Nat.le_of_ble_eq_true rfl) (Nat.le_of_ble_eq_true rfl) (c_Rw_init q15 6 1 60 μ16 y17) (fun μ18 y19 => ?_)
  refine J_ckP (fun h20 => ?_)
  refine J_pRf (pc := 51) hX hI (by decide +kernel) fl_Td_21 (by intro r hr; cases hr; rfl) h20 rfl rfl rfl (fun y21 => ?_)
  refine J_aload_n (k0 := 0) (pc := 54) 0 hX (by decide +kernel) rfl rfl ?_
  refine J_nwC (pc := 55) (idx := 7) (ci := 5) (C := "SaltFigures$Row") (T := TX5) (N := 4) hX (by decide +kernel) (mq mt_1 159 (by decide +kernel)) (mq mt_1 160 (by decide +kernel)) (mq mt_1 8 (by decide +kernel)) rfl df_Rw (fun q22 μ23 y24 => ?_)
  refine J_dup (pc := 58) hX (by decide +kernel) rfl ?_
  refine J_bipush (pc := 59) (n := 10) (v := 10) hX (by decide +kernel) (by decide +kernel) ?_
  refine J_iconst (pc := 61) (n := 0) (v := 0) hX (by decide +kernel) (by decide +kernel) ?_
  refine J_bipush (pc := 62) (n := 9) (v := 9) hX (by decide +kernel) (by decide +kernel) ?_
  refine J_cIm (pc := 64) (idx := 9) [.int 10, .int 0, .int 9] hX (by decide +kernel) (Or.inl (mq mt_1 161 (by decide +kernel))) mc_Rw_init rfl rfl (Nat.le_of_ble_eq_true rfl) (Nat.le_of_ble_eq_true rfl) (c_Rw_init q22 10 0 9 μ23 y24) (fun μ25 y26 => ?_)
  refine J_ckP (fun h27 => ?_)
  refine J_pRf (pc := 67) hX hI (by decide +kernel) fl_Td_24 (by intro r hr; cases hr; rfl) h27 rfl rfl rfl (fun y28 => ?_)
  refine J_aload_n (k0 := 0) (pc := 70) 0 hX (by decide +kernel) rfl rfl ?_
  refine J_nwC (pc := 71) (idx := 7) (ci := 5) (C := "SaltFigures$Row") (T := TX5) (N := 4) hX (by decide +kernel) (mq mt_1 159 (by decide +kernel)) (mq mt_1 160 (by decide +kernel)) (mq mt_1 8 (by decide +kernel)) rfl df_Rw (fun q29 μ30 y31 => ?_)
  refine J_dup (pc := 74) hX (by decide +kernel) rfl ?_
  refine J_bipush (pc := 75) (n := 10) (v := 10) hX (by decide +kernel) (by decide +kernel) ?_
  refine J_iconst (pc := 77) (n := 0) (v := 0) hX (by decide +kernel) (by decide +kernel) ?_
  refine J_bipush (pc := 78) (n := 9) (v := 9) hX (by decide +kernel) (by decide +kernel) ?_
  refine J_cIm (pc := 80) (idx := 9) [.int 10, .int 0, .int 9] hX (by decide +kernel) (Or.inl (mq mt_1 161 (by decide +kernel))) mc_Rw_init rfl rfl (Nat.le_of_ble_eq_true rfl) (Nat.le_of_ble_eq_true rfl) (c_Rw_init q29 10 0 9 μ30 y31) (fun μ32 y33 => ?_)
  refine J_ckP (fun h34 => ?_)
  refine J_pRf (pc := 83) hX hI (by decide +kernel) fl_Td_27 (by intro r hr; cases hr; rfl) h34 rfl rfl rfl (fun y35 => ?_)
  refine J_aload_n (k0 := 0) (pc := 86) 0 hX (by decide +kernel) rfl rfl ?_
  refine J_nwC (pc := 87) (idx := 7) (ci := 5) (C := "SaltFigures$Row") (T := TX5) (N := 4) hX (by decide +kernel) (mq mt_1 159 (by decide +kernel)) (mq mt_1 160 (by decide +kernel)) (mq mt_1 8 (by decide +kernel)) rfl df_Rw (fun q36 μ37 y38 => ?_)
  refine J_dup (pc := 90) hX (by decide +kernel) rfl ?_
  refine J_bipush (pc := 91) (n := 6) (v := 6) hX (by decide +kernel) (by decide +kernel) ?_
  refine J_iconst (pc := 93) (n := 2) (v := 2) hX (by decide +kernel) (by decide +kernel) ?_
  refine J_bipush (pc := 94) (n := 30) (v := 30) hX (by decide +kernel) (by decide +kernel) ?_
  refine J_cIm (pc := 96) (idx := 9) [.int 6, .int 2, .int 30] hX (by decide +kernel) (Or.inl (mq mt_1 161 (by decide +kernel))) mc_Rw_init rfl rfl (Nat.le_of_ble_eq_true rfl) (Nat.le_of_ble_eq_true rfl) (c_Rw_init q36 6 2 30 μ37 y38) (fun μ39 y40 => ?_)
  refine J_ckP (fun h41 => ?_)
  refine J_pRf (pc := 99) hX hI (by decide +kernel) fl_Td_30 (by intro r hr; cases hr; rfl) h41 rfl rfl rfl (fun y42 => ?_)
  refine J_aload_n (k0 := 0) (pc := 102) 0 hX (by decide +kernel) rfl rfl ?_
  refine J_nwC (pc := 103) (idx := 7) (ci := 5) (C := "SaltFigures$Row") (T := TX5) (N := 4) hX (by decide +kernel) (mq mt_1 159 (by decide +kernel)) (mq mt_1 160 (by decide +kernel)) (mq mt_1 8 (by decide +kernel)) rfl df_Rw (fun q43 μ44 y45 => ?_)
  refine J_dup (pc := 106) hX (by decide +kernel) rfl ?_
  refine J_bipush (pc := 107) (n := 6) (v := 6) hX (by decide +kernel) (by decide +kernel) ?_
  refine J_iconst (pc := 109) (n := 1) (v := 1) hX (by decide +kernel) (by decide +kernel) ?_
  refine J_bipush (pc := 110) (n := 20) (v := 20) hX (by decide +kernel) (by decide +kernel) ?_
  refine J_cIm (pc := 112) (idx := 9) [.int 6, .int 1, .int 20] hX (by decide +kernel) (Or.inl (mq mt_1 161 (by decide +kernel))) mc_Rw_init rfl rfl (Nat.le_of_ble_eq_true rfl) (Nat.le_of_ble_eq_true rfl) (c_Rw_init q43 6 1 20 μ44 y45) (fun μ46 y47 => ?_)
  refine J_ckP (fun h48 => ?_)
  refine J_pRf (pc := 115) hX hI (by decide +kernel) fl_Td_33 (by intro r hr; cases hr; rfl) h48 rfl rfl rfl (fun y49 => ?_)
  refine J_aload_n (k0 := 0) (pc := 118) 0 hX (by decide +kernel) rfl rfl ?_
  refine J_nwC (pc := 119) (idx := 7) (ci := 5) (C := "SaltFigures$Row") (T := TX5) (N := 4) hX (by decide +kernel) (mq mt_1 159 (by decide +kernel)) (mq mt_1 160 (by decide +kernel)) (mq mt_1 8 (by decide +kernel)) rfl df_Rw (fun q50 μ51 y52 => ?_)
  refine J_dup (pc := 122) hX (by decide +kernel) rfl ?_
  refine J_bipush (pc := 123) (n := 8) (v := 8) hX (by decide +kernel) (by decide +kernel) ?_
  refine J_iconst (pc := 125) (n := 1) (v := 1) hX (by decide +kernel) (by decide +kernel) ?_
  refine J_bipush (pc := 126) (n := 99) (v := 99) hX (by decide +kernel) (by decide +kernel) ?_
  refine J_cIm (pc := 128) (idx := 9) [.int 8, .int 1, .int 99] hX (by decide +kernel) (Or.inl (mq mt_1 161 (by decide +kernel))) mc_Rw_init rfl rfl (Nat.le_of_ble_eq_true rfl) (Nat.le_of_ble_eq_true rfl) (c_Rw_init q50 8 1 99 μ51 y52) (fun μ53 y54 => ?_)
  refine J_ckP (fun h55 => ?_)
  refine J_pRf (pc := 131) hX hI (by decide +kernel) fl_Td_36 (by intro r hr; cases hr; rfl) h55 rfl rfl rfl (fun y56 => ?_)
  refine J_aload_n (k0 := 0) (pc := 134) 0 hX (by decide +kernel) rfl rfl ?_
  refine J_nwC (pc := 135) (idx := 7) (ci := 5) (C := "SaltFigures$Row") (T := TX5) (N := 4) hX (by decide +kernel) (mq mt_1 159 (by decide +kernel)) (mq mt_1 160 (by decide +kernel)) (mq mt_1 8 (by decide +kernel)) rfl df_Rw (fun q57 μ58 y59 => ?_)
  refine J_dup (pc := 138) hX (by decide +kernel) rfl ?_
  refine J_bipush (pc := 139) (n := 8) (v := 8) hX (by decide +kernel) (by decide +kernel) ?_
  refine J_iconst (pc := 141) (n := 1) (v := 1) hX (by decide +kernel) (by decide +kernel) ?_
  refine J_bipush (pc := 142) (n := 60) (v := 60) hX (by decide +kernel) (by decide +kernel) ?_
  refine J_cIm (pc := 144) (idx := 9) [.int 8, .int 1, .int 60] hX (by decide +kernel) (Or.inl (mq mt_1 161 (by decide +kernel))) mc_Rw_init rfl rfl (Nat.le_of_ble_eq_true rfl) (Nat.le_of_ble_eq_true rfl) (c_Rw_init q57 8 1 60 μ58 y59) (fun μ60 y61 => ?_)
  refine J_ckP (fun h62 => ?_)
  refine J_pRf (pc := 147) hX hI (by decide +kernel) fl_Td_39 (by intro r hr; cases hr; rfl) h62 rfl rfl rfl (fun y63 => ?_)
  refine J_aload_n (k0 := 0) (pc := 150) 0 hX (by decide +kernel) rfl rfl ?_
  refine J_nwC (pc := 151) (idx := 7) (ci := 5) (C := "SaltFigures$Row") (T := TX5) (N := 4) hX (by decide +kernel) (mq mt_1 159 (by decide +kernel)) (mq mt_1 160 (by decide +kernel)) (mq mt_1 8 (by decide +kernel)) rfl df_Rw (fun q64 μ65 y66 => ?_)
  refine J_dup (pc := 154) hX (by decide +kernel) rfl ?_
  refine J_bipush (pc := 155) (n := 8) (v := 8) hX (by decide +kernel) (by decide +kernel) ?_
  refine J_iconst (pc := 157) (n := 0) (v := 0) hX (by decide +kernel) (by decide +kernel) ?_
  refine J_bipush (pc := 158) (n := 99) (v := 99) hX (by decide +kernel) (by decide +kernel) ?_
  refine J_cIm (pc := 160) (idx := 9) [.int 8, .int 0, .int 99] hX (by decide +kernel) (Or.inl (mq mt_1 161 (by decide +kernel))) mc_Rw_init rfl rfl (Nat.le_of_ble_eq_true rfl) (Nat.le_of_ble_eq_true rfl) (c_Rw_init q64 8 0 99 μ65 y66) (fun μ67 y68 => ?_)
  refine J_ckP (fun h69 => ?_)
  refine J_pRf (pc := 163) hX hI (by decide +kernel) fl_Td_42 (by intro r hr; cases hr; rfl) h69 rfl rfl rfl (fun y70 => ?_)
  exact J_vret (pc := 166) hX (by decide +kernel) rfl trivial
set_option maxRecDepth 100000 in
set_option maxHeartbeats 4000000 in
theorem c_Td_init {l : Launch} {G : Gx} (a : Nat)  (μ : Mu) (y : Ly) : Cm l G ⟨"SaltFigures$Told", "<init>", "()V"⟩ prog_11_method_1_code 1 none 5 [.ref (G.1 + a)] (μ, y) rvV (Td_init a  μ y) := cm_of (by decide +kernel) (Nat.le_of_ble_eq_true rfl) (fun X hX hI => jTd_init hX (hI rfl)  μ y)
set_option maxRecDepth 100000 in
noncomputable def Tx_init (a : Nat)  (μ : Mu) (y : Ly) : Option (Unit × Mm) := nwK μ y 4 8 (fun q1 μ2 y3 => clm y3 (Lw_init q1 μ2 y3) (fun _ μ4 y5 => ckP (y5.2[a]? = some (8, 5)) (pR y5 a 0 q1 (fun y7 => nwK μ4 y7 0 64 (fun q8 μ9 y10 => ckP (y10.2[a]? = some (8, 5)) (pR y10 a 1 q8 (fun y12 => nwK μ9 y12 0 16 (fun q13 μ14 y15 => ckP (y15.2[a]? = some (8, 5)) (pR y15 a 2 q13 (fun y17 => nwK μ14 y17 0 16 (fun q18 μ19 y20 => ckP (y20.2[a]? = some (8, 5)) (pR y20 a 3 q18 (fun y22 => nwK μ19 y22 0 4 (fun q23 μ24 y25 => ckP (y25.2[a]? = some (8, 5)) (pR y25 a 4 q23 (fun y27 => ckP (y27.2[a]? = some (8, 5)) (gR y27 a 2 (none) (fun q28 => ckP (y27.2[q28]? = some (0, 16)) (cl (Ja_fill q28 16 ((-1)) μ24) (fun _ μ31 => some ((), (μ31, y27))))))))))))))))))))))
set_option maxRecDepth 100000 in
set_option maxHeartbeats 4000000 in
theorem jTx_init {X : Cx} {l : Launch} {G : Gx} {y0 : Ly} {a : Nat}  (hX : Ok X l G prog_9_method_1_code 1 none "SaltFigures$Texts") (hI : OkI X)  (μ : Mu) (y : Ly) : J X G 1 5 y0 id rvV tpT 0 [(0, .ref (G.1 + a))] [] (μ, y) (Tx_init a  μ y) := by
  unfold Tx_init
  refine J_aload_n (k0 := 0) (pc := 0) 0 hX (by decide +kernel) rfl rfl ?_
  refine J_objI (pc := 1) (idx := 3) hX (by decide +kernel) (mq mt_1 98 (by decide +kernel)) obj_i obj_c (Nat.le_of_ble_eq_true rfl) (Nat.le_of_ble_eq_true rfl) ?_
  refine J_aload_n (k0 := 0) (pc := 4) 0 hX (by decide +kernel) rfl rfl ?_
  refine J_nwC (pc := 5) (idx := 9) (ci := 2) (C := "SaltFigures$Law") (T := TX2) (N := 8) hX (by decide +kernel) (mq mt_1 99 (by decide +kernel)) (mq mt_1 100 (by decide +kernel)) (mq mt_1 6 (by decide +kernel)) rfl df_Lw (fun q1 μ2 y3 => ?_)
  refine J_dup (pc := 8) hX (by decide +kernel) rfl ?_
  refine J_cIm (pc := 9) (idx := 11) [] hX (by decide +kernel) (Or.inr ⟨"SaltFigures", (mq mt_1 101 (by decide +kernel))⟩) mc_Lw_init rfl rfl (Nat.le_of_ble_eq_true rfl) (Nat.le_of_ble_eq_true rfl) (c_Lw_init q1 μ2 y3) (fun μ4 y5 => ?_)
  refine J_ckP (fun h6 => ?_)
  refine J_pRf (pc := 12) hX hI (by decide +kernel) fl_Tx_12 (by intro r hr; cases hr; rfl) h6 rfl rfl rfl (fun y7 => ?_)
  refine J_aload_n (k0 := 0) (pc := 15) 0 hX (by decide +kernel) rfl rfl ?_
  refine J_bipush (pc := 16) (n := 64) (v := 64) hX (by decide +kernel) (by decide +kernel) ?_
  refine J_nwA (pc := 18) hX (by decide +kernel) (mq mt_1 92 (by decide +kernel)) (by decide +kernel) (by decide +kernel) (by decide +kernel) (fun q8 μ9 y10 => ?_)
  refine J_ckP (fun h11 => ?_)
  refine J_pRf (pc := 20) hX hI (by decide +kernel) fl_Tx_18 (by intro r hr; cases hr; rfl) h11 rfl rfl rfl (fun y12 => ?_)
  refine J_aload_n (k0 := 0) (pc := 23) 0 hX (by decide +kernel) rfl rfl ?_
  refine J_bipush (pc := 24) (n := 16) (v := 16) hX (by decide +kernel) (by decide +kernel) ?_
  refine J_nwA (pc := 26) hX (by decide +kernel) (mq mt_1 92 (by decide +kernel)) (by decide +kernel) (by decide +kernel) (by decide +kernel) (fun q13 μ14 y15 => ?_)
  refine J_ckP (fun h16 => ?_)
  refine J_pRf (pc := 28) hX hI (by decide +kernel) fl_Tx_22 (by intro r hr; cases hr; rfl) h16 rfl rfl rfl (fun y17 => ?_)
  refine J_aload_n (k0 := 0) (pc := 31) 0 hX (by decide +kernel) rfl rfl ?_
  refine J_bipush (pc := 32) (n := 16) (v := 16) hX (by decide +kernel) (by decide +kernel) ?_
  refine J_nwA (pc := 34) hX (by decide +kernel) (mq mt_1 92 (by decide +kernel)) (by decide +kernel) (by decide +kernel) (by decide +kernel) (fun q18 μ19 y20 => ?_)
  refine J_ckP (fun h21 => ?_)
  refine J_pRf (pc := 36) hX hI (by decide +kernel) fl_Tx_25 (by intro r hr; cases hr; rfl) h21 rfl rfl rfl (fun y22 => ?_)
  refine J_aload_n (k0 := 0) (pc := 39) 0 hX (by decide +kernel) rfl rfl ?_
  refine J_iconst (pc := 40) (n := 4) (v := 4) hX (by decide +kernel) (by decide +kernel) ?_
  refine J_nwA (pc := 41) hX (by decide +kernel) (mq mt_1 92 (by decide +kernel)) (by decide +kernel) (by decide +kernel) (by decide +kernel) (fun q23 μ24 y25 => ?_)
  refine J_ckP (fun h26 => ?_)
  refine J_pRf (pc := 43) hX hI (by decide +kernel) fl_Tx_28 (by intro r hr; cases hr; rfl) h26 rfl rfl rfl (fun y27 => ?_)
  refine J_aload_n (k0 := 0) (pc := 46) 0 hX (by decide +kernel) rfl rfl ?_
  refine J_ckP (fun h29 => ?_)
  refine J_gRm (pc := 47) hX (by decide +kernel) fl_Tx_22 h29 rfl ?_ (fun q28 => ?_)
  · exact J_none
  · refine J_iconst (pc := 50) (n := -1) (v := (-1)) hX (by decide +kernel) (by decide +kernel) ?_
    refine J_ckP (fun h30 => ?_)
    refine J_cSv (pc := 51) (idx := 31) [.ref (G.1 + q28), .int ((-1))] hX (by decide +kernel) (mq mt_1 135 (by decide +kernel)) mv_Ja_fill rfl rfl (Nat.le_of_ble_eq_true rfl) (Nat.le_of_ble_eq_true rfl) (c_Ja_fill h30 ((-1)) μ24) (fun μ31 => ?_)
    exact J_vret (pc := 54) hX (by decide +kernel) rfl trivial
set_option maxRecDepth 100000 in
set_option maxHeartbeats 4000000 in
theorem c_Tx_init {l : Launch} {G : Gx} (a : Nat)  (μ : Mu) (y : Ly) : Cm l G ⟨"SaltFigures$Texts", "<init>", "()V"⟩ prog_9_method_1_code 1 none 5 [.ref (G.1 + a)] (μ, y) rvV (Tx_init a  μ y) := cm_of (by decide +kernel) (Nat.le_of_ble_eq_true rfl) (fun X hX hI => jTx_init hX (hI rfl)  μ y)
set_option maxRecDepth 100000 in
noncomputable def Pt_init (a : Nat)  (μ : Mu) (y : Ly) : Option (Unit × Mm) := nwK μ y 3 10 (fun q1 μ2 y3 => clm y3 (Fg_init q1 0 μ2 y3) (fun _ μ4 y5 => ckP (y5.2[a]? = some (5, 4)) (pR y5 a 0 q1 (fun y7 => nwK μ4 y7 0 600 (fun q8 μ9 y10 => ckP (y10.2[a]? = some (5, 4)) (pR y10 a 1 q8 (fun y12 => nwK μ9 y12 8 5 (fun q13 μ14 y15 => clm y15 (Tx_init q13 μ14 y15) (fun _ μ16 y17 => ckP (y17.2[a]? = some (5, 4)) (pR y17 a 2 q13 (fun y19 => nwK μ16 y19 10 11 (fun q20 μ21 y22 => clm y22 (Td_init q20 μ21 y22) (fun _ μ23 y24 => ckP (y24.2[a]? = some (5, 4)) (pR y24 a 3 q20 (fun y26 => some ((), (μ23, y26)))))))))))))))))
set_option maxRecDepth 100000 in
set_option maxHeartbeats 4000000 in
theorem jPt_init {X : Cx} {l : Launch} {G : Gx} {y0 : Ly} {a : Nat}  (hX : Ok X l G prog_5_method_1_code 1 none "SaltFigures$Port") (hI : OkI X)  (μ : Mu) (y : Ly) : J X G 1 6 y0 id rvV tpT 0 [(0, .ref (G.1 + a))] [] (μ, y) (Pt_init a  μ y) := by
  unfold Pt_init
  refine J_aload_n (k0 := 0) (pc := 0) 0 hX (by decide +kernel) rfl rfl ?_
  refine J_objI (pc := 1) (idx := 3) hX (by decide +kernel) (mq mt_1 35 (by decide +kernel)) obj_i obj_c (Nat.le_of_ble_eq_true rfl) (Nat.le_of_ble_eq_true rfl) ?_
  refine J_aload_n (k0 := 0) (pc := 4) 0 hX (by decide +kernel) rfl rfl ?_
  refine J_nwC (pc := 5) (idx := 9) (ci := 1) (C := "SaltFigures$Figures") (T := TX1) (N := 10) hX (by decide +kernel) (mq mt_1 36 (by decide +kernel)) (mq mt_1 37 (by decide +kernel)) (mq mt_1 3 (by decide +kernel)) rfl df_Fg (fun q1 μ2 y3 => ?_)
  refine J_dup (pc := 8) hX (by decide +kernel) rfl ?_
  refine J_iconst (pc := 9) (n := 0) (v := 0) hX (by decide +kernel) (by decide +kernel) ?_
  refine J_cIm (pc := 10) (idx := 11) [.int 0] hX (by decide +kernel) (Or.inl (mq mt_1 38 (by decide +kernel))) mc_Fg_init rfl rfl (Nat.le_of_ble_eq_true rfl) (Nat.le_of_ble_eq_true rfl) (c_Fg_init q1 0 μ2 y3) (fun μ4 y5 => ?_)
  refine J_ckP (fun h6 => ?_)
  refine J_pRf (pc := 13) hX hI (by decide +kernel) fl_Pt_14 (by intro r hr; cases hr; rfl) h6 rfl rfl rfl (fun y7 => ?_)
  refine J_aload_n (k0 := 0) (pc := 16) 0 hX (by decide +kernel) rfl rfl ?_
  refine J_sipush (pc := 17) (n := 600) (v := 600) hX (by decide +kernel) (by decide +kernel) ?_
  refine J_nwA (pc := 20) hX (by decide +kernel) (mq mt_1 92 (by decide +kernel)) (by decide +kernel) (by decide +kernel) (by decide +kernel) (fun q8 μ9 y10 => ?_)
  refine J_ckP (fun h11 => ?_)
  refine J_pRf (pc := 22) hX hI (by decide +kernel) fl_Pt_20 (by intro r hr; cases hr; rfl) h11 rfl rfl rfl (fun y12 => ?_)
  refine J_aload_n (k0 := 0) (pc := 25) 0 hX (by decide +kernel) rfl rfl ?_
  refine J_nwC (pc := 26) (idx := 24) (ci := 6) (C := "SaltFigures$Texts") (T := TX7) (N := 5) hX (by decide +kernel) (mq mt_1 93 (by decide +kernel)) (mq mt_1 94 (by decide +kernel)) (mq mt_1 5 (by decide +kernel)) rfl df_Tx (fun q13 μ14 y15 => ?_)
  refine J_dup (pc := 29) hX (by decide +kernel) rfl ?_
  refine J_cIm (pc := 30) (idx := 26) [] hX (by decide +kernel) (Or.inl (mq mt_1 95 (by decide +kernel))) mc_Tx_init rfl rfl (Nat.le_of_ble_eq_true rfl) (Nat.le_of_ble_eq_true rfl) (c_Tx_init q13 μ14 y15) (fun μ16 y17 => ?_)
  refine J_ckP (fun h18 => ?_)
  refine J_pRf (pc := 33) hX hI (by decide +kernel) fl_Pt_27 (by intro r hr; cases hr; rfl) h18 rfl rfl rfl (fun y19 => ?_)
  refine J_aload_n (k0 := 0) (pc := 36) 0 hX (by decide +kernel) rfl rfl ?_
  refine J_nwC (pc := 37) (idx := 31) (ci := 8) (C := "SaltFigures$Told") (T := TX9) (N := 11) hX (by decide +kernel) (mq mt_1 153 (by decide +kernel)) (mq mt_1 154 (by decide +kernel)) (mq mt_1 7 (by decide +kernel)) rfl df_Td (fun q20 μ21 y22 => ?_)
  refine J_dup (pc := 40) hX (by decide +kernel) rfl ?_
  refine J_cIm (pc := 41) (idx := 33) [] hX (by decide +kernel) (Or.inr ⟨"SaltFigures", (mq mt_1 155 (by decide +kernel))⟩) mc_Td_init rfl rfl (Nat.le_of_ble_eq_true rfl) (Nat.le_of_ble_eq_true rfl) (c_Td_init q20 μ21 y22) (fun μ23 y24 => ?_)
  refine J_ckP (fun h25 => ?_)
  refine J_pRf (pc := 44) hX hI (by decide +kernel) fl_Pt_34 (by intro r hr; cases hr; rfl) h25 rfl rfl rfl (fun y26 => ?_)
  exact J_vret (pc := 47) hX (by decide +kernel) rfl trivial
set_option maxRecDepth 100000 in
set_option maxHeartbeats 4000000 in
theorem c_Pt_init {l : Launch} {G : Gx} (a : Nat)  (μ : Mu) (y : Ly) : Cm l G ⟨"SaltFigures$Port", "<init>", "()V"⟩ prog_5_method_1_code 1 none 6 [.ref (G.1 + a)] (μ, y) rvV (Pt_init a  μ y) := cm_of (by decide +kernel) (Nat.le_of_ble_eq_true rfl) (fun X hX hI => jPt_init hX (hI rfl)  μ y)
set_option maxRecDepth 100000 in
noncomputable def Dy_init (a f1 : Nat)  (μ : Mu) (y : Ly) : Option (Unit × Mm) := nwK μ y 0 10 (fun q1 μ2 y3 => ckP (y3.2[a]? = some (2, 4)) (pR y3 a 2 q1 (fun y5 => nwK μ2 y5 0 16 (fun q6 μ7 y8 => ckP (y8.2[a]? = some (2, 4)) (pR y8 a 3 q6 (fun y10 => ckP (y10.2[a]? = some (2, 4)) (pR y10 a 0 f1 (fun y12 => ckP (y12.2[f1]? = some (5, 4)) (gR y12 f1 2 (none) (fun q13 => ckP (y12.2[a]? = some (2, 4)) (pR y12 a 1 q13 (fun y16 => some ((), (μ7, y16))))))))))))))
set_option maxRecDepth 100000 in
set_option maxHeartbeats 4000000 in
theorem jDy_init {X : Cx} {l : Launch} {G : Gx} {y0 : Ly} {a f1 : Nat}  (hX : Ok X l G prog_2_method_1_code 2 none "SaltFigures$Days") (hI : OkI X)  (μ : Mu) (y : Ly) : J X G 2 4 y0 id rvV tpT 0 [(0, .ref (G.1 + a)), (1, .ref (G.1 + f1))] [] (μ, y) (Dy_init a f1  μ y) := by
  unfold Dy_init
  refine J_aload_n (k0 := 0) (pc := 0) 0 hX (by decide +kernel) rfl rfl ?_
  refine J_objI (pc := 1) (idx := 3) hX (by decide +kernel) (mq mt_2 20 (by decide +kernel)) obj_i obj_c (Nat.le_of_ble_eq_true rfl) (Nat.le_of_ble_eq_true rfl) ?_
  refine J_aload_n (k0 := 0) (pc := 4) 0 hX (by decide +kernel) rfl rfl ?_
  refine J_bipush (pc := 5) (n := 10) (v := 10) hX (by decide +kernel) (by decide +kernel) ?_
  refine J_nwA (pc := 7) hX (by decide +kernel) (mq mt_1 92 (by decide +kernel)) (by decide +kernel) (by decide +kernel) (by decide +kernel) (fun q1 μ2 y3 => ?_)
  refine J_ckP (fun h4 => ?_)
  refine J_pRf (pc := 9) hX hI (by decide +kernel) fl_Dy_9 (by intro r hr; cases hr; rfl) h4 rfl rfl rfl (fun y5 => ?_)
  refine J_aload_n (k0 := 0) (pc := 12) 0 hX (by decide +kernel) rfl rfl ?_
  refine J_bipush (pc := 13) (n := 16) (v := 16) hX (by decide +kernel) (by decide +kernel) ?_
  refine J_nwA (pc := 15) hX (by decide +kernel) (mq mt_1 92 (by decide +kernel)) (by decide +kernel) (by decide +kernel) (by decide +kernel) (fun q6 μ7 y8 => ?_)
  refine J_ckP (fun h9 => ?_)
  refine J_pRf (pc := 17) hX hI (by decide +kernel) fl_Dy_15 (by intro r hr; cases hr; rfl) h9 rfl rfl rfl (fun y10 => ?_)
  refine J_aload_n (k0 := 0) (pc := 20) 0 hX (by decide +kernel) rfl rfl ?_
  refine J_aload_n (k0 := 1) (pc := 21) 1 hX (by decide +kernel) rfl rfl ?_
  refine J_ckP (fun h11 => ?_)
  refine J_pRf (pc := 22) hX hI (by decide +kernel) fl_Dy_18 (by intro r hr; cases hr; rfl) h11 rfl rfl rfl (fun y12 => ?_)
  refine J_aload_n (k0 := 0) (pc := 25) 0 hX (by decide +kernel) rfl rfl ?_
  refine J_aload_n (k0 := 1) (pc := 26) 1 hX (by decide +kernel) rfl rfl ?_
  refine J_ckP (fun h14 => ?_)
  refine J_gRm (pc := 27) hX (by decide +kernel) fl_Dy_22 h14 rfl ?_ (fun q13 => ?_)
  · exact J_none
  · refine J_ckP (fun h15 => ?_)
    refine J_pRf (pc := 30) hX hI (by decide +kernel) fl_Dy_28 (by intro r hr; cases hr; rfl) h15 rfl rfl rfl (fun y16 => ?_)
    exact J_vret (pc := 33) hX (by decide +kernel) rfl trivial
set_option maxRecDepth 100000 in
set_option maxHeartbeats 4000000 in
theorem c_Dy_init {l : Launch} {G : Gx} (a f1 : Nat)  (μ : Mu) (y : Ly) : Cm l G ⟨"SaltFigures$Days", "<init>", "(LSaltFigures$Port;)V"⟩ prog_2_method_1_code 2 none 4 [.ref (G.1 + a), .ref (G.1 + f1)] (μ, y) rvV (Dy_init a f1  μ y) := cm_of (by decide +kernel) (Nat.le_of_ble_eq_true rfl) (fun X hX hI => jDy_init hX (hI rfl)  μ y)
set_option maxRecDepth 100000 in
noncomputable def Th_init (a f1 : Nat)  (μ : Mu) (y : Ly) : Option (Unit × Mm) := nwK μ y 0 361 (fun q1 μ2 y3 => ckP (y3.2[a]? = some (9, 3)) (pR y3 a 1 q1 (fun y5 => nwK μ2 y5 0 32 (fun q6 μ7 y8 => ckP (y8.2[a]? = some (9, 3)) (pR y8 a 2 q6 (fun y10 => ckP (y10.2[a]? = some (9, 3)) (pR y10 a 0 f1 (fun y12 => some ((), (μ7, y12))))))))))
set_option maxRecDepth 100000 in
set_option maxHeartbeats 4000000 in
theorem jTh_init {X : Cx} {l : Launch} {G : Gx} {y0 : Ly} {a f1 : Nat}  (hX : Ok X l G prog_10_method_1_code 2 none "SaltFigures$Thinker") (hI : OkI X)  (μ : Mu) (y : Ly) : J X G 2 4 y0 id rvV tpT 0 [(0, .ref (G.1 + a)), (1, .ref (G.1 + f1))] [] (μ, y) (Th_init a f1  μ y) := by
  unfold Th_init
  refine J_aload_n (k0 := 0) (pc := 0) 0 hX (by decide +kernel) rfl rfl ?_
  refine J_objI (pc := 1) (idx := 3) hX (by decide +kernel) (mq mt_2 41 (by decide +kernel)) obj_i obj_c (Nat.le_of_ble_eq_true rfl) (Nat.le_of_ble_eq_true rfl) ?_
  refine J_aload_n (k0 := 0) (pc := 4) 0 hX (by decide +kernel) rfl rfl ?_
  refine J_sipush (pc := 5) (n := 361) (v := 361) hX (by decide +kernel) (by decide +kernel) ?_
  refine J_nwA (pc := 8) hX (by decide +kernel) (mq mt_1 92 (by decide +kernel)) (by decide +kernel) (by decide +kernel) (by decide +kernel) (fun q1 μ2 y3 => ?_)
  refine J_ckP (fun h4 => ?_)
  refine J_pRf (pc := 10) hX hI (by decide +kernel) fl_Th_11 (by intro r hr; cases hr; rfl) h4 rfl rfl rfl (fun y5 => ?_)
  refine J_aload_n (k0 := 0) (pc := 13) 0 hX (by decide +kernel) rfl rfl ?_
  refine J_bipush (pc := 14) (n := 32) (v := 32) hX (by decide +kernel) (by decide +kernel) ?_
  refine J_nwA (pc := 16) hX (by decide +kernel) (mq mt_1 92 (by decide +kernel)) (by decide +kernel) (by decide +kernel) (by decide +kernel) (fun q6 μ7 y8 => ?_)
  refine J_ckP (fun h9 => ?_)
  refine J_pRf (pc := 18) hX hI (by decide +kernel) fl_Th_15 (by intro r hr; cases hr; rfl) h9 rfl rfl rfl (fun y10 => ?_)
  refine J_aload_n (k0 := 0) (pc := 21) 0 hX (by decide +kernel) rfl rfl ?_
  refine J_aload_n (k0 := 1) (pc := 22) 1 hX (by decide +kernel) rfl rfl ?_
  refine J_ckP (fun h11 => ?_)
  refine J_pRf (pc := 23) hX hI (by decide +kernel) fl_Th_18 (by intro r hr; cases hr; rfl) h11 rfl rfl rfl (fun y12 => ?_)
  exact J_vret (pc := 26) hX (by decide +kernel) rfl trivial
set_option maxRecDepth 100000 in
set_option maxHeartbeats 4000000 in
theorem c_Th_init {l : Launch} {G : Gx} (a f1 : Nat)  (μ : Mu) (y : Ly) : Cm l G ⟨"SaltFigures$Thinker", "<init>", "(LSaltFigures$Told;)V"⟩ prog_10_method_1_code 2 none 4 [.ref (G.1 + a), .ref (G.1 + f1)] (μ, y) rvV (Th_init a f1  μ y) := cm_of (by decide +kernel) (Nat.le_of_ble_eq_true rfl) (fun X hX hI => jTh_init hX (hI rfl)  μ y)
set_option maxRecDepth 100000 in
noncomputable def Rd_init (a : Nat)  (μ : Mu) (y : Ly) : Option (Unit × Mm) := nwK μ y 0 400 (fun q1 μ2 y3 => ckP (y3.2[a]? = some (6, 13)) (pR y3 a 0 q1 (fun y5 => ckP (y5.2[a]? = some (6, 13)) (pF μ2 a 9 ((-1)) (fun μ7 => nwK μ7 y5 4 8 (fun q8 μ9 y10 => clm y10 (Lw_init q8 μ9 y10) (fun _ μ11 y12 => ckP (y12.2[a]? = some (6, 13)) (pR y12 a 11 q8 (fun y14 => nwK μ11 y14 0 64 (fun q15 μ16 y17 => ckP (y17.2[a]? = some (6, 13)) (pR y17 a 12 q15 (fun y19 => some ((), (μ16, y19))))))))))))))
set_option maxRecDepth 100000 in
set_option maxHeartbeats 4000000 in
theorem jRd_init {X : Cx} {l : Launch} {G : Gx} {y0 : Ly} {a : Nat}  (hX : Ok X l G prog_6_method_1_code 1 none "SaltFigures$Reader") (hI : OkI X)  (μ : Mu) (y : Ly) : J X G 1 5 y0 id rvV tpT 0 [(0, .ref (G.1 + a))] [] (μ, y) (Rd_init a  μ y) := by
  unfold Rd_init
  refine J_aload_n (k0 := 0) (pc := 0) 0 hX (by decide +kernel) rfl rfl ?_
  refine J_objI (pc := 1) (idx := 3) hX (by decide +kernel) (mq mt_2 57 (by decide +kernel)) obj_i obj_c (Nat.le_of_ble_eq_true rfl) (Nat.le_of_ble_eq_true rfl) ?_
  refine J_aload_n (k0 := 0) (pc := 4) 0 hX (by decide +kernel) rfl rfl ?_
  refine J_sipush (pc := 5) (n := 400) (v := 400) hX (by decide +kernel) (by decide +kernel) ?_
  refine J_nwA (pc := 8) hX (by decide +kernel) (mq mt_1 92 (by decide +kernel)) (by decide +kernel) (by decide +kernel) (by decide +kernel) (fun q1 μ2 y3 => ?_)
  refine J_ckP (fun h4 => ?_)
  refine J_pRf (pc := 10) hX hI (by decide +kernel) fl_Rd_9 (by intro r hr; cases hr; rfl) h4 rfl rfl rfl (fun y5 => ?_)
  refine J_aload_n (k0 := 0) (pc := 13) 0 hX (by decide +kernel) rfl rfl ?_
  refine J_iconst (pc := 14) (n := -1) (v := (-1)) hX (by decide +kernel) (by decide +kernel) ?_
  refine J_ckP (fun h6 => ?_)
  refine J_pF (pc := 15) hX (by decide +kernel) fl_Rd_15 h6 rfl (fun μ7 => ?_)
  refine J_aload_n (k0 := 0) (pc := 18) 0 hX (by decide +kernel) rfl rfl ?_
  refine J_nwC (pc := 19) (idx := 19) (ci := 2) (C := "SaltFigures$Law") (T := TX2) (N := 8) hX (by decide +kernel) (mq mt_2 58 (by decide +kernel)) (mq mt_1 100 (by decide +kernel)) (mq mt_1 6 (by decide +kernel)) rfl df_Lw (fun q8 μ9 y10 => ?_)
  refine J_dup (pc := 22) hX (by decide +kernel) rfl ?_
  refine J_cIm (pc := 23) (idx := 21) [] hX (by decide +kernel) (Or.inr ⟨"SaltFigures", (mq mt_2 59 (by decide +kernel))⟩) mc_Lw_init rfl rfl (Nat.le_of_ble_eq_true rfl) (Nat.le_of_ble_eq_true rfl) (c_Lw_init q8 μ9 y10) (fun μ11 y12 => ?_)
  refine J_ckP (fun h13 => ?_)
  refine J_pRf (pc := 26) hX hI (by decide +kernel) fl_Rd_22 (by intro r hr; cases hr; rfl) h13 rfl rfl rfl (fun y14 => ?_)
  refine J_aload_n (k0 := 0) (pc := 29) 0 hX (by decide +kernel) rfl rfl ?_
  refine J_bipush (pc := 30) (n := 64) (v := 64) hX (by decide +kernel) (by decide +kernel) ?_
  refine J_nwA (pc := 32) hX (by decide +kernel) (mq mt_1 92 (by decide +kernel)) (by decide +kernel) (by decide +kernel) (by decide +kernel) (fun q15 μ16 y17 => ?_)
  refine J_ckP (fun h18 => ?_)
  refine J_pRf (pc := 34) hX hI (by decide +kernel) fl_Rd_26 (by intro r hr; cases hr; rfl) h18 rfl rfl rfl (fun y19 => ?_)
  exact J_vret (pc := 37) hX (by decide +kernel) rfl trivial
set_option maxRecDepth 100000 in
set_option maxHeartbeats 4000000 in
theorem c_Rd_init {l : Launch} {G : Gx} (a : Nat)  (μ : Mu) (y : Ly) : Cm l G ⟨"SaltFigures$Reader", "<init>", "()V"⟩ prog_6_method_1_code 1 none 5 [.ref (G.1 + a)] (μ, y) rvV (Rd_init a  μ y) := cm_of (by decide +kernel) (Nat.le_of_ble_eq_true rfl) (fun X hX hI => jRd_init hX (hI rfl)  μ y)
set_option maxRecDepth 100000 in
noncomputable def Sf_init (a : Nat)  (μ : Mu) (y : Ly) : Option (Unit × Mm) := nwK μ y 5 4 (fun q1 μ2 y3 => clm y3 (Pt_init q1 μ2 y3) (fun _ μ4 y5 => ckP (y5.2[a]? = some (11, 9)) (pR y5 a 0 q1 (fun y7 => nwK μ4 y7 2 4 (fun q8 μ9 y10 => ckP (y10.2[a]? = some (11, 9)) (gR y10 a 0 (none) (fun q11 => clm y10 (Dy_init q8 q11 μ9 y10) (fun _ μ13 y14 => ckP (y14.2[a]? = some (11, 9)) (pR y14 a 2 q8 (fun y16 => nwK μ13 y16 3 10 (fun q17 μ18 y19 => clm y19 (Fg_init q17 1 μ18 y19) (fun _ μ20 y21 => ckP (y21.2[a]? = some (11, 9)) (pR y21 a 3 q17 (fun y23 => nwK μ20 y23 9 3 (fun q24 μ25 y26 => ckP (y26.2[a]? = some (11, 9)) (gR y26 a 0 (none) (fun q27 => ckP (y26.2[q27]? = some (5, 4)) (gR y26 q27 3 (none) (fun q29 => clm y26 (Th_init q24 q29 μ25 y26) (fun _ μ31 y32 => ckP (y32.2[a]? = some (11, 9)) (pR y32 a 4 q24 (fun y34 => nwK μ31 y34 6 13 (fun q35 μ36 y37 => clm y37 (Rd_init q35 μ36 y37) (fun _ μ38 y39 => ckP (y39.2[a]? = some (11, 9)) (pR y39 a 5 q35 (fun y41 => nwK μ38 y41 1 6 (fun q42 μ43 y44 => ckP (y44.2[a]? = some (11, 9)) (pR y44 a 6 q42 (fun y46 => some ((), (μ43, y46)))))))))))))))))))))))))))))))
set_option maxRecDepth 100000 in
set_option maxHeartbeats 4000000 in
theorem jSf_init {X : Cx} {l : Launch} {G : Gx} {y0 : Ly} {a : Nat}  (hX : Ok X l G prog_1_method_1_code 1 none "SaltFigures") (hI : OkI X)  (μ : Mu) (y : Ly) : J X G 1 7 y0 id rvV tpT 0 [(0, .ref (G.1 + a))] [] (μ, y) (Sf_init a  μ y) := by
  unfold Sf_init
  refine J_aload_n (k0 := 0) (pc := 0) 0 hX (by decide +kernel) rfl rfl ?_
  refine J_objI (pc := 1) (idx := 3) hX (by decide +kernel) (mq mt_1 27 (by decide +kernel)) obj_i obj_c (Nat.le_of_ble_eq_true rfl) (Nat.le_of_ble_eq_true rfl) ?_
  refine J_aload_n (k0 := 0) (pc := 4) 0 hX (by decide +kernel) rfl rfl ?_
  refine J_nwC (pc := 5) (idx := 9) (ci := 3) (C := "SaltFigures$Port") (T := TX3) (N := 4) hX (by decide +kernel) (mq mt_1 30 (by decide +kernel)) (mq mt_1 31 (by decide +kernel)) (mq mt_1 2 (by decide +kernel)) rfl df_Pt (fun q1 μ2 y3 => ?_)
  refine J_dup (pc := 8) hX (by decide +kernel) rfl ?_
  refine J_cIm (pc := 9) (idx := 11) [] hX (by decide +kernel) (Or.inr ⟨"SaltFigures", (mq mt_1 32 (by decide +kernel))⟩) mc_Pt_init rfl rfl (Nat.le_of_ble_eq_true rfl) (Nat.le_of_ble_eq_true rfl) (c_Pt_init q1 μ2 y3) (fun μ4 y5 => ?_)
  refine J_ckP (fun h6 => ?_)
  refine J_pRf (pc := 12) hX hI (by decide +kernel) fl_Sf_12 (by intro r hr; cases hr; rfl) h6 rfl rfl rfl (fun y7 => ?_)
  refine J_aload_n (k0 := 0) (pc := 15) 0 hX (by decide +kernel) rfl rfl ?_
  refine J_nwC (pc := 16) (idx := 16) (ci := 0) (C := "SaltFigures$Days") (T := TX0) (N := 4) hX (by decide +kernel) (mq mt_2 15 (by decide +kernel)) (mq mt_2 16 (by decide +kernel)) (mq mt_1 10 (by decide +kernel)) rfl df_Dy (fun q8 μ9 y10 => ?_)
  refine J_dup (pc := 19) hX (by decide +kernel) rfl ?_
  refine J_aload_n (k0 := 0) (pc := 20) 0 hX (by decide +kernel) rfl rfl ?_
  refine J_ckP (fun h12 => ?_)
  refine J_gRm (pc := 21) hX (by decide +kernel) fl_Sf_12 h12 rfl ?_ (fun q11 => ?_)
  · exact J_none
  · refine J_cIm (pc := 24) (idx := 18) [.ref (G.1 + q11)] hX (by decide +kernel) (Or.inl (mq mt_2 17 (by decide +kernel))) mc_Dy_init rfl rfl (Nat.le_of_ble_eq_true rfl) (Nat.le_of_ble_eq_true rfl) (c_Dy_init q8 q11 μ9 y10) (fun μ13 y14 => ?_)
    refine J_ckP (fun h15 => ?_)
    refine J_pRf (pc := 27) hX hI (by decide +kernel) fl_Sf_21 (by intro r hr; cases hr; rfl) h15 rfl rfl rfl (fun y16 => ?_)
    refine J_aload_n (k0 := 0) (pc := 30) 0 hX (by decide +kernel) rfl rfl ?_
    refine J_nwC (pc := 31) (idx := 25) (ci := 1) (C := "SaltFigures$Figures") (T := TX1) (N := 10) hX (by decide +kernel) (mq mt_2 34 (by decide +kernel)) (mq mt_1 37 (by decide +kernel)) (mq mt_1 3 (by decide +kernel)) rfl df_Fg (fun q17 μ18 y19 => ?_)
    refine J_dup (pc := 34) hX (by decide +kernel) rfl ?_
    refine J_iconst (pc := 35) (n := 1) (v := 1) hX (by decide +kernel) (by decide +kernel) ?_
    refine J_cIm (pc := 36) (idx := 27) [.int 1] hX (by decide +kernel) (Or.inl (mq mt_2 35 (by decide +kernel))) mc_Fg_init rfl rfl (Nat.le_of_ble_eq_true rfl) (Nat.le_of_ble_eq_true rfl) (c_Fg_init q17 1 μ18 y19) (fun μ20 y21 => ?_)
    refine J_ckP (fun h22 => ?_)
    refine J_pRf (pc := 39) hX hI (by decide +kernel) fl_Sf_30 (by intro r hr; cases hr; rfl) h22 rfl rfl rfl (fun y23 => ?_)
    refine J_aload_n (k0 := 0) (pc := 42) 0 hX (by decide +kernel) rfl rfl ?_
    refine J_nwC (pc := 43) (idx := 34) (ci := 7) (C := "SaltFigures$Thinker") (T := TX8) (N := 3) hX (by decide +kernel) (mq mt_2 36 (by decide +kernel)) (mq mt_2 37 (by decide +kernel)) (mq mt_1 11 (by decide +kernel)) rfl df_Th (fun q24 μ25 y26 => ?_)
    refine J_dup (pc := 46) hX (by decide +kernel) rfl ?_
    refine J_aload_n (k0 := 0) (pc := 47) 0 hX (by decide +kernel) rfl rfl ?_
    refine J_ckP (fun h28 => ?_)
    refine J_gRm (pc := 48) hX (by decide +kernel) fl_Sf_12 h28 rfl ?_ (fun q27 => ?_)
    · exact J_none
    · refine J_ckP (fun h30 => ?_)
      refine J_gRm (pc := 51) hX (by decide +kernel) fl_Sf_36 h30 rfl ?_ (fun q29 => ?_)
      · exact J_none
      · refine J_cIm (pc := 54) (idx := 40) [.ref (G.1 + q29)] hX (by decide +kernel) (Or.inl (mq mt_2 38 (by decide +kernel))) mc_Th_init rfl rfl (Nat.le_of_ble_eq_true rfl) (Nat.le_of_ble_eq_true rfl) (c_Th_init q24 q29 μ25 y26) (fun μ31 y32 => ?_)
        refine J_ckP (fun h33 => ?_)
        refine J_pRf (pc := 57) hX hI (by decide +kernel) fl_Sf_43 (by intro r hr; cases hr; rfl) h33 rfl rfl rfl (fun y34 => ?_)
        refine J_aload_n (k0 := 0) (pc := 60) 0 hX (by decide +kernel) rfl rfl ?_
        refine J_nwC (pc := 61) (idx := 47) (ci := 4) (C := "SaltFigures$Reader") (T := TX4) (N := 13) hX (by decide +kernel) (mq mt_2 52 (by decide +kernel)) (mq mt_2 53 (by decide +kernel)) (mq mt_1 12 (by decide +kernel)) rfl df_Rd (fun q35 μ36 y37 => ?_)
        refine J_dup (pc := 64) hX (by decide +kernel) rfl ?_
        refine J_cIm (pc := 65) (idx := 49) [] hX (by decide +kernel) (Or.inr ⟨"SaltFigures", (mq mt_2 54 (by decide +kernel))⟩) mc_Rd_init rfl rfl (Nat.le_of_ble_eq_true rfl) (Nat.le_of_ble_eq_true rfl) (c_Rd_init q35 μ36 y37) (fun μ38 y39 => ?_)
        refine J_ckP (fun h40 => ?_)
        refine J_pRf (pc := 68) hX hI (by decide +kernel) fl_Sf_50 (by intro r hr; cases hr; rfl) h40 rfl rfl rfl (fun y41 => ?_)
        refine J_aload_n (k0 := 0) (pc := 71) 0 hX (by decide +kernel) rfl rfl ?_
        refine J_bipush (pc := 72) (n := 6) (v := 6) hX (by decide +kernel) (by decide +kernel) ?_
        refine J_anw (pc := 74) (idx := 25) hX (by decide +kernel) (mq mt_2 34 (by decide +kernel)) (by decide +kernel) (by decide +kernel) (by decide +kernel) (fun q42 μ43 y44 => ?_)
        refine J_ckP (fun h45 => ?_)
        refine J_pRf (pc := 77) hX hI (by decide +kernel) fl_Sf_54 (by intro r hr; cases hr; rfl) h45 rfl rfl rfl (fun y46 => ?_)
        exact J_vret (pc := 80) hX (by decide +kernel) rfl trivial
set_option maxRecDepth 100000 in
set_option maxHeartbeats 4000000 in
theorem c_Sf_init {l : Launch} {G : Gx} (a : Nat)  (μ : Mu) (y : Ly) : Cm l G ⟨"SaltFigures", "<init>", "()V"⟩ prog_1_method_1_code 1 none 7 [.ref (G.1 + a)] (μ, y) rvV (Sf_init a  μ y) := cm_of (by decide +kernel) (Nat.le_of_ble_eq_true rfl) (fun X hX hI => jSf_init hX (hI rfl)  μ y)
set_option maxRecDepth 100000 in
noncomputable def Mo_init (a : Nat)  (μ : Mu) (y : Ly) : Option (Unit × Mm) := nwK μ y 0 118 (fun q1 μ2 y3 => ckP (y3.2[a]? = some (12, 69)) (pR y3 a 1 q1 (fun y5 => nwK μ2 y5 0 708 (fun q6 μ7 y8 => ckP (y8.2[a]? = some (12, 69)) (pR y8 a 2 q6 (fun y10 => nwK μ7 y10 0 118 (fun q11 μ12 y13 => ckP (y13.2[a]? = some (12, 69)) (pR y13 a 4 q11 (fun y15 => nwK μ12 y15 0 600 (fun q16 μ17 y18 => ckP (y18.2[a]? = some (12, 69)) (pR y18 a 7 q16 (fun y20 => nwK μ17 y20 0 400 (fun q21 μ22 y23 => ckP (y23.2[a]? = some (12, 69)) (pR y23 a 8 q21 (fun y25 => nwK μ22 y25 0 132 (fun q26 μ27 y28 => ckP (y28.2[q26]? = some (0, 132)) (stA μ27 q26 132 0 32 (fun μ30 => ckP (y28.2[q26]? = some (0, 132)) (stA μ30 q26 132 1 115 (fun μ32 => ckP (y28.2[q26]? = some (0, 132)) (stA μ32 q26 132 2 112 (fun μ34 => ckP (y28.2[q26]? = some (0, 132)) (stA μ34 q26 132 3 105 (fun μ36 => ckP (y28.2[q26]? = some (0, 132)) (stA μ36 q26 132 4 108 (fun μ38 => ckP (y28.2[q26]? = some (0, 132)) (stA μ38 q26 132 5 108 (fun μ40 => ckP (y28.2[q26]? = some (0, 132)) (stA μ40 q26 132 6 115 (fun μ42 => ckP (y28.2[q26]? = some (0, 132)) (stA μ42 q26 132 7 32 (fun μ44 => ckP (y28.2[q26]? = some (0, 132)) (stA μ44 q26 132 8 116 (fun μ46 => ckP (y28.2[q26]? = some (0, 132)) (stA μ46 q26 132 9 104 (fun μ48 => ckP (y28.2[q26]? = some (0, 132)) (stA μ48 q26 132 10 114 (fun μ50 => ckP (y28.2[q26]? = some (0, 132)) (stA μ50 q26 132 11 111 (fun μ52 => ckP (y28.2[q26]? = some (0, 132)) (stA μ52 q26 132 12 119 (fun μ54 => ckP (y28.2[q26]? = some (0, 132)) (stA μ54 q26 132 13 115 (fun μ56 => ckP (y28.2[q26]? = some (0, 132)) (stA μ56 q26 132 14 32 (fun μ58 => ckP (y28.2[q26]? = some (0, 132)) (stA μ58 q26 132 15 114 (fun μ60 => ckP (y28.2[q26]? = some (0, 132)) (stA μ60 q26 132 16 117 (fun μ62 => ckP (y28.2[q26]? = some (0, 132)) (stA μ62 q26 132 17 110 (fun μ64 => ckP (y28.2[q26]? = some (0, 132)) (stA μ64 q26 132 18 115 (fun μ66 => ckP (y28.2[q26]? = some (0, 132)) (stA μ66 q26 132 19 32 (fun μ68 => ckP (y28.2[q26]? = some (0, 132)) (stA μ68 q26 132 20 119 (fun μ70 => ckP (y28.2[q26]? = some (0, 132)) (stA μ70 q26 132 21 104 (fun μ72 => ckP (y28.2[q26]? = some (0, 132)) (stA μ72 q26 132 22 101 (fun μ74 => ckP (y28.2[q26]? = some (0, 132)) (stA μ74 q26 132 23 110 (fun μ76 => ckP (y28.2[q26]? = some (0, 132)) (stA μ76 q26 132 24 32 (fun μ78 => ckP (y28.2[q26]? = some (0, 132)) (stA μ78 q26 132 25 111 (fun μ80 => ckP (y28.2[q26]? = some (0, 132)) (stA μ80 q26 132 26 114 (fun μ82 => ckP (y28.2[q26]? = some (0, 132)) (stA μ82 q26 132 27 32 (fun μ84 => ckP (y28.2[q26]? = some (0, 132)) (stA μ84 q26 132 28 97 (fun μ86 => ckP (y28.2[q26]? = some (0, 132)) (stA μ86 q26 132 29 110 (fun μ88 => ckP (y28.2[q26]? = some (0, 132)) (stA μ88 q26 132 30 100 (fun μ90 => ckP (y28.2[q26]? = some (0, 132)) (stA μ90 q26 132 31 32 (fun μ92 => ckP (y28.2[q26]? = some (0, 132)) (stA μ92 q26 132 32 110 (fun μ94 => ckP (y28.2[q26]? = some (0, 132)) (stA μ94 q26 132 33 111 (fun μ96 => ckP (y28.2[q26]? = some (0, 132)) (stA μ96 q26 132 34 116 (fun μ98 => ckP (y28.2[q26]? = some (0, 132)) (stA μ98 q26 132 35 32 (fun μ100 => ckP (y28.2[q26]? = some (0, 132)) (stA μ100 q26 132 36 98 (fun μ102 => ckP (y28.2[q26]? = some (0, 132)) (stA μ102 q26 132 37 101 (fun μ104 => ckP (y28.2[q26]? = some (0, 132)) (stA μ104 q26 132 38 108 (fun μ106 => ckP (y28.2[q26]? = some (0, 132)) (stA μ106 q26 132 39 105 (fun μ108 => ckP (y28.2[q26]? = some (0, 132)) (stA μ108 q26 132 40 101 (fun μ110 => ckP (y28.2[q26]? = some (0, 132)) (stA μ110 q26 132 41 102 (fun μ112 => ckP (y28.2[q26]? = some (0, 132)) (stA μ112 q26 132 42 32 (fun μ114 => ckP (y28.2[q26]? = some (0, 132)) (stA μ114 q26 132 43 115 (fun μ116 => ckP (y28.2[q26]? = some (0, 132)) (stA μ116 q26 132 44 97 (fun μ118 => ckP (y28.2[q26]? = some (0, 132)) (stA μ118 q26 132 45 108 (fun μ120 => ckP (y28.2[q26]? = some (0, 132)) (stA μ120 q26 132 46 116 (fun μ122 => ckP (y28.2[q26]? = some (0, 132)) (stA μ122 q26 132 47 32 (fun μ124 => ckP (y28.2[q26]? = some (0, 132)) (stA μ124 q26 132 48 119 (fun μ126 => ckP (y28.2[q26]? = some (0, 132)) (stA μ126 q26 132 49 101 (fun μ128 => ckP (y28.2[q26]? = some (0, 132)) (stA μ128 q26 132 50 116 (fun μ130 => ckP (y28.2[q26]? = some (0, 132)) (stA μ130 q26 132 51 32 (fun μ132 => ckP (y28.2[q26]? = some (0, 132)) (stA μ132 q26 132 52 115 (fun μ134 => ckP (y28.2[q26]? = some (0, 132)) (stA μ134 q26 132 53 101 (fun μ136 => ckP (y28.2[q26]? = some (0, 132)) (stA μ136 q26 132 54 97 (fun μ138 => ckP (y28.2[q26]? = some (0, 132)) (stA μ138 q26 132 55 116 (fun μ140 => ckP (y28.2[q26]? = some (0, 132)) (stA μ140 q26 132 56 32 (fun μ142 => ckP (y28.2[q26]? = some (0, 132)) (stA μ142 q26 132 57 115 (fun μ144 => ckP (y28.2[q26]? = some (0, 132)) (stA μ144 q26 132 58 112 (fun μ146 => ckP (y28.2[q26]? = some (0, 132)) (stA μ146 q26 132 59 105 (fun μ148 => ckP (y28.2[q26]? = some (0, 132)) (stA μ148 q26 132 60 108 (fun μ150 => ckP (y28.2[q26]? = some (0, 132)) (stA μ150 q26 132 61 116 (fun μ152 => ckP (y28.2[q26]? = some (0, 132)) (stA μ152 q26 132 62 32 (fun μ154 => ckP (y28.2[q26]? = some (0, 132)) (stA μ154 q26 132 63 116 (fun μ156 => ckP (y28.2[q26]? = some (0, 132)) (stA μ156 q26 132 64 104 (fun μ158 => ckP (y28.2[q26]? = some (0, 132)) (stA μ158 q26 132 65 114 (fun μ160 => ckP (y28.2[q26]? = some (0, 132)) (stA μ160 q26 132 66 111 (fun μ162 => ckP (y28.2[q26]? = some (0, 132)) (stA μ162 q26 132 67 119 (fun μ164 => ckP (y28.2[q26]? = some (0, 132)) (stA μ164 q26 132 68 110 (fun μ166 => ckP (y28.2[q26]? = some (0, 132)) (stA μ166 q26 132 69 32 (fun μ168 => ckP (y28.2[q26]? = some (0, 132)) (stA μ168 q26 132 70 108 (fun μ170 => ckP (y28.2[q26]? = some (0, 132)) (stA μ170 q26 132 71 105 (fun μ172 => ckP (y28.2[q26]? = some (0, 132)) (stA μ172 q26 132 72 99 (fun μ174 => ckP (y28.2[q26]? = some (0, 132)) (stA μ174 q26 132 73 107 (fun μ176 => ckP (y28.2[q26]? = some (0, 132)) (stA μ176 q26 132 74 101 (fun μ178 => ckP (y28.2[q26]? = some (0, 132)) (stA μ178 q26 132 75 100 (fun μ180 => ckP (y28.2[q26]? = some (0, 132)) (stA μ180 q26 132 76 32 (fun μ182 => ckP (y28.2[q26]? = some (0, 132)) (stA μ182 q26 132 77 98 (fun μ184 => ckP (y28.2[q26]? = some (0, 132)) (stA μ184 q26 132 78 101 (fun μ186 => ckP (y28.2[q26]? = some (0, 132)) (stA μ186 q26 132 79 115 (fun μ188 => ckP (y28.2[q26]? = some (0, 132)) (stA μ188 q26 132 80 105 (fun μ190 => ckP (y28.2[q26]? = some (0, 132)) (stA μ190 q26 132 81 100 (fun μ192 => ckP (y28.2[q26]? = some (0, 132)) (stA μ192 q26 132 82 101 (fun μ194 => ckP (y28.2[q26]? = some (0, 132)) (stA μ194 q26 132 83 32 (fun μ196 => ckP (y28.2[q26]? = some (0, 132)) (stA μ196 q26 132 84 104 (fun μ198 => ckP (y28.2[q26]? = some (0, 132)) (stA μ198 q26 132 85 101 (fun μ200 => ckP (y28.2[q26]? = some (0, 132)) (stA μ200 q26 132 86 105 (fun μ202 => ckP (y28.2[q26]? = some (0, 132)) (stA μ202 q26 132 87 114 (fun μ204 => ckP (y28.2[q26]? = some (0, 132)) (stA μ204 q26 132 88 115 (fun μ206 => ckP (y28.2[q26]? = some (0, 132)) (stA μ206 q26 132 89 32 (fun μ208 => ckP (y28.2[q26]? = some (0, 132)) (stA μ208 q26 132 90 100 (fun μ210 => ckP (y28.2[q26]? = some (0, 132)) (stA μ210 q26 132 91 97 (fun μ212 => ckP (y28.2[q26]? = some (0, 132)) (stA μ212 q26 132 92 121 (fun μ214 => ckP (y28.2[q26]? = some (0, 132)) (stA μ214 q26 132 93 32 (fun μ216 => ckP (y28.2[q26]? = some (0, 132)) (stA μ216 q26 132 94 112 (fun μ218 => ckP (y28.2[q26]? = some (0, 132)) (stA μ218 q26 132 95 101 (fun μ220 => ckP (y28.2[q26]? = some (0, 132)) (stA μ220 q26 132 96 114 (fun μ222 => ckP (y28.2[q26]? = some (0, 132)) (stA μ222 q26 132 97 115 (fun μ224 => ckP (y28.2[q26]? = some (0, 132)) (stA μ224 q26 132 98 111 (fun μ226 => ckP (y28.2[q26]? = some (0, 132)) (stA μ226 q26 132 99 110 (fun μ228 => ckP (y28.2[q26]? = some (0, 132)) (stA μ228 q26 132 100 32 (fun μ230 => ckP (y28.2[q26]? = some (0, 132)) (stA μ230 q26 132 101 111 (fun μ232 => ckP (y28.2[q26]? = some (0, 132)) (stA μ232 q26 132 102 110 (fun μ234 => ckP (y28.2[q26]? = some (0, 132)) (stA μ234 q26 132 103 32 (fun μ236 => ckP (y28.2[q26]? = some (0, 132)) (stA μ236 q26 132 104 99 (fun μ238 => ckP (y28.2[q26]? = some (0, 132)) (stA μ238 q26 132 105 97 (fun μ240 => ckP (y28.2[q26]? = some (0, 132)) (stA μ240 q26 132 106 116 (fun μ242 => ckP (y28.2[q26]? = some (0, 132)) (stA μ242 q26 132 107 116 (fun μ244 => ckP (y28.2[q26]? = some (0, 132)) (stA μ244 q26 132 108 108 (fun μ246 => ckP (y28.2[q26]? = some (0, 132)) (stA μ246 q26 132 109 101 (fun μ248 => ckP (y28.2[q26]? = some (0, 132)) (stA μ248 q26 132 110 32 (fun μ250 => ckP (y28.2[q26]? = some (0, 132)) (stA μ250 q26 132 111 102 (fun μ252 => ckP (y28.2[q26]? = some (0, 132)) (stA μ252 q26 132 112 101 (fun μ254 => ckP (y28.2[q26]? = some (0, 132)) (stA μ254 q26 132 113 97 (fun μ256 => ckP (y28.2[q26]? = some (0, 132)) (stA μ256 q26 132 114 115 (fun μ258 => ckP (y28.2[q26]? = some (0, 132)) (stA μ258 q26 132 115 116 (fun μ260 => ckP (y28.2[q26]? = some (0, 132)) (stA μ260 q26 132 116 32 (fun μ262 => ckP (y28.2[q26]? = some (0, 132)) (stA μ262 q26 132 117 115 (fun μ264 => ckP (y28.2[q26]? = some (0, 132)) (stA μ264 q26 132 118 99 (fun μ266 => ckP (y28.2[q26]? = some (0, 132)) (stA μ266 q26 132 119 111 (fun μ268 => ckP (y28.2[q26]? = some (0, 132)) (stA μ268 q26 132 120 108 (fun μ270 => ckP (y28.2[q26]? = some (0, 132)) (stA μ270 q26 132 121 100 (fun μ272 => ckP (y28.2[q26]? = some (0, 132)) (stA μ272 q26 132 122 32 (fun μ274 => ckP (y28.2[q26]? = some (0, 132)) (stA μ274 q26 132 123 100 (fun μ276 => ckP (y28.2[q26]? = some (0, 132)) (stA μ276 q26 132 124 105 (fun μ278 => ckP (y28.2[q26]? = some (0, 132)) (stA μ278 q26 132 125 101 (fun μ280 => ckP (y28.2[q26]? = some (0, 132)) (stA μ280 q26 132 126 32 (fun μ282 => ckP (y28.2[q26]? = some (0, 132)) (stA μ282 q26 132 127 104 (fun μ284 => ckP (y28.2[q26]? = some (0, 132)) (stA μ284 q26 132 128 101 (fun μ286 => ckP (y28.2[q26]? = some (0, 132)) (stA μ286 q26 132 129 105 (fun μ288 => ckP (y28.2[q26]? = some (0, 132)) (stA μ288 q26 132 130 114 (fun μ290 => ckP (y28.2[q26]? = some (0, 132)) (stA μ290 q26 132 131 32 (fun μ292 => ckP (y28.2[a]? = some (12, 69)) (pR y28 a 14 q26 (fun y294 => nwK μ292 y294 0 2 (fun q295 μ296 y297 => ckP (y297.2[a]? = some (12, 69)) (pR y297 a 15 q295 (fun y299 => nwK μ296 y299 0 48 (fun q300 μ301 y302 => ckP (y302.2[a]? = some (12, 69)) (pR y302 a 16 q300 (fun y304 => nwK μ301 y304 0 48 (fun q305 μ306 y307 => ckP (y307.2[a]? = some (12, 69)) (pR y307 a 17 q305 (fun y309 => nwK μ306 y309 0 48 (fun q310 μ311 y312 => ckP (y312.2[a]? = some (12, 69)) (pR y312 a 18 q310 (fun y314 => nwK μ311 y314 0 48 (fun q315 μ316 y317 => ckP (y317.2[a]? = some (12, 69)) (pR y317 a 19 q315 (fun y319 => nwK μ316 y319 0 1200 (fun q320 μ321 y322 => ckP (y322.2[a]? = some (12, 69)) (pR y322 a 20 q320 (fun y324 => nwK μ321 y324 0 1200 (fun q325 μ326 y327 => ckP (y327.2[a]? = some (12, 69)) (pR y327 a 21 q325 (fun y329 => nwK μ326 y329 0 40 (fun q330 μ331 y332 => ckP (y332.2[a]? = some (12, 69)) (pR y332 a 25 q330 (fun y334 => ckP (y334.2[a]? = some (12, 69)) (pF μ331 a 30 ((-1)) (fun μ336 => nwK μ336 y334 0 16 (fun q337 μ338 y339 => ckP (y339.2[a]? = some (12, 69)) (pR y339 a 32 q337 (fun y341 => nwK μ338 y341 0 16 (fun q342 μ343 y344 => ckP (y344.2[a]? = some (12, 69)) (pR y344 a 33 q342 (fun y346 => nwK μ343 y346 0 128 (fun q347 μ348 y349 => ckP (y349.2[a]? = some (12, 69)) (pR y349 a 35 q347 (fun y351 => nwK μ348 y351 0 32 (fun q352 μ353 y354 => ckP (y354.2[a]? = some (12, 69)) (pR y354 a 37 q352 (fun y356 => nwK μ353 y356 0 10 (fun q357 μ358 y359 => ckP (y359.2[a]? = some (12, 69)) (pR y359 a 38 q357 (fun y361 => nwK μ358 y361 0 420 (fun q362 μ363 y364 => ckP (y364.2[a]? = some (12, 69)) (pR y364 a 39 q362 (fun y366 => nwK μ363 y366 0 16 (fun q367 μ368 y369 => ckP (y369.2[a]? = some (12, 69)) (pR y369 a 40 q367 (fun y371 => nwK μ368 y371 0 8 (fun q372 μ373 y374 => ckP (y374.2[a]? = some (12, 69)) (pR y374 a 43 q372 (fun y376 => nwK μ373 y376 0 8 (fun q377 μ378 y379 => ckP (y379.2[a]? = some (12, 69)) (pR y379 a 44 q377 (fun y381 => nwK μ378 y381 0 6 (fun q382 μ383 y384 => ckP (y384.2[a]? = some (12, 69)) (pR y384 a 46 q382 (fun y386 => nwK μ383 y386 0 41 (fun q387 μ388 y389 => ckP (y389.2[a]? = some (12, 69)) (pR y389 a 47 q387 (fun y391 => nwK μ388 y391 0 2 (fun q392 μ393 y394 => ckP (y394.2[a]? = some (12, 69)) (pR y394 a 48 q392 (fun y396 => nwK μ393 y396 0 20 (fun q397 μ398 y399 => ckP (y399.2[a]? = some (12, 69)) (pR y399 a 49 q397 (fun y401 => nwK μ398 y401 0 121 (fun q402 μ403 y404 => ckP (y404.2[a]? = some (12, 69)) (pR y404 a 50 q402 (fun y406 => nwK μ403 y406 0 6 (fun q407 μ408 y409 => ckP (y409.2[a]? = some (12, 69)) (pR y409 a 52 q407 (fun y411 => nwK μ408 y411 0 32 (fun q412 μ413 y414 => ckP (y414.2[a]? = some (12, 69)) (pR y414 a 53 q412 (fun y416 => nwK μ413 y416 0 32 (fun q417 μ418 y419 => ckP (y419.2[a]? = some (12, 69)) (pR y419 a 54 q417 (fun y421 => nwK μ418 y421 0 6 (fun q422 μ423 y424 => ckP (y424.2[a]? = some (12, 69)) (pR y424 a 56 q422 (fun y426 => nwK μ423 y426 0 201 (fun q427 μ428 y429 => ckP (y429.2[a]? = some (12, 69)) (pR y429 a 57 q427 (fun y431 => nwK μ428 y431 0 8 (fun q432 μ433 y434 => ckP (y434.2[a]? = some (12, 69)) (pR y434 a 59 q432 (fun y436 => nwK μ433 y436 0 8 (fun q437 μ438 y439 => ckP (y439.2[a]? = some (12, 69)) (pR y439 a 60 q437 (fun y441 => nwK μ438 y441 0 8 (fun q442 μ443 y444 => ckP (y444.2[a]? = some (12, 69)) (pR y444 a 62 q442 (fun y446 => nwK μ443 y446 0 8 (fun q447 μ448 y449 => ckP (y449.2[a]? = some (12, 69)) (pR y449 a 63 q447 (fun y451 => nwK μ448 y451 0 301 (fun q452 μ453 y454 => ckP (y454.2[a]? = some (12, 69)) (pR y454 a 64 q452 (fun y456 => nwK μ453 y456 0 2200 (fun q457 μ458 y459 => ckP (y459.2[a]? = some (12, 69)) (pR y459 a 68 q457 (fun y461 => some ((), (μ458, y461)))))))))))))))))))))))))))))))))))))))))))))))))))))))))))))))))))))))))))))))))))))))))))))))))))))))))))))))))))))))))))))))))))))))))))))))))))))))))))))))))))))))))))))))))))))))))))))))))))))))))))))))))))))))))))))))))))))))))))))))))))))))))))))))))))))))))))))))))))))))))))))))))))))))))))))))))))))))))))))))))))))))))))))))))))))))))))))))))))))))))))))))))))))))))))))))))
set_option maxRecDepth 100000 in
set_option maxHeartbeats 4000000 in
theorem jMo_init {X : Cx} {l : Launch} {G : Gx} {y0 : Ly} {a : Nat}  (hX : Ok X l G prog_13_method_1_code 1 none "SaltFiguresModel") (hI : OkI X)  (μ : Mu) (y : Ly) : J X G 1 4 y0 id rvV tpT 0 [(0, .ref (G.1 + a))] [] (μ, y) (Mo_init a  μ y) := by
  unfold Mo_init
  refine J_aload_n (k0 := 0) (pc := 0) 0 hX (by decide +kernel) rfl rfl ?_
  refine J_objI (pc := 1) (idx := 1) hX (by decide +kernel) (mq mt_6 5 (by decide +kernel)) obj_i obj_c (Nat.le_of_ble_eq_true rfl) (Nat.le_of_ble_eq_true rfl) ?_
  refine J_aload_n (k0 := 0) (pc := 4) 0 hX (by decide +kernel) rfl rfl ?_
  refine J_bipush (pc := 5) (n := 118) (v := 118) hX (by decide +kernel) (by decide +kernel) ?_
  refine J_nwA (pc := 7) hX (by decide +kernel) (mq mt_1 92 (by decide +kernel)) (by decide +kernel) (by decide +kernel) (by decide +kernel) (fun q1 μ2 y3 => ?_)
  refine J_ckP (fun h4 => ?_)
  refine J_pRf (pc := 9) hX hI (by decide +kernel) fl_Mo_7 (by intro r hr; cases hr; rfl) h4 rfl rfl rfl (fun y5 => ?_)
  refine J_aload_n (k0 := 0) (pc := 12) 0 hX (by decide +kernel) rfl rfl ?_
  refine J_sipush (pc := 13) (n := 708) (v := 708) hX (by decide +kernel) (by decide +kernel) ?_
  refine J_nwA (pc := 16) hX (by decide +kernel) (mq mt_1 92 (by decide +kernel)) (by decide +kernel) (by decide +kernel) (by decide +kernel) (fun q6 μ7 y8 => ?_)
  refine J_ckP (fun h9 => ?_)
  refine J_pRf (pc := 18) hX hI (by decide +kernel) fl_Mo_13 (by intro r hr; cases hr; rfl) h9 rfl rfl rfl (fun y10 => ?_)
  refine J_aload_n (k0 := 0) (pc := 21) 0 hX (by decide +kernel) rfl rfl ?_
  refine J_bipush (pc := 22) (n := 118) (v := 118) hX (by decide +kernel) (by decide +kernel) ?_
  refine J_nwA (pc := 24) hX (by decide +kernel) (mq mt_1 92 (by decide +kernel)) (by decide +kernel) (by decide +kernel) (by decide +kernel) (fun q11 μ12 y13 => ?_)
  refine J_ckP (fun h14 => ?_)
  refine J_pRf (pc := 26) hX hI (by decide +kernel) fl_Mo_16 (by intro r hr; cases hr; rfl) h14 rfl rfl rfl (fun y15 => ?_)
  refine J_aload_n (k0 := 0) (pc := 29) 0 hX (by decide +kernel) rfl rfl ?_
  refine J_sipush (pc := 30) (n := 600) (v := 600) hX (by decide +kernel) (by decide +kernel) ?_
  refine J_nwA (pc := 33) hX (by decide +kernel) (mq mt_1 92 (by decide +kernel)) (by decide +kernel) (by decide +kernel) (by decide +kernel) (fun q16 μ17 y18 => ?_)
  refine J_ckP (fun h19 => ?_)
  refine J_pRf (pc := 35) hX hI (by decide +kernel) fl_Mo_19 (by intro r hr; cases hr; rfl) h19 rfl rfl rfl (fun y20 => ?_)
  refine J_aload_n (k0 := 0) (pc := 38) 0 hX (by decide +kernel) rfl rfl ?_
  refine J_sipush (pc := 39) (n := 400) (v := 400) hX (by decide +kernel) (by decide +kernel) ?_
  refine J_nwA (pc := 42) hX (by decide +kernel) (mq mt_1 92 (by decide +kernel)) (by decide +kernel) (by decide +kernel) (by decide +kernel) (fun q21 μ22 y23 => ?_)
  refine J_ckP (fun h24 => ?_)
  refine J_pRf (pc := 44) hX hI (by decide +kernel) fl_Mo_22 (by intro r hr; cases hr; rfl) h24 rfl rfl rfl (fun y25 => ?_)
  refine J_aload_n (k0 := 0) (pc := 47) 0 hX (by decide +kernel) rfl rfl ?_
  refine J_sipush (pc := 48) (n := 132) (v := 132) hX (by decide +kernel) (by decide +kernel) ?_
  refine J_nwA (pc := 51) hX (by decide +kernel) (mq mt_1 92 (by decide +kernel)) (by decide +kernel) (by decide +kernel) (by decide +kernel) (fun q26 μ27 y28 => ?_)
  refine J_dup (pc := 53) hX (by decide +kernel) rfl ?_
  refine J_iconst (pc := 54) (n := 0) (v := 0) hX (by decide +kernel) (by decide +kernel) ?_
  refine J_bipush (pc := 55) (n := 32) (v := 32) hX (by decide +kernel) (by decide +kernel) ?_
  refine J_ckP (fun h29 => ?_)
  refine J_stA (pc := 57) hX (by decide +kernel) h29 (fun μ30 => ?_)
  refine J_dup (pc := 58) hX (by decide +kernel) rfl ?_
  refine J_iconst (pc := 59) (n := 1) (v := 1) hX (by decide +kernel) (by decide +kernel) ?_
  refine J_bipush (pc := 60) (n := 115) (v := 115) hX (by decide +kernel) (by decide +kernel) ?_
  refine J_ckP (fun h31 => ?_)
  refine J_stA (pc := 62) hX (by decide +kernel) h31 (fun μ32 => ?_)
  refine J_dup (pc := 63) hX (by decide +kernel) rfl ?_
  refine J_iconst (pc := 64) (n := 2) (v := 2) hX (by decide +kernel) (by decide +kernel) ?_
  refine J_bipush (pc := 65) (n := 112) (v := 112) hX (by decide +kernel) (by decide +kernel) ?_
  refine J_ckP (fun h33 => ?_)
  refine J_stA (pc := 67) hX (by decide +kernel) h33 (fun μ34 => ?_)
  refine J_dup (pc := 68) hX (by decide +kernel) rfl ?_
  refine J_iconst (pc := 69) (n := 3) (v := 3) hX (by decide +kernel) (by decide +kernel) ?_
  refine J_bipush (pc := 70) (n := 105) (v := 105) hX (by decide +kernel) (by decide +kernel) ?_
  refine J_ckP (fun h35 => ?_)
  refine J_stA (pc := 72) hX (by decide +kernel) h35 (fun μ36 => ?_)
  refine J_dup (pc := 73) hX (by decide +kernel) rfl ?_
  refine J_iconst (pc := 74) (n := 4) (v := 4) hX (by decide +kernel) (by decide +kernel) ?_
  refine J_bipush (pc := 75) (n := 108) (v := 108) hX (by decide +kernel) (by decide +kernel) ?_
  refine J_ckP (fun h37 => ?_)
  refine J_stA (pc := 77) hX (by decide +kernel) h37 (fun μ38 => ?_)
  refine J_dup (pc := 78) hX (by decide +kernel) rfl ?_
  refine J_iconst (pc := 79) (n := 5) (v := 5) hX (by decide +kernel) (by decide +kernel) ?_
  refine J_bipush (pc := 80) (n := 108) (v := 108) hX (by decide +kernel) (by decide +kernel) ?_
  refine J_ckP (fun h39 => ?_)
  refine J_stA (pc := 82) hX (by decide +kernel) h39 (fun μ40 => ?_)
  refine J_dup (pc := 83) hX (by decide +kernel) rfl ?_
  refine J_bipush (pc := 84) (n := 6) (v := 6) hX (by decide +kernel) (by decide +kernel) ?_
  refine J_bipush (pc := 86) (n := 115) (v := 115) hX (by decide +kernel) (by decide +kernel) ?_
  refine J_ckP (fun h41 => ?_)
  refine J_stA (pc := 88) hX (by decide +kernel) h41 (fun μ42 => ?_)
  refine J_dup (pc := 89) hX (by decide +kernel) rfl ?_
  refine J_bipush (pc := 90) (n := 7) (v := 7) hX (by decide +kernel) (by decide +kernel) ?_
  refine J_bipush (pc := 92) (n := 32) (v := 32) hX (by decide +kernel) (by decide +kernel) ?_
  refine J_ckP (fun h43 => ?_)
  refine J_stA (pc := 94) hX (by decide +kernel) h43 (fun μ44 => ?_)
  refine J_dup (pc := 95) hX (by decide +kernel) rfl ?_
  refine J_bipush (pc := 96) (n := 8) (v := 8) hX (by decide +kernel) (by decide +kernel) ?_
  refine J_bipush (pc := 98) (n := 116) (v := 116) hX (by decide +kernel) (by decide +kernel) ?_
  refine J_ckP (fun h45 => ?_)
  refine J_stA (pc := 100) hX (by decide +kernel) h45 (fun μ46 => ?_)
  refine J_dup (pc := 101) hX (by decide +kernel) rfl ?_
  refine J_bipush (pc := 102) (n := 9) (v := 9) hX (by decide +kernel) (by decide +kernel) ?_
  refine J_bipush (pc := 104) (n := 104) (v := 104) hX (by decide +kernel) (by decide +kernel) ?_
  refine J_ckP (fun h47 => ?_)
  refine J_stA (pc := 106) hX (by decide +kernel) h47 (fun μ48 => ?_)
  refine J_dup (pc := 107) hX (by decide +kernel) rfl ?_
  refine J_bipush (pc := 108) (n := 10) (v := 10) hX (by decide +kernel) (by decide +kernel) ?_
  refine J_bipush (pc := 110) (n := 114) (v := 114) hX (by decide +kernel) (by decide +kernel) ?_
  refine J_ckP (fun h49 => ?_)
  refine J_stA (pc := 112) hX (by decide +kernel) h49 (fun μ50 => ?_)
  refine J_dup (pc := 113) hX (by decide +kernel) rfl ?_
  refine J_bipush (pc := 114) (n := 11) (v := 11) hX (by decide +kernel) (by decide +kernel) ?_
  refine J_bipush (pc := 116) (n := 111) (v := 111) hX (by decide +kernel) (by decide +kernel) ?_
  refine J_ckP (fun h51 => ?_)
  refine J_stA (pc := 118) hX (by decide +kernel) h51 (fun μ52 => ?_)
  refine J_dup (pc := 119) hX (by decide +kernel) rfl ?_
  refine J_bipush (pc := 120) (n := 12) (v := 12) hX (by decide +kernel) (by decide +kernel) ?_
  refine J_bipush (pc := 122) (n := 119) (v := 119) hX (by decide +kernel) (by decide +kernel) ?_
  refine J_ckP (fun h53 => ?_)
  refine J_stA (pc := 124) hX (by decide +kernel) h53 (fun μ54 => ?_)
  refine J_dup (pc := 125) hX (by decide +kernel) rfl ?_
  refine J_bipush (pc := 126) (n := 13) (v := 13) hX (by decide +kernel) (by decide +kernel) ?_
  refine J_bipush (pc := 128) (n := 115) (v := 115) hX (by decide +kernel) (by decide +kernel) ?_
  refine J_ckP (fun h55 => ?_)
  refine J_stA (pc := 130) hX (by decide +kernel) h55 (fun μ56 => ?_)
  refine J_dup (pc := 131) hX (by decide +kernel) rfl ?_
  refine J_bipush (pc := 132) (n := 14) (v := 14) hX (by decide +kernel) (by decide +kernel) ?_
  refine J_bipush (pc := 134) (n := 32) (v := 32) hX (by decide +kernel) (by decide +kernel) ?_
  refine J_ckP (fun h57 => ?_)
  refine J_stA (pc := 136) hX (by decide +kernel) h57 (fun μ58 => ?_)
  refine J_dup (pc := 137) hX (by decide +kernel) rfl ?_
  refine J_bipush (pc := 138) (n := 15) (v := 15) hX (by decide +kernel) (by decide +kernel) ?_
  refine J_bipush (pc := 140) (n := 114) (v := 114) hX (by decide +kernel) (by decide +kernel) ?_
  refine J_ckP (fun h59 => ?_)
  refine J_stA (pc := 142) hX (by decide +kernel) h59 (fun μ60 => ?_)
  refine J_dup (pc := 143) hX (by decide +kernel) rfl ?_
  refine J_bipush (pc := 144) (n := 16) (v := 16) hX (by decide +kernel) (by decide +kernel) ?_
  refine J_bipush (pc := 146) (n := 117) (v := 117) hX (by decide +kernel) (by decide +kernel) ?_
  refine J_ckP (fun h61 => ?_)
  refine J_stA (pc := 148) hX (by decide +kernel) h61 (fun μ62 => ?_)
  refine J_dup (pc := 149) hX (by decide +kernel) rfl ?_
  refine J_bipush (pc := 150) (n := 17) (v := 17) hX (by decide +kernel) (by decide +kernel) ?_
  refine J_bipush (pc := 152) (n := 110) (v := 110) hX (by decide +kernel) (by decide +kernel) ?_
  refine J_ckP (fun h63 => ?_)
  refine J_stA (pc := 154) hX (by decide +kernel) h63 (fun μ64 => ?_)
  refine J_dup (pc := 155) hX (by decide +kernel) rfl ?_
  refine J_bipush (pc := 156) (n := 18) (v := 18) hX (by decide +kernel) (by decide +kernel) ?_
  refine J_bipush (pc := 158) (n := 115) (v := 115) hX (by decide +kernel) (by decide +kernel) ?_
  refine J_ckP (fun h65 => ?_)
  refine J_stA (pc := 160) hX (by decide +kernel) h65 (fun μ66 => ?_)
  refine J_dup (pc := 161) hX (by decide +kernel) rfl ?_
  refine J_bipush (pc := 162) (n := 19) (v := 19) hX (by decide +kernel) (by decide +kernel) ?_
  refine J_bipush (pc := 164) (n := 32) (v := 32) hX (by decide +kernel) (by decide +kernel) ?_
  refine J_ckP (fun h67 => ?_)
  refine J_stA (pc := 166) hX (by decide +kernel) h67 (fun μ68 => ?_)
  refine J_dup (pc := 167) hX (by decide +kernel) rfl ?_
  refine J_bipush (pc := 168) (n := 20) (v := 20) hX (by decide +kernel) (by decide +kernel) ?_
  refine J_bipush (pc := 170) (n := 119) (v := 119) hX (by decide +kernel) (by decide +kernel) ?_
  refine J_ckP (fun h69 => ?_)
  refine J_stA (pc := 172) hX (by decide +kernel) h69 (fun μ70 => ?_)
  refine J_dup (pc := 173) hX (by decide +kernel) rfl ?_
  refine J_bipush (pc := 174) (n := 21) (v := 21) hX (by decide +kernel) (by decide +kernel) ?_
  refine J_bipush (pc := 176) (n := 104) (v := 104) hX (by decide +kernel) (by decide +kernel) ?_
  refine J_ckP (fun h71 => ?_)
  refine J_stA (pc := 178) hX (by decide +kernel) h71 (fun μ72 => ?_)
  refine J_dup (pc := 179) hX (by decide +kernel) rfl ?_
  refine J_bipush (pc := 180) (n := 22) (v := 22) hX (by decide +kernel) (by decide +kernel) ?_
  refine J_bipush (pc := 182) (n := 101) (v := 101) hX (by decide +kernel) (by decide +kernel) ?_
  refine J_ckP (fun h73 => ?_)
  refine J_stA (pc := 184) hX (by decide +kernel) h73 (fun μ74 => ?_)
  refine J_dup (pc := 185) hX (by decide +kernel) rfl ?_
  refine J_bipush (pc := 186) (n := 23) (v := 23) hX (by decide +kernel) (by decide +kernel) ?_
  refine J_bipush (pc := 188) (n := 110) (v := 110) hX (by decide +kernel) (by decide +kernel) ?_
  refine J_ckP (fun h75 => ?_)
  refine J_stA (pc := 190) hX (by decide +kernel) h75 (fun μ76 => ?_)
  refine J_dup (pc := 191) hX (by decide +kernel) rfl ?_
  refine J_bipush (pc := 192) (n := 24) (v := 24) hX (by decide +kernel) (by decide +kernel) ?_
  refine J_bipush (pc := 194) (n := 32) (v := 32) hX (by decide +kernel) (by decide +kernel) ?_
  refine J_ckP (fun h77 => ?_)
  refine J_stA (pc := 196) hX (by decide +kernel) h77 (fun μ78 => ?_)
  refine J_dup (pc := 197) hX (by decide +kernel) rfl ?_
  refine J_bipush (pc := 198) (n := 25) (v := 25) hX (by decide +kernel) (by decide +kernel) ?_
  refine J_bipush (pc := 200) (n := 111) (v := 111) hX (by decide +kernel) (by decide +kernel) ?_
  refine J_ckP (fun h79 => ?_)
  refine J_stA (pc := 202) hX (by decide +kernel) h79 (fun μ80 => ?_)
  refine J_dup (pc := 203) hX (by decide +kernel) rfl ?_
  refine J_bipush (pc := 204) (n := 26) (v := 26) hX (by decide +kernel) (by decide +kernel) ?_
  refine J_bipush (pc := 206) (n := 114) (v := 114) hX (by decide +kernel) (by decide +kernel) ?_
  refine J_ckP (fun h81 => ?_)
  refine J_stA (pc := 208) hX (by decide +kernel) h81 (fun μ82 => ?_)
  refine J_dup (pc := 209) hX (by decide +kernel) rfl ?_
  refine J_bipush (pc := 210) (n := 27) (v := 27) hX (by decide +kernel) (by decide +kernel) ?_
  refine J_bipush (pc := 212) (n := 32) (v := 32) hX (by decide +kernel) (by decide +kernel) ?_
  refine J_ckP (fun h83 => ?_)
  refine J_stA (pc := 214) hX (by decide +kernel) h83 (fun μ84 => ?_)
  refine J_dup (pc := 215) hX (by decide +kernel) rfl ?_
  refine J_bipush (pc := 216) (n := 28) (v := 28) hX (by decide +kernel) (by decide +kernel) ?_
  refine J_bipush (pc := 218) (n := 97) (v := 97) hX (by decide +kernel) (by decide +kernel) ?_
  refine J_ckP (fun h85 => ?_)
  refine J_stA (pc := 220) hX (by decide +kernel) h85 (fun μ86 => ?_)
  refine J_dup (pc := 221) hX (by decide +kernel) rfl ?_
  refine J_bipush (pc := 222) (n := 29) (v := 29) hX (by decide +kernel) (by decide +kernel) ?_
  refine J_bipush (pc := 224) (n := 110) (v := 110) hX (by decide +kernel) (by decide +kernel) ?_
  refine J_ckP (fun h87 => ?_)
  refine J_stA (pc := 226) hX (by decide +kernel) h87 (fun μ88 => ?_)
  refine J_dup (pc := 227) hX (by decide +kernel) rfl ?_
  refine J_bipush (pc := 228) (n := 30) (v := 30) hX (by decide +kernel) (by decide +kernel) ?_
  refine J_bipush (pc := 230) (n := 100) (v := 100) hX (by decide +kernel) (by decide +kernel) ?_
  refine J_ckP (fun h89 => ?_)
  refine J_stA (pc := 232) hX (by decide +kernel) h89 (fun μ90 => ?_)
  refine J_dup (pc := 233) hX (by decide +kernel) rfl ?_
  refine J_bipush (pc := 234) (n := 31) (v := 31) hX (by decide +kernel) (by decide +kernel) ?_
  refine J_bipush (pc := 236) (n := 32) (v := 32) hX (by decide +kernel) (by decide +kernel) ?_
  refine J_ckP (fun h91 => ?_)
  refine J_stA (pc := 238) hX (by decide +kernel) h91 (fun μ92 => ?_)
  refine J_dup (pc := 239) hX (by decide +kernel) rfl ?_
  refine J_bipush (pc := 240) (n := 32) (v := 32) hX (by decide +kernel) (by decide +kernel) ?_
  refine J_bipush (pc := 242) (n := 110) (v := 110) hX (by decide +kernel) (by decide +kernel) ?_
  refine J_ckP (fun h93 => ?_)
  refine J_stA (pc := 244) hX (by decide +kernel) h93 (fun μ94 => ?_)
  refine J_dup (pc := 245) hX (by decide +kernel) rfl ?_
  refine J_bipush (pc := 246) (n := 33) (v := 33) hX (by decide +kernel) (by decide +kernel) ?_
  refine J_bipush (pc := 248) (n := 111) (v := 111) hX (by decide +kernel) (by decide +kernel) ?_
  refine J_ckP (fun h95 => ?_)
  refine J_stA (pc := 250) hX (by decide +kernel) h95 (fun μ96 => ?_)
  refine J_dup (pc := 251) hX (by decide +kernel) rfl ?_
  refine J_bipush (pc := 252) (n := 34) (v := 34) hX (by decide +kernel) (by decide +kernel) ?_
  refine J_bipush (pc := 254) (n := 116) (v := 116) hX (by decide +kernel) (by decide +kernel) ?_
  refine J_ckP (fun h97 => ?_)
  refine J_stA (pc := 256) hX (by decide +kernel) h97 (fun μ98 => ?_)
  refine J_dup (pc := 257) hX (by decide +kernel) rfl ?_
  refine J_bipush (pc := 258) (n := 35) (v := 35) hX (by decide +kernel) (by decide +kernel) ?_
  refine J_bipush (pc := 260) (n := 32) (v := 32) hX (by decide +kernel) (by decide +kernel) ?_
  refine J_ckP (fun h99 => ?_)
  refine J_stA (pc := 262) hX (by decide +kernel) h99 (fun μ100 => ?_)
  refine J_dup (pc := 263) hX (by decide +kernel) rfl ?_
  refine J_bipush (pc := 264) (n := 36) (v := 36) hX (by decide +kernel) (by decide +kernel) ?_
  refine J_bipush (pc := 266) (n := 98) (v := 98) hX (by decide +kernel) (by decide +kernel) ?_
  refine J_ckP (fun h101 => ?_)
  refine J_stA (pc := 268) hX (by decide +kernel) h101 (fun μ102 => ?_)
  refine J_dup (pc := 269) hX (by decide +kernel) rfl ?_
  refine J_bipush (pc := 270) (n := 37) (v := 37) hX (by decide +kernel) (by decide +kernel) ?_
  refine J_bipush (pc := 272) (n := 101) (v := 101) hX (by decide +kernel) (by decide +kernel) ?_
  refine J_ckP (fun h103 => ?_)
  refine J_stA (pc := 274) hX (by decide +kernel) h103 (fun μ104 => ?_)
  refine J_dup (pc := 275) hX (by decide +kernel) rfl ?_
  refine J_bipush (pc := 276) (n := 38) (v := 38) hX (by decide +kernel) (by decide +kernel) ?_
  refine J_bipush (pc := 278) (n := 108) (v := 108) hX (by decide +kernel) (by decide +kernel) ?_
  refine J_ckP (fun h105 => ?_)
  refine J_stA (pc := 280) hX (by decide +kernel) h105 (fun μ106 => ?_)
  refine J_dup (pc := 281) hX (by decide +kernel) rfl ?_
  refine J_bipush (pc := 282) (n := 39) (v := 39) hX (by decide +kernel) (by decide +kernel) ?_
  refine J_bipush (pc := 284) (n := 105) (v := 105) hX (by decide +kernel) (by decide +kernel) ?_
  refine J_ckP (fun h107 => ?_)
  refine J_stA (pc := 286) hX (by decide +kernel) h107 (fun μ108 => ?_)
  refine J_dup (pc := 287) hX (by decide +kernel) rfl ?_
  refine J_bipush (pc := 288) (n := 40) (v := 40) hX (by decide +kernel) (by decide +kernel) ?_
  refine J_bipush (pc := 290) (n := 101) (v := 101) hX (by decide +kernel) (by decide +kernel) ?_
  refine J_ckP (fun h109 => ?_)
  refine J_stA (pc := 292) hX (by decide +kernel) h109 (fun μ110 => ?_)
  refine J_dup (pc := 293) hX (by decide +kernel) rfl ?_
  refine J_bipush (pc := 294) (n := 41) (v := 41) hX (by decide +kernel) (by decide +kernel) ?_
  refine J_bipush (pc := 296) (n := 102) (v := 102) hX (by decide +kernel) (by decide +kernel) ?_
  refine J_ckP (fun h111 => ?_)
  refine J_stA (pc := 298) hX (by decide +kernel) h111 (fun μ112 => ?_)
  refine J_dup (pc := 299) hX (by decide +kernel) rfl ?_
  refine J_bipush (pc := 300) (n := 42) (v := 42) hX (by decide +kernel) (by decide +kernel) ?_
  refine J_bipush (pc := 302) (n := 32) (v := 32) hX (by decide +kernel) (by decide +kernel) ?_
  refine J_ckP (fun h113 => ?_)
  refine J_stA (pc := 304) hX (by decide +kernel) h113 (fun μ114 => ?_)
  refine J_dup (pc := 305) hX (by decide +kernel) rfl ?_
  refine J_bipush (pc := 306) (n := 43) (v := 43) hX (by decide +kernel) (by decide +kernel) ?_
  refine J_bipush (pc := 308) (n := 115) (v := 115) hX (by decide +kernel) (by decide +kernel) ?_
  refine J_ckP (fun h115 => ?_)
  refine J_stA (pc := 310) hX (by decide +kernel) h115 (fun μ116 => ?_)
  refine J_dup (pc := 311) hX (by decide +kernel) rfl ?_
  refine J_bipush (pc := 312) (n := 44) (v := 44) hX (by decide +kernel) (by decide +kernel) ?_
  refine J_bipush (pc := 314) (n := 97) (v := 97) hX (by decide +kernel) (by decide +kernel) ?_
  refine J_ckP (fun h117 => ?_)
  refine J_stA (pc := 316) hX (by decide +kernel) h117 (fun μ118 => ?_)
  refine J_dup (pc := 317) hX (by decide +kernel) rfl ?_
  refine J_bipush (pc := 318) (n := 45) (v := 45) hX (by decide +kernel) (by decide +kernel) ?_
  refine J_bipush (pc := 320) (n := 108) (v := 108) hX (by decide +kernel) (by decide +kernel) ?_
  refine J_ckP (fun h119 => ?_)
  refine J_stA (pc := 322) hX (by decide +kernel) h119 (fun μ120 => ?_)
  refine J_dup (pc := 323) hX (by decide +kernel) rfl ?_
  refine J_bipush (pc := 324) (n := 46) (v := 46) hX (by decide +kernel) (by decide +kernel) ?_
  refine J_bipush (pc := 326) (n := 116) (v := 116) hX (by decide +kernel) (by decide +kernel) ?_
  refine J_ckP (fun h121 => ?_)
  refine J_stA (pc := 328) hX (by decide +kernel) h121 (fun μ122 => ?_)
  refine J_dup (pc := 329) hX (by decide +kernel) rfl ?_
  refine J_bipush (pc := 330) (n := 47) (v := 47) hX (by decide +kernel) (by decide +kernel) ?_
  refine J_bipush (pc := 332) (n := 32) (v := 32) hX (by decide +kernel) (by decide +kernel) ?_
  refine J_ckP (fun h123 => ?_)
  refine J_stA (pc := 334) hX (by decide +kernel) h123 (fun μ124 => ?_)
  refine J_dup (pc := 335) hX (by decide +kernel) rfl ?_
  refine J_bipush (pc := 336) (n := 48) (v := 48) hX (by decide +kernel) (by decide +kernel) ?_
  refine J_bipush (pc := 338) (n := 119) (v := 119) hX (by decide +kernel) (by decide +kernel) ?_
  refine J_ckP (fun h125 => ?_)
  refine J_stA (pc := 340) hX (by decide +kernel) h125 (fun μ126 => ?_)
  refine J_dup (pc := 341) hX (by decide +kernel) rfl ?_
  refine J_bipush (pc := 342) (n := 49) (v := 49) hX (by decide +kernel) (by decide +kernel) ?_
  refine J_bipush (pc := 344) (n := 101) (v := 101) hX (by decide +kernel) (by decide +kernel) ?_
  refine J_ckP (fun h127 => ?_)
  refine J_stA (pc := 346) hX (by decide +kernel) h127 (fun μ128 => ?_)
  refine J_dup (pc := 347) hX (by decide +kernel) rfl ?_
  refine J_bipush (pc := 348) (n := 50) (v := 50) hX (by decide +kernel) (by decide +kernel) ?_
  refine J_bipush (pc := 350) (n := 116) (v := 116) hX (by decide +kernel) (by decide +kernel) ?_
  refine J_ckP (fun h129 => ?_)
  refine J_stA (pc := 352) hX (by decide +kernel) h129 (fun μ130 => ?_)
  refine J_dup (pc := 353) hX (by decide +kernel) rfl ?_
  refine J_bipush (pc := 354) (n := 51) (v := 51) hX (by decide +kernel) (by decide +kernel) ?_
  refine J_bipush (pc := 356) (n := 32) (v := 32) hX (by decide +kernel) (by decide +kernel) ?_
  refine J_ckP (fun h131 => ?_)
  refine J_stA (pc := 358) hX (by decide +kernel) h131 (fun μ132 => ?_)
  refine J_dup (pc := 359) hX (by decide +kernel) rfl ?_
  refine J_bipush (pc := 360) (n := 52) (v := 52) hX (by decide +kernel) (by decide +kernel) ?_
  refine J_bipush (pc := 362) (n := 115) (v := 115) hX (by decide +kernel) (by decide +kernel) ?_
  refine J_ckP (fun h133 => ?_)
  refine J_stA (pc := 364) hX (by decide +kernel) h133 (fun μ134 => ?_)
  refine J_dup (pc := 365) hX (by decide +kernel) rfl ?_
  refine J_bipush (pc := 366) (n := 53) (v := 53) hX (by decide +kernel) (by decide +kernel) ?_
  refine J_bipush (pc := 368) (n := 101) (v := 101) hX (by decide +kernel) (by decide +kernel) ?_
  refine J_ckP (fun h135 => ?_)
  refine J_stA (pc := 370) hX (by decide +kernel) h135 (fun μ136 => ?_)
  refine J_dup (pc := 371) hX (by decide +kernel) rfl ?_
  refine J_bipush (pc := 372) (n := 54) (v := 54) hX (by decide +kernel) (by decide +kernel) ?_
  refine J_bipush (pc := 374) (n := 97) (v := 97) hX (by decide +kernel) (by decide +kernel) ?_
  refine J_ckP (fun h137 => ?_)
  refine J_stA (pc := 376) hX (by decide +kernel) h137 (fun μ138 => ?_)
  refine J_dup (pc := 377) hX (by decide +kernel) rfl ?_
  refine J_bipush (pc := 378) (n := 55) (v := 55) hX (by decide +kernel) (by decide +kernel) ?_
  refine J_bipush (pc := 380) (n := 116) (v := 116) hX (by decide +kernel) (by decide +kernel) ?_
  refine J_ckP (fun h139 => ?_)
  refine J_stA (pc := 382) hX (by decide +kernel) h139 (fun μ140 => ?_)
  refine J_dup (pc := 383) hX (by decide +kernel) rfl ?_
  refine J_bipush (pc := 384) (n := 56) (v := 56) hX (by decide +kernel) (by decide +kernel) ?_
  refine J_bipush (pc := 386) (n := 32) (v := 32) hX (by decide +kernel) (by decide +kernel) ?_
  refine J_ckP (fun h141 => ?_)
  refine J_stA (pc := 388) hX (by decide +kernel) h141 (fun μ142 => ?_)
  refine J_dup (pc := 389) hX (by decide +kernel) rfl ?_
  refine J_bipush (pc := 390) (n := 57) (v := 57) hX (by decide +kernel) (by decide +kernel) ?_
  refine J_bipush (pc := 392) (n := 115) (v := 115) hX (by decide +kernel) (by decide +kernel) ?_
  refine J_ckP (fun h143 => ?_)
  refine J_stA (pc := 394) hX (by decide +kernel) h143 (fun μ144 => ?_)
  refine J_dup (pc := 395) hX (by decide +kernel) rfl ?_
  refine J_bipush (pc := 396) (n := 58) (v := 58) hX (by decide +kernel) (by decide +kernel) ?_
  refine J_bipush (pc := 398) (n := 112) (v := 112) hX (by decide +kernel) (by decide +kernel) ?_
  refine J_ckP (fun h145 => ?_)
  refine J_stA (pc := 400) hX (by decide +kernel) h145 (fun μ146 => ?_)
  refine J_dup (pc := 401) hX (by decide +kernel) rfl ?_
  refine J_bipush (pc := 402) (n := 59) (v := 59) hX (by decide +kernel) (by decide +kernel) ?_
  refine J_bipush (pc := 404) (n := 105) (v := 105) hX (by decide +kernel) (by decide +kernel) ?_
  refine J_ckP (fun h147 => ?_)
  refine J_stA (pc := 406) hX (by decide +kernel) h147 (fun μ148 => ?_)
  refine J_dup (pc := 407) hX (by decide +kernel) rfl ?_
  refine J_bipush (pc := 408) (n := 60) (v := 60) hX (by decide +kernel) (by decide +kernel) ?_
  refine J_bipush (pc := 410) (n := 108) (v := 108) hX (by decide +kernel) (by decide +kernel) ?_
  refine J_ckP (fun h149 => ?_)
  refine J_stA (pc := 412) hX (by decide +kernel) h149 (fun μ150 => ?_)
  refine J_dup (pc := 413) hX (by decide +kernel) rfl ?_
  refine J_bipush (pc := 414) (n := 61) (v := 61) hX (by decide +kernel) (by decide +kernel) ?_
  refine J_bipush (pc := 416) (n := 116) (v := 116) hX (by decide +kernel) (by decide +kernel) ?_
  refine J_ckP (fun h151 => ?_)
  refine J_stA (pc := 418) hX (by decide +kernel) h151 (fun μ152 => ?_)
  refine J_dup (pc := 419) hX (by decide +kernel) rfl ?_
  refine J_bipush (pc := 420) (n := 62) (v := 62) hX (by decide +kernel) (by decide +kernel) ?_
  refine J_bipush (pc := 422) (n := 32) (v := 32) hX (by decide +kernel) (by decide +kernel) ?_
  refine J_ckP (fun h153 => ?_)
  refine J_stA (pc := 424) hX (by decide +kernel) h153 (fun μ154 => ?_)
  refine J_dup (pc := 425) hX (by decide +kernel) rfl ?_
  refine J_bipush (pc := 426) (n := 63) (v := 63) hX (by decide +kernel) (by decide +kernel) ?_
  refine J_bipush (pc := 428) (n := 116) (v := 116) hX (by decide +kernel) (by decide +kernel) ?_
  refine J_ckP (fun h155 => ?_)
  refine J_stA (pc := 430) hX (by decide +kernel) h155 (fun μ156 => ?_)
  refine J_dup (pc := 431) hX (by decide +kernel) rfl ?_
  refine J_bipush (pc := 432) (n := 64) (v := 64) hX (by decide +kernel) (by decide +kernel) ?_
  refine J_bipush (pc := 434) (n := 104) (v := 104) hX (by decide +kernel) (by decide +kernel) ?_
  refine J_ckP (fun h157 => ?_)
  refine J_stA (pc := 436) hX (by decide +kernel) h157 (fun μ158 => ?_)
  refine J_dup (pc := 437) hX (by decide +kernel) rfl ?_
  refine J_bipush (pc := 438) (n := 65) (v := 65) hX (by decide +kernel) (by decide +kernel) ?_
  refine J_bipush (pc := 440) (n := 114) (v := 114) hX (by decide +kernel) (by decide +kernel) ?_
  refine J_ckP (fun h159 => ?_)
  refine J_stA (pc := 442) hX (by decide +kernel) h159 (fun μ160 => ?_)
  refine J_dup (pc := 443) hX (by decide +kernel) rfl ?_
  refine J_bipush (pc := 444) (n := 66) (v := 66) hX (by decide +kernel) (by decide +kernel) ?_
  refine J_bipush (pc := 446) (n := 111) (v := 111) hX (by decide +kernel) (by decide +kernel) ?_
  refine J_ckP (fun h161 => ?_)
  refine J_stA (pc := 448) hX (by decide +kernel) h161 (fun μ162 => ?_)
  refine J_dup (pc := 449) hX (by decide +kernel) rfl ?_
  refine J_bipush (pc := 450) (n := 67) (v := 67) hX (by decide +kernel) (by decide +kernel) ?_
  refine J_bipush (pc := 452) (n := 119) (v := 119) hX (by decide +kernel) (by decide +kernel) ?_
  refine J_ckP (fun h163 => ?_)
  refine J_stA (pc := 454) hX (by decide +kernel) h163 (fun μ164 => ?_)
  refine J_dup (pc := 455) hX (by decide +kernel) rfl ?_
  refine J_bipush (pc := 456) (n := 68) (v := 68) hX (by decide +kernel) (by decide +kernel) ?_
  refine J_bipush (pc := 458) (n := 110) (v := 110) hX (by decide +kernel) (by decide +kernel) ?_
  refine J_ckP (fun h165 => ?_)
  refine J_stA (pc := 460) hX (by decide +kernel) h165 (fun μ166 => ?_)
  refine J_dup (pc := 461) hX (by decide +kernel) rfl ?_
  refine J_bipush (pc := 462) (n := 69) (v := 69) hX (by decide +kernel) (by decide +kernel) ?_
  refine J_bipush (pc := 464) (n := 32) (v := 32) hX (by decide +kernel) (by decide +kernel) ?_
  refine J_ckP (fun h167 => ?_)
  refine J_stA (pc := 466) hX (by decide +kernel) h167 (fun μ168 => ?_)
  refine J_dup (pc := 467) hX (by decide +kernel) rfl ?_
  refine J_bipush (pc := 468) (n := 70) (v := 70) hX (by decide +kernel) (by decide +kernel) ?_
  refine J_bipush (pc := 470) (n := 108) (v := 108) hX (by decide +kernel) (by decide +kernel) ?_
  refine J_ckP (fun h169 => ?_)
  refine J_stA (pc := 472) hX (by decide +kernel) h169 (fun μ170 => ?_)
  refine J_dup (pc := 473) hX (by decide +kernel) rfl ?_
  refine J_bipush (pc := 474) (n := 71) (v := 71) hX (by decide +kernel) (by decide +kernel) ?_
  refine J_bipush (pc := 476) (n := 105) (v := 105) hX (by decide +kernel) (by decide +kernel) ?_
  refine J_ckP (fun h171 => ?_)
  refine J_stA (pc := 478) hX (by decide +kernel) h171 (fun μ172 => ?_)
  refine J_dup (pc := 479) hX (by decide +kernel) rfl ?_
  refine J_bipush (pc := 480) (n := 72) (v := 72) hX (by decide +kernel) (by decide +kernel) ?_
  refine J_bipush (pc := 482) (n := 99) (v := 99) hX (by decide +kernel) (by decide +kernel) ?_
  refine J_ckP (fun h173 => ?_)
  refine J_stA (pc := 484) hX (by decide +kernel) h173 (fun μ174 => ?_)
  refine J_dup (pc := 485) hX (by decide +kernel) rfl ?_
  refine J_bipush (pc := 486) (n := 73) (v := 73) hX (by decide +kernel) (by decide +kernel) ?_
  refine J_bipush (pc := 488) (n := 107) (v := 107) hX (by decide +kernel) (by decide +kernel) ?_
  refine J_ckP (fun h175 => ?_)
  refine J_stA (pc := 490) hX (by decide +kernel) h175 (fun μ176 => ?_)
  refine J_dup (pc := 491) hX (by decide +kernel) rfl ?_
  refine J_bipush (pc := 492) (n := 74) (v := 74) hX (by decide +kernel) (by decide +kernel) ?_
  refine J_bipush (pc := 494) (n := 101) (v := 101) hX (by decide +kernel) (by decide +kernel) ?_
  refine J_ckP (fun h177 => ?_)
  refine J_stA (pc := 496) hX (by decide +kernel) h177 (fun μ178 => ?_)
  refine J_dup (pc := 497) hX (by decide +kernel) rfl ?_
  refine J_bipush (pc := 498) (n := 75) (v := 75) hX (by decide +kernel) (by decide +kernel) ?_
  refine J_bipush (pc := 500) (n := 100) (v := 100) hX (by decide +kernel) (by decide +kernel) ?_
  refine J_ckP (fun h179 => ?_)
  refine J_stA (pc := 502) hX (by decide +kernel) h179 (fun μ180 => ?_)
  refine J_dup (pc := 503) hX (by decide +kernel) rfl ?_
  refine J_bipush (pc := 504) (n := 76) (v := 76) hX (by decide +kernel) (by decide +kernel) ?_
  refine J_bipush (pc := 506) (n := 32) (v := 32) hX (by decide +kernel) (by decide +kernel) ?_
  refine J_ckP (fun h181 => ?_)
  refine J_stA (pc := 508) hX (by decide +kernel) h181 (fun μ182 => ?_)
  refine J_dup (pc := 509) hX (by decide +kernel) rfl ?_
  refine J_bipush (pc := 510) (n := 77) (v := 77) hX (by decide +kernel) (by decide +kernel) ?_
  refine J_bipush (pc := 512) (n := 98) (v := 98) hX (by decide +kernel) (by decide +kernel) ?_
  refine J_ckP (fun h183 => ?_)
  refine J_stA (pc := 514) hX (by decide +kernel) h183 (fun μ184 => ?_)
  refine J_dup (pc := 515) hX (by decide +kernel) rfl ?_
  refine J_bipush (pc := 516) (n := 78) (v := 78) hX (by decide +kernel) (by decide +kernel) ?_
  refine J_bipush (pc := 518) (n := 101) (v := 101) hX (by decide +kernel) (by decide +kernel) ?_
  refine J_ckP (fun h185 => ?_)
  refine J_stA (pc := 520) hX (by decide +kernel) h185 (fun μ186 => ?_)
  refine J_dup (pc := 521) hX (by decide +kernel) rfl ?_
  refine J_bipush (pc := 522) (n := 79) (v := 79) hX (by decide +kernel) (by decide +kernel) ?_
  refine J_bipush (pc := 524) (n := 115) (v := 115) hX (by decide +kernel) (by decide +kernel) ?_
  refine J_ckP (fun h187 => ?_)
  refine J_stA (pc := 526) hX (by decide +kernel) h187 (fun μ188 => ?_)
  refine J_dup (pc := 527) hX (by decide +kernel) rfl ?_
  refine J_bipush (pc := 528) (n := 80) (v := 80) hX (by decide +kernel) (by decide +kernel) ?_
  refine J_bipush (pc := 530) (n := 105) (v := 105) hX (by decide +kernel) (by decide +kernel) ?_
  refine J_ckP (fun h189 => ?_)
  refine J_stA (pc := 532) hX (by decide +kernel) h189 (fun μ190 => ?_)
  refine J_dup (pc := 533) hX (by decide +kernel) rfl ?_
  refine J_bipush (pc := 534) (n := 81) (v := 81) hX (by decide +kernel) (by decide +kernel) ?_
  refine J_bipush (pc := 536) (n := 100) (v := 100) hX (by decide +kernel) (by decide +kernel) ?_
  refine J_ckP (fun h191 => ?_)
  refine J_stA (pc := 538) hX (by decide +kernel) h191 (fun μ192 => ?_)
  refine J_dup (pc := 539) hX (by decide +kernel) rfl ?_
  refine J_bipush (pc := 540) (n := 82) (v := 82) hX (by decide +kernel) (by decide +kernel) ?_
  refine J_bipush (pc := 542) (n := 101) (v := 101) hX (by decide +kernel) (by decide +kernel) ?_
  refine J_ckP (fun h193 => ?_)
  refine J_stA (pc := 544) hX (by decide +kernel) h193 (fun μ194 => ?_)
  refine J_dup (pc := 545) hX (by decide +kernel) rfl ?_
  refine J_bipush (pc := 546) (n := 83) (v := 83) hX (by decide +kernel) (by decide +kernel) ?_
  refine J_bipush (pc := 548) (n := 32) (v := 32) hX (by decide +kernel) (by decide +kernel) ?_
  refine J_ckP (fun h195 => ?_)
  refine J_stA (pc := 550) hX (by decide +kernel) h195 (fun μ196 => ?_)
  refine J_dup (pc := 551) hX (by decide +kernel) rfl ?_
  refine J_bipush (pc := 552) (n := 84) (v := 84) hX (by decide +kernel) (by decide +kernel) ?_
  refine J_bipush (pc := 554) (n := 104) (v := 104) hX (by decide +kernel) (by decide +kernel) ?_
  refine J_ckP (fun h197 => ?_)
  refine J_stA (pc := 556) hX (by decide +kernel) h197 (fun μ198 => ?_)
  refine J_dup (pc := 557) hX (by decide +kernel) rfl ?_
  refine J_bipush (pc := 558) (n := 85) (v := 85) hX (by decide +kernel) (by decide +kernel) ?_
  refine J_bipush (pc := 560) (n := 101) (v := 101) hX (by decide +kernel) (by decide +kernel) ?_
  refine J_ckP (fun h199 => ?_)
  refine J_stA (pc := 562) hX (by decide +kernel) h199 (fun μ200 => ?_)
  refine J_dup (pc := 563) hX (by decide +kernel) rfl ?_
  refine J_bipush (pc := 564) (n := 86) (v := 86) hX (by decide +kernel) (by decide +kernel) ?_
  refine J_bipush (pc := 566) (n := 105) (v := 105) hX (by decide +kernel) (by decide +kernel) ?_
  refine J_ckP (fun h201 => ?_)
  refine J_stA (pc := 568) hX (by decide +kernel) h201 (fun μ202 => ?_)
  refine J_dup (pc := 569) hX (by decide +kernel) rfl ?_
  refine J_bipush (pc := 570) (n := 87) (v := 87) hX (by decide +kernel) (by decide +kernel) ?_
  refine J_bipush (pc := 572) (n := 114) (v := 114) hX (by decide +kernel) (by decide +kernel) ?_
  refine J_ckP (fun h203 => ?_)
  refine J_stA (pc := 574) hX (by decide +kernel) h203 (fun μ204 => ?_)
  refine J_dup (pc := 575) hX (by decide +kernel) rfl ?_
  refine J_bipush (pc := 576) (n := 88) (v := 88) hX (by decide +kernel) (by decide +kernel) ?_
  refine J_bipush (pc := 578) (n := 115) (v := 115) hX (by decide +kernel) (by decide +kernel) ?_
  refine J_ckP (fun h205 => ?_)
  refine J_stA (pc := 580) hX (by decide +kernel) h205 (fun μ206 => ?_)
  refine J_dup (pc := 581) hX (by decide +kernel) rfl ?_
  refine J_bipush (pc := 582) (n := 89) (v := 89) hX (by decide +kernel) (by decide +kernel) ?_
  refine J_bipush (pc := 584) (n := 32) (v := 32) hX (by decide +kernel) (by decide +kernel) ?_
  refine J_ckP (fun h207 => ?_)
  refine J_stA (pc := 586) hX (by decide +kernel) h207 (fun μ208 => ?_)
  refine J_dup (pc := 587) hX (by decide +kernel) rfl ?_
  refine J_bipush (pc := 588) (n := 90) (v := 90) hX (by decide +kernel) (by decide +kernel) ?_
  refine J_bipush (pc := 590) (n := 100) (v := 100) hX (by decide +kernel) (by decide +kernel) ?_
  refine J_ckP (fun h209 => ?_)
  refine J_stA (pc := 592) hX (by decide +kernel) h209 (fun μ210 => ?_)
  refine J_dup (pc := 593) hX (by decide +kernel) rfl ?_
  refine J_bipush (pc := 594) (n := 91) (v := 91) hX (by decide +kernel) (by decide +kernel) ?_
  refine J_bipush (pc := 596) (n := 97) (v := 97) hX (by decide +kernel) (by decide +kernel) ?_
  refine J_ckP (fun h211 => ?_)
  refine J_stA (pc := 598) hX (by decide +kernel) h211 (fun μ212 => ?_)
  refine J_dup (pc := 599) hX (by decide +kernel) rfl ?_
  refine J_bipush (pc := 600) (n := 92) (v := 92) hX (by decide +kernel) (by decide +kernel) ?_
  refine J_bipush (pc := 602) (n := 121) (v := 121) hX (by decide +kernel) (by decide +kernel) ?_
  refine J_ckP (fun h213 => ?_)
  refine J_stA (pc := 604) hX (by decide +kernel) h213 (fun μ214 => ?_)
  refine J_dup (pc := 605) hX (by decide +kernel) rfl ?_
  refine J_bipush (pc := 606) (n := 93) (v := 93) hX (by decide +kernel) (by decide +kernel) ?_
  refine J_bipush (pc := 608) (n := 32) (v := 32) hX (by decide +kernel) (by decide +kernel) ?_
  refine J_ckP (fun h215 => ?_)
  refine J_stA (pc := 610) hX (by decide +kernel) h215 (fun μ216 => ?_)
  refine J_dup (pc := 611) hX (by decide +kernel) rfl ?_
  refine J_bipush (pc := 612) (n := 94) (v := 94) hX (by decide +kernel) (by decide +kernel) ?_
  refine J_bipush (pc := 614) (n := 112) (v := 112) hX (by decide +kernel) (by decide +kernel) ?_
  refine J_ckP (fun h217 => ?_)
  refine J_stA (pc := 616) hX (by decide +kernel) h217 (fun μ218 => ?_)
  refine J_dup (pc := 617) hX (by decide +kernel) rfl ?_
  refine J_bipush (pc := 618) (n := 95) (v := 95) hX (by decide +kernel) (by decide +kernel) ?_
  refine J_bipush (pc := 620) (n := 101) (v := 101) hX (by decide +kernel) (by decide +kernel) ?_
  refine J_ckP (fun h219 => ?_)
  refine J_stA (pc := 622) hX (by decide +kernel) h219 (fun μ220 => ?_)
  refine J_dup (pc := 623) hX (by decide +kernel) rfl ?_
  refine J_bipush (pc := 624) (n := 96) (v := 96) hX (by decide +kernel) (by decide +kernel) ?_
  refine J_bipush (pc := 626) (n := 114) (v := 114) hX (by decide +kernel) (by decide +kernel) ?_
  refine J_ckP (fun h221 => ?_)
  refine J_stA (pc := 628) hX (by decide +kernel) h221 (fun μ222 => ?_)
  refine J_dup (pc := 629) hX (by decide +kernel) rfl ?_
  refine J_bipush (pc := 630) (n := 97) (v := 97) hX (by decide +kernel) (by decide +kernel) ?_
  refine J_bipush (pc := 632) (n := 115) (v := 115) hX (by decide +kernel) (by decide +kernel) ?_
  refine J_ckP (fun h223 => ?_)
  refine J_stA (pc := 634) hX (by decide +kernel) h223 (fun μ224 => ?_)
  refine J_dup (pc := 635) hX (by decide +kernel) rfl ?_
  refine J_bipush (pc := 636) (n := 98) (v := 98) hX (by decide +kernel) (by decide +kernel) ?_
  refine J_bipush (pc := 638) (n := 111) (v := 111) hX (by decide +kernel) (by decide +kernel) ?_
  refine J_ckP (fun h225 => ?_)
  refine J_stA (pc := 640) hX (by decide +kernel) h225 (fun μ226 => ?_)
  refine J_dup (pc := 641) hX (by decide +kernel) rfl ?_
  refine J_bipush (pc := 642) (n := 99) (v := 99) hX (by decide +kernel) (by decide +kernel) ?_
  refine J_bipush (pc := 644) (n := 110) (v := 110) hX (by decide +kernel) (by decide +kernel) ?_
  refine J_ckP (fun h227 => ?_)
  refine J_stA (pc := 646) hX (by decide +kernel) h227 (fun μ228 => ?_)
  refine J_dup (pc := 647) hX (by decide +kernel) rfl ?_
  refine J_bipush (pc := 648) (n := 100) (v := 100) hX (by decide +kernel) (by decide +kernel) ?_
  refine J_bipush (pc := 650) (n := 32) (v := 32) hX (by decide +kernel) (by decide +kernel) ?_
  refine J_ckP (fun h229 => ?_)
  refine J_stA (pc := 652) hX (by decide +kernel) h229 (fun μ230 => ?_)
  refine J_dup (pc := 653) hX (by decide +kernel) rfl ?_
  refine J_bipush (pc := 654) (n := 101) (v := 101) hX (by decide +kernel) (by decide +kernel) ?_
  refine J_bipush (pc := 656) (n := 111) (v := 111) hX (by decide +kernel) (by decide +kernel) ?_
  refine J_ckP (fun h231 => ?_)
  refine J_stA (pc := 658) hX (by decide +kernel) h231 (fun μ232 => ?_)
  refine J_dup (pc := 659) hX (by decide +kernel) rfl ?_
  refine J_bipush (pc := 660) (n := 102) (v := 102) hX (by decide +kernel) (by decide +kernel) ?_
  refine J_bipush (pc := 662) (n := 110) (v := 110) hX (by decide +kernel) (by decide +kernel) ?_
  refine J_ckP (fun h233 => ?_)
  refine J_stA (pc := 664) hX (by decide +kernel) h233 (fun μ234 => ?_)
  refine J_dup (pc := 665) hX (by decide +kernel) rfl ?_
  refine J_bipush (pc := 666) (n := 103) (v := 103) hX (by decide +kernel) (by decide +kernel) ?_
  refine J_bipush (pc := 668) (n := 32) (v := 32) hX (by decide +kernel) (by decide +kernel) ?_
  refine J_ckP (fun h235 => ?_)
  refine J_stA (pc := 670) hX (by decide +kernel) h235 (fun μ236 => ?_)
  refine J_dup (pc := 671) hX (by decide +kernel) rfl ?_
  refine J_bipush (pc := 672) (n := 104) (v := 104) hX (by decide +kernel) (by decide +kernel) ?_
  refine J_bipush (pc := 674) (n := 99) (v := 99) hX (by decide +kernel) (by decide +kernel) ?_
  refine J_ckP (fun h237 => ?_)
  refine J_stA (pc := 676) hX (by decide +kernel) h237 (fun μ238 => ?_)
  refine J_dup (pc := 677) hX (by decide +kernel) rfl ?_
  refine J_bipush (pc := 678) (n := 105) (v := 105) hX (by decide +kernel) (by decide +kernel) ?_
  refine J_bipush (pc := 680) (n := 97) (v := 97) hX (by decide +kernel) (by decide +kernel) ?_
  refine J_ckP (fun h239 => ?_)
  refine J_stA (pc := 682) hX (by decide +kernel) h239 (fun μ240 => ?_)
  refine J_dup (pc := 683) hX (by decide +kernel) rfl ?_
  refine J_bipush (pc := 684) (n := 106) (v := 106) hX (by decide +kernel) (by decide +kernel) ?_
  refine J_bipush (pc := 686) (n := 116) (v := 116) hX (by decide +kernel) (by decide +kernel) ?_
  refine J_ckP (fun h241 => ?_)
  refine J_stA (pc := 688) hX (by decide +kernel) h241 (fun μ242 => ?_)
  refine J_dup (pc := 689) hX (by decide +kernel) rfl ?_
  refine J_bipush (pc := 690) (n := 107) (v := 107) hX (by decide +kernel) (by decide +kernel) ?_
  refine J_bipush (pc := 692) (n := 116) (v := 116) hX (by decide +kernel) (by decide +kernel) ?_
  refine J_ckP (fun h243 => ?_)
  refine J_stA (pc := 694) hX (by decide +kernel) h243 (fun μ244 => ?_)
  refine J_dup (pc := 695) hX (by decide +kernel) rfl ?_
  refine J_bipush (pc := 696) (n := 108) (v := 108) hX (by decide +kernel) (by decide +kernel) ?_
  refine J_bipush (pc := 698) (n := 108) (v := 108) hX (by decide +kernel) (by decide +kernel) ?_
  refine J_ckP (fun h245 => ?_)
  refine J_stA (pc := 700) hX (by decide +kernel) h245 (fun μ246 => ?_)
  refine J_dup (pc := 701) hX (by decide +kernel) rfl ?_
  refine J_bipush (pc := 702) (n := 109) (v := 109) hX (by decide +kernel) (by decide +kernel) ?_
  refine J_bipush (pc := 704) (n := 101) (v := 101) hX (by decide +kernel) (by decide +kernel) ?_
  refine J_ckP (fun h247 => ?_)
  refine J_stA (pc := 706) hX (by decide +kernel) h247 (fun μ248 => ?_)
  refine J_dup (pc := 707) hX (by decide +kernel) rfl ?_
  refine J_bipush (pc := 708) (n := 110) (v := 110) hX (by decide +kernel) (by decide +kernel) ?_
  refine J_bipush (pc := 710) (n := 32) (v := 32) hX (by decide +kernel) (by decide +kernel) ?_
  refine J_ckP (fun h249 => ?_)
  refine J_stA (pc := 712) hX (by decide +kernel) h249 (fun μ250 => ?_)
  refine J_dup (pc := 713) hX (by decide +kernel) rfl ?_
  refine J_bipush (pc := 714) (n := 111) (v := 111) hX (by decide +kernel) (by decide +kernel) ?_
  refine J_bipush (pc := 716) (n := 102) (v := 102) hX (by decide +kernel) (by decide +kernel) ?_
  refine J_ckP (fun h251 => ?_)
  refine J_stA (pc := 718) hX (by decide +kernel) h251 (fun μ252 => ?_)
  refine J_dup (pc := 719) hX (by decide +kernel) rfl ?_
  refine J_bipush (pc := 720) (n := 112) (v := 112) hX (by decide +kernel) (by decide +kernel) ?_
  refine J_bipush (pc := 722) (n := 101) (v := 101) hX (by decide +kernel) (by decide +kernel) ?_
  refine J_ckP (fun h253 => ?_)
  refine J_stA (pc := 724) hX (by decide +kernel) h253 (fun μ254 => ?_)
  refine J_dup (pc := 725) hX (by decide +kernel) rfl ?_
  refine J_bipush (pc := 726) (n := 113) (v := 113) hX (by decide +kernel) (by decide +kernel) ?_
  refine J_bipush (pc := 728) (n := 97) (v := 97) hX (by decide +kernel) (by decide +kernel) ?_
  refine J_ckP (fun h255 => ?_)
  refine J_stA (pc := 730) hX (by decide +kernel) h255 (fun μ256 => ?_)
  refine J_dup (pc := 731) hX (by decide +kernel) rfl ?_
  refine J_bipush (pc := 732) (n := 114) (v := 114) hX (by decide +kernel) (by decide +kernel) ?_
  refine J_bipush (pc := 734) (n := 115) (v := 115) hX (by decide +kernel) (by decide +kernel) ?_
  refine J_ckP (fun h257 => ?_)
  refine J_stA (pc := 736) hX (by decide +kernel) h257 (fun μ258 => ?_)
  refine J_dup (pc := 737) hX (by decide +kernel) rfl ?_
  refine J_bipush (pc := 738) (n := 115) (v := 115) hX (by decide +kernel) (by decide +kernel) ?_
  refine J_bipush (pc := 740) (n := 116) (v := 116) hX (by decide +kernel) (by decide +kernel) ?_
  refine J_ckP (fun h259 => ?_)
  refine J_stA (pc := 742) hX (by decide +kernel) h259 (fun μ260 => ?_)
  refine J_dup (pc := 743) hX (by decide +kernel) rfl ?_
  refine J_bipush (pc := 744) (n := 116) (v := 116) hX (by decide +kernel) (by decide +kernel) ?_
  refine J_bipush (pc := 746) (n := 32) (v := 32) hX (by decide +kernel) (by decide +kernel) ?_
  refine J_ckP (fun h261 => ?_)
  refine J_stA (pc := 748) hX (by decide +kernel) h261 (fun μ262 => ?_)
  refine J_dup (pc := 749) hX (by decide +kernel) rfl ?_
  refine J_bipush (pc := 750) (n := 117) (v := 117) hX (by decide +kernel) (by decide +kernel) ?_
  refine J_bipush (pc := 752) (n := 115) (v := 115) hX (by decide +kernel) (by decide +kernel) ?_
  refine J_ckP (fun h263 => ?_)
  refine J_stA (pc := 754) hX (by decide +kernel) h263 (fun μ264 => ?_)
  refine J_dup (pc := 755) hX (by decide +kernel) rfl ?_
  refine J_bipush (pc := 756) (n := 118) (v := 118) hX (by decide +kernel) (by decide +kernel) ?_
  refine J_bipush (pc := 758) (n := 99) (v := 99) hX (by decide +kernel) (by decide +kernel) ?_
  refine J_ckP (fun h265 => ?_)
  refine J_stA (pc := 760) hX (by decide +kernel) h265 (fun μ266 => ?_)
  refine J_dup (pc := 761) hX (by decide +kernel) rfl ?_
  refine J_bipush (pc := 762) (n := 119) (v := 119) hX (by decide +kernel) (by decide +kernel) ?_
  refine J_bipush (pc := 764) (n := 111) (v := 111) hX (by decide +kernel) (by decide +kernel) ?_
  refine J_ckP (fun h267 => ?_)
  refine J_stA (pc := 766) hX (by decide +kernel) h267 (fun μ268 => ?_)
  refine J_dup (pc := 767) hX (by decide +kernel) rfl ?_
  refine J_bipush (pc := 768) (n := 120) (v := 120) hX (by decide +kernel) (by decide +kernel) ?_
  refine J_bipush (pc := 770) (n := 108) (v := 108) hX (by decide +kernel) (by decide +kernel) ?_
  refine J_ckP (fun h269 => ?_)
  refine J_stA (pc := 772) hX (by decide +kernel) h269 (fun μ270 => ?_)
  refine J_dup (pc := 773) hX (by decide +kernel) rfl ?_
  refine J_bipush (pc := 774) (n := 121) (v := 121) hX (by decide +kernel) (by decide +kernel) ?_
  refine J_bipush (pc := 776) (n := 100) (v := 100) hX (by decide +kernel) (by decide +kernel) ?_
  refine J_ckP (fun h271 => ?_)
  refine J_stA (pc := 778) hX (by decide +kernel) h271 (fun μ272 => ?_)
  refine J_dup (pc := 779) hX (by decide +kernel) rfl ?_
  refine J_bipush (pc := 780) (n := 122) (v := 122) hX (by decide +kernel) (by decide +kernel) ?_
  refine J_bipush (pc := 782) (n := 32) (v := 32) hX (by decide +kernel) (by decide +kernel) ?_
  refine J_ckP (fun h273 => ?_)
  refine J_stA (pc := 784) hX (by decide +kernel) h273 (fun μ274 => ?_)
  refine J_dup (pc := 785) hX (by decide +kernel) rfl ?_
  refine J_bipush (pc := 786) (n := 123) (v := 123) hX (by decide +kernel) (by decide +kernel) ?_
  refine J_bipush (pc := 788) (n := 100) (v := 100) hX (by decide +kernel) (by decide +kernel) ?_
  refine J_ckP (fun h275 => ?_)
  refine J_stA (pc := 790) hX (by decide +kernel) h275 (fun μ276 => ?_)
  refine J_dup (pc := 791) hX (by decide +kernel) rfl ?_
  refine J_bipush (pc := 792) (n := 124) (v := 124) hX (by decide +kernel) (by decide +kernel) ?_
  refine J_bipush (pc := 794) (n := 105) (v := 105) hX (by decide +kernel) (by decide +kernel) ?_
  refine J_ckP (fun h277 => ?_)
  refine J_stA (pc := 796) hX (by decide +kernel) h277 (fun μ278 => ?_)
  refine J_dup (pc := 797) hX (by decide +kernel) rfl ?_
  refine J_bipush (pc := 798) (n := 125) (v := 125) hX (by decide +kernel) (by decide +kernel) ?_
  refine J_bipush (pc := 800) (n := 101) (v := 101) hX (by decide +kernel) (by decide +kernel) ?_
  refine J_ckP (fun h279 => ?_)
  refine J_stA (pc := 802) hX (by decide +kernel) h279 (fun μ280 => ?_)
  refine J_dup (pc := 803) hX (by decide +kernel) rfl ?_
  refine J_bipush (pc := 804) (n := 126) (v := 126) hX (by decide +kernel) (by decide +kernel) ?_
  refine J_bipush (pc := 806) (n := 32) (v := 32) hX (by decide +kernel) (by decide +kernel) ?_
  refine J_ckP (fun h281 => ?_)
  refine J_stA (pc := 808) hX (by decide +kernel) h281 (fun μ282 => ?_)
  refine J_dup (pc := 809) hX (by decide +kernel) rfl ?_
  refine J_bipush (pc := 810) (n := 127) (v := 127) hX (by decide +kernel) (by decide +kernel) ?_
  refine J_bipush (pc := 812) (n := 104) (v := 104) hX (by decide +kernel) (by decide +kernel) ?_
  refine J_ckP (fun h283 => ?_)
  refine J_stA (pc := 814) hX (by decide +kernel) h283 (fun μ284 => ?_)
  refine J_dup (pc := 815) hX (by decide +kernel) rfl ?_
  refine J_sipush (pc := 816) (n := 128) (v := 128) hX (by decide +kernel) (by decide +kernel) ?_
  refine J_bipush (pc := 819) (n := 101) (v := 101) hX (by decide +kernel) (by decide +kernel) ?_
  refine J_ckP (fun h285 => ?_)
  refine J_stA (pc := 821) hX (by decide +kernel) h285 (fun μ286 => ?_)
  refine J_dup (pc := 822) hX (by decide +kernel) rfl ?_
  refine J_sipush (pc := 823) (n := 129) (v := 129) hX (by decide +kernel) (by decide +kernel) ?_
  refine J_bipush (pc := 826) (n := 105) (v := 105) hX (by decide +kernel) (by decide +kernel) ?_
  refine J_ckP (fun h287 => ?_)
  refine J_stA (pc := 828) hX (by decide +kernel) h287 (fun μ288 => ?_)
  refine J_dup (pc := 829) hX (by decide +kernel) rfl ?_
  refine J_sipush (pc := 830) (n := 130) (v := 130) hX (by decide +kernel) (by decide +kernel) ?_
  refine J_bipush (pc := 833) (n := 114) (v := 114) hX (by decide +kernel) (by decide +kernel) ?_
  refine J_ckP (fun h289 => ?_)
  refine J_stA (pc := 835) hX (by decide +kernel) h289 (fun μ290 => ?_)
  refine J_dup (pc := 836) hX (by decide +kernel) rfl ?_
  refine J_sipush (pc := 837) (n := 131) (v := 131) hX (by decide +kernel) (by decide +kernel) ?_
  refine J_bipush (pc := 840) (n := 32) (v := 32) hX (by decide +kernel) (by decide +kernel) ?_
  refine J_ckP (fun h291 => ?_)
  refine J_stA (pc := 842) hX (by decide +kernel) h291 (fun μ292 => ?_)
  refine J_ckP (fun h293 => ?_)
  refine J_pRf (pc := 843) hX hI (by decide +kernel) fl_Mo_25 (by intro r hr; cases hr; rfl) h293 rfl rfl rfl (fun y294 => ?_)
  refine J_aload_n (k0 := 0) (pc := 846) 0 hX (by decide +kernel) rfl rfl ?_
  refine J_iconst (pc := 847) (n := 2) (v := 2) hX (by decide +kernel) (by decide +kernel) ?_
  refine J_nwA (pc := 848) hX (by decide +kernel) (mq mt_1 92 (by decide +kernel)) (by decide +kernel) (by decide +kernel) (by decide +kernel) (fun q295 μ296 y297 => ?_)
  refine J_ckP (fun h298 => ?_)
  refine J_pRf (pc := 850) hX hI (by decide +kernel) fl_Mo_28 (by intro r hr; cases hr; rfl) h298 rfl rfl rfl (fun y299 => ?_)
  refine J_aload_n (k0 := 0) (pc := 853) 0 hX (by decide +kernel) rfl rfl ?_
  refine J_bipush (pc := 854) (n := 48) (v := 48) hX (by decide +kernel) (by decide +kernel) ?_
  refine J_nwA (pc := 856) hX (by decide +kernel) (mq mt_1 92 (by decide +kernel)) (by decide +kernel) (by decide +kernel) (by decide +kernel) (fun q300 μ301 y302 => ?_)
  refine J_ckP (fun h303 => ?_)
  refine J_pRf (pc := 858) hX hI (by decide +kernel) fl_Mo_31 (by intro r hr; cases hr; rfl) h303 rfl rfl rfl (fun y304 => ?_)
  refine J_aload_n (k0 := 0) (pc := 861) 0 hX (by decide +kernel) rfl rfl ?_
  refine J_bipush (pc := 862) (n := 48) (v := 48) hX (by decide +kernel) (by decide +kernel) ?_
  refine J_nwA (pc := 864) hX (by decide +kernel) (mq mt_1 92 (by decide +kernel)) (by decide +kernel) (by decide +kernel) (by decide +kernel) (fun q305 μ306 y307 => ?_)
  refine J_ckP (fun h308 => ?_)
  refine J_pRf (pc := 866) hX hI (by decide +kernel) fl_Mo_34 (by intro r hr; cases hr; rfl) h308 rfl rfl rfl (fun y309 => ?_)
  refine J_aload_n (k0 := 0) (pc := 869) 0 hX (by decide +kernel) rfl rfl ?_
  refine J_bipush (pc := 870) (n := 48) (v := 48) hX (by decide +kernel) (by decide +kernel) ?_
  refine J_nwA (pc := 872) hX (by decide +kernel) (mq mt_1 92 (by decide +kernel)) (by decide +kernel) (by decide +kernel) (by decide +kernel) (fun q310 μ311 y312 => ?_)
  refine J_ckP (fun h313 => ?_)
  refine J_pRf (pc := 874) hX hI (by decide +kernel) fl_Mo_37 (by intro r hr; cases hr; rfl) h313 rfl rfl rfl (fun y314 => ?_)
  refine J_aload_n (k0 := 0) (pc := 877) 0 hX (by decide +kernel) rfl rfl ?_
  refine J_bipush (pc := 878) (n := 48) (v := 48) hX (by decide +kernel) (by decide +kernel) ?_
  refine J_nwA (pc := 880) hX (by decide +kernel) (mq mt_1 92 (by decide +kernel)) (by decide +kernel) (by decide +kernel) (by decide +kernel) (fun q315 μ316 y317 => ?_)
  refine J_ckP (fun h318 => ?_)
  refine J_pRf (pc := 882) hX hI (by decide +kernel) fl_Mo_40 (by intro r hr; cases hr; rfl) h318 rfl rfl rfl (fun y319 => ?_)
  refine J_aload_n (k0 := 0) (pc := 885) 0 hX (by decide +kernel) rfl rfl ?_
  refine J_sipush (pc := 886) (n := 1200) (v := 1200) hX (by decide +kernel) (by decide +kernel) ?_
  refine J_nwA (pc := 889) hX (by decide +kernel) (mq mt_1 92 (by decide +kernel)) (by decide +kernel) (by decide +kernel) (by decide +kernel) (fun q320 μ321 y322 => ?_)
  refine J_ckP (fun h323 => ?_)
  refine J_pRf (pc := 891) hX hI (by decide +kernel) fl_Mo_43 (by intro r hr; cases hr; rfl) h323 rfl rfl rfl (fun y324 => ?_)
  refine J_aload_n (k0 := 0) (pc := 894) 0 hX (by decide +kernel) rfl rfl ?_
  refine J_sipush (pc := 895) (n := 1200) (v := 1200) hX (by decide +kernel) (by decide +kernel) ?_
  refine J_nwA (pc := 898) hX (by decide +kernel) (mq mt_1 92 (by decide +kernel)) (by decide +kernel) (by decide +kernel) (by decide +kernel) (fun q325 μ326 y327 => ?_)
  refine J_ckP (fun h328 => ?_)
  refine J_pRf (pc := 900) hX hI (by decide +kernel) fl_Mo_46 (by intro r hr; cases hr; rfl) h328 rfl rfl rfl (fun y329 => ?_)
  refine J_aload_n (k0 := 0) (pc := 903) 0 hX (by decide +kernel) rfl rfl ?_
  refine J_bipush (pc := 904) (n := 40) (v := 40) hX (by decide +kernel) (by decide +kernel) ?_
  refine J_nwA (pc := 906) hX (by decide +kernel) (mq mt_1 92 (by decide +kernel)) (by decide +kernel) (by decide +kernel) (by decide +kernel) (fun q330 μ331 y332 => ?_)
  refine J_ckP (fun h333 => ?_)
  refine J_pRf (pc := 908) hX hI (by decide +kernel) fl_Mo_49 (by intro r hr; cases hr; rfl) h333 rfl rfl rfl (fun y334 => ?_)
  refine J_aload_n (k0 := 0) (pc := 911) 0 hX (by decide +kernel) rfl rfl ?_
  refine J_iconst (pc := 912) (n := -1) (v := (-1)) hX (by decide +kernel) (by decide +kernel) ?_
  refine J_ckP (fun h335 => ?_)
  refine J_pF (pc := 913) hX (by decide +kernel) fl_Mo_52 h335 rfl (fun μ336 => ?_)
  refine J_aload_n (k0 := 0) (pc := 916) 0 hX (by decide +kernel) rfl rfl ?_
  refine J_bipush (pc := 917) (n := 16) (v := 16) hX (by decide +kernel) (by decide +kernel) ?_
  refine J_nwA (pc := 919) hX (by decide +kernel) (mq mt_1 92 (by decide +kernel)) (by decide +kernel) (by decide +kernel) (by decide +kernel) (fun q337 μ338 y339 => ?_)
  refine J_ckP (fun h340 => ?_)
  refine J_pRf (pc := 921) hX hI (by decide +kernel) fl_Mo_56 (by intro r hr; cases hr; rfl) h340 rfl rfl rfl (fun y341 => ?_)
  refine J_aload_n (k0 := 0) (pc := 924) 0 hX (by decide +kernel) rfl rfl ?_
  refine J_bipush (pc := 925) (n := 16) (v := 16) hX (by decide +kernel) (by decide +kernel) ?_
  refine J_nwA (pc := 927) hX (by decide +kernel) (mq mt_1 92 (by decide +kernel)) (by decide +kernel) (by decide +kernel) (by decide +kernel) (fun q342 μ343 y344 => ?_)
  refine J_ckP (fun h345 => ?_)
  refine J_pRf (pc := 929) hX hI (by decide +kernel) fl_Mo_59 (by intro r hr; cases hr; rfl) h345 rfl rfl rfl (fun y346 => ?_)
  refine J_aload_n (k0 := 0) (pc := 932) 0 hX (by decide +kernel) rfl rfl ?_
  refine J_sipush (pc := 933) (n := 128) (v := 128) hX (by decide +kernel) (by decide +kernel) ?_
  refine J_nwA (pc := 936) hX (by decide +kernel) (mq mt_1 92 (by decide +kernel)) (by decide +kernel) (by decide +kernel) (by decide +kernel) (fun q347 μ348 y349 => ?_)
  refine J_ckP (fun h350 => ?_)
  refine J_pRf (pc := 938) hX hI (by decide +kernel) fl_Mo_62 (by intro r hr; cases hr; rfl) h350 rfl rfl rfl (fun y351 => ?_)
  refine J_aload_n (k0 := 0) (pc := 941) 0 hX (by decide +kernel) rfl rfl ?_
  refine J_bipush (pc := 942) (n := 32) (v := 32) hX (by decide +kernel) (by decide +kernel) ?_
  refine J_nwA (pc := 944) hX (by decide +kernel) (mq mt_1 92 (by decide +kernel)) (by decide +kernel) (by decide +kernel) (by decide +kernel) (fun q352 μ353 y354 => ?_)
  refine J_ckP (fun h355 => ?_)
  refine J_pRf (pc := 946) hX hI (by decide +kernel) fl_Mo_65 (by intro r hr; cases hr; rfl) h355 rfl rfl rfl (fun y356 => ?_)
  refine J_aload_n (k0 := 0) (pc := 949) 0 hX (by decide +kernel) rfl rfl ?_
  refine J_bipush (pc := 950) (n := 10) (v := 10) hX (by decide +kernel) (by decide +kernel) ?_
  refine J_nwA (pc := 952) hX (by decide +kernel) (mq mt_1 92 (by decide +kernel)) (by decide +kernel) (by decide +kernel) (by decide +kernel) (fun q357 μ358 y359 => ?_)
  refine J_ckP (fun h360 => ?_)
  refine J_pRf (pc := 954) hX hI (by decide +kernel) fl_Mo_68 (by intro r hr; cases hr; rfl) h360 rfl rfl rfl (fun y361 => ?_)
  refine J_aload_n (k0 := 0) (pc := 957) 0 hX (by decide +kernel) rfl rfl ?_
  refine J_sipush (pc := 958) (n := 420) (v := 420) hX (by decide +kernel) (by decide +kernel) ?_
  refine J_nwA (pc := 961) hX (by decide +kernel) (mq mt_1 92 (by decide +kernel)) (by decide +kernel) (by decide +kernel) (by decide +kernel) (fun q362 μ363 y364 => ?_)
  refine J_ckP (fun h365 => ?_)
  refine J_pRf (pc := 963) hX hI (by decide +kernel) fl_Mo_71 (by intro r hr; cases hr; rfl) h365 rfl rfl rfl (fun y366 => ?_)
  refine J_aload_n (k0 := 0) (pc := 966) 0 hX (by decide +kernel) rfl rfl ?_
  refine J_bipush (pc := 967) (n := 16) (v := 16) hX (by decide +kernel) (by decide +kernel) ?_
  refine J_nwA (pc := 969) hX (by decide +kernel) (mq mt_1 92 (by decide +kernel)) (by decide +kernel) (by decide +kernel) (by decide +kernel) (fun q367 μ368 y369 => ?_)
  refine J_ckP (fun h370 => ?_)
  refine J_pRf (pc := 971) hX hI (by decide +kernel) fl_Mo_74 (by intro r hr; cases hr; rfl) h370 rfl rfl rfl (fun y371 => ?_)
  refine J_aload_n (k0 := 0) (pc := 974) 0 hX (by decide +kernel) rfl rfl ?_
  refine J_bipush (pc := 975) (n := 8) (v := 8) hX (by decide +kernel) (by decide +kernel) ?_
  refine J_nwA (pc := 977) hX (by decide +kernel) (mq mt_1 92 (by decide +kernel)) (by decide +kernel) (by decide +kernel) (by decide +kernel) (fun q372 μ373 y374 => ?_)
  refine J_ckP (fun h375 => ?_)
  refine J_pRf (pc := 979) hX hI (by decide +kernel) fl_Mo_77 (by intro r hr; cases hr; rfl) h375 rfl rfl rfl (fun y376 => ?_)
  refine J_aload_n (k0 := 0) (pc := 982) 0 hX (by decide +kernel) rfl rfl ?_
  refine J_bipush (pc := 983) (n := 8) (v := 8) hX (by decide +kernel) (by decide +kernel) ?_
  refine J_nwA (pc := 985) hX (by decide +kernel) (mq mt_1 92 (by decide +kernel)) (by decide +kernel) (by decide +kernel) (by decide +kernel) (fun q377 μ378 y379 => ?_)
  refine J_ckP (fun h380 => ?_)
  refine J_pRf (pc := 987) hX hI (by decide +kernel) fl_Mo_80 (by intro r hr; cases hr; rfl) h380 rfl rfl rfl (fun y381 => ?_)
  refine J_aload_n (k0 := 0) (pc := 990) 0 hX (by decide +kernel) rfl rfl ?_
  refine J_bipush (pc := 991) (n := 6) (v := 6) hX (by decide +kernel) (by decide +kernel) ?_
  refine J_nwA (pc := 993) hX (by decide +kernel) (mq mt_1 92 (by decide +kernel)) (by decide +kernel) (by decide +kernel) (by decide +kernel) (fun q382 μ383 y384 => ?_)
  refine J_ckP (fun h385 => ?_)
  refine J_pRf (pc := 995) hX hI (by decide +kernel) fl_Mo_83 (by intro r hr; cases hr; rfl) h385 rfl rfl rfl (fun y386 => ?_)
  refine J_aload_n (k0 := 0) (pc := 998) 0 hX (by decide +kernel) rfl rfl ?_
  refine J_bipush (pc := 999) (n := 41) (v := 41) hX (by decide +kernel) (by decide +kernel) ?_
  refine J_nwA (pc := 1001) hX (by decide +kernel) (mq mt_1 92 (by decide +kernel)) (by decide +kernel) (by decide +kernel) (by decide +kernel) (fun q387 μ388 y389 => ?_)
  refine J_ckP (fun h390 => ?_)
  refine J_pRf (pc := 1003) hX hI (by decide +kernel) fl_Mo_86 (by intro r hr; cases hr; rfl) h390 rfl rfl rfl (fun y391 => ?_)
  refine J_aload_n (k0 := 0) (pc := 1006) 0 hX (by decide +kernel) rfl rfl ?_
  refine J_iconst (pc := 1007) (n := 2) (v := 2) hX (by decide +kernel) (by decide +kernel) ?_
  refine J_nwA (pc := 1008) hX (by decide +kernel) (mq mt_1 92 (by decide +kernel)) (by decide +kernel) (by decide +kernel) (by decide +kernel) (fun q392 μ393 y394 => ?_)
  refine J_ckP (fun h395 => ?_)
  refine J_pRf (pc := 1010) hX hI (by decide +kernel) fl_Mo_89 (by intro r hr; cases hr; rfl) h395 rfl rfl rfl (fun y396 => ?_)
  refine J_aload_n (k0 := 0) (pc := 1013) 0 hX (by decide +kernel) rfl rfl ?_
  refine J_bipush (pc := 1014) (n := 20) (v := 20) hX (by decide +kernel) (by decide +kernel) ?_
  refine J_nwA (pc := 1016) hX (by decide +kernel) (mq mt_1 92 (by decide +kernel)) (by decide +kernel) (by decide +kernel) (by decide +kernel) (fun q397 μ398 y399 => ?_)
  refine J_ckP (fun h400 => ?_)
  refine J_pRf (pc := 1018) hX hI (by decide +kernel) fl_Mo_92 (by intro r hr; cases hr; rfl) h400 rfl rfl rfl (fun y401 => ?_)
  refine J_aload_n (k0 := 0) (pc := 1021) 0 hX (by decide +kernel) rfl rfl ?_
  refine J_bipush (pc := 1022) (n := 121) (v := 121) hX (by decide +kernel) (by decide +kernel) ?_
  refine J_nwA (pc := 1024) hX (by decide +kernel) (mq mt_1 92 (by decide +kernel)) (by decide +kernel) (by decide +kernel) (by decide +kernel) (fun q402 μ403 y404 => ?_)
  refine J_ckP (fun h405 => ?_)
  refine J_pRf (pc := 1026) hX hI (by decide +kernel) fl_Mo_95 (by intro r hr; cases hr; rfl) h405 rfl rfl rfl (fun y406 => ?_)
  refine J_aload_n (k0 := 0) (pc := 1029) 0 hX (by decide +kernel) rfl rfl ?_
  refine J_bipush (pc := 1030) (n := 6) (v := 6) hX (by decide +kernel) (by decide +kernel) ?_
  refine J_nwA (pc := 1032) hX (by decide +kernel) (mq mt_1 92 (by decide +kernel)) (by decide +kernel) (by decide +kernel) (by decide +kernel) (fun q407 μ408 y409 => ?_)
  refine J_ckP (fun h410 => ?_)
  refine J_pRf (pc := 1034) hX hI (by decide +kernel) fl_Mo_98 (by intro r hr; cases hr; rfl) h410 rfl rfl rfl (fun y411 => ?_)
  refine J_aload_n (k0 := 0) (pc := 1037) 0 hX (by decide +kernel) rfl rfl ?_
  refine J_bipush (pc := 1038) (n := 32) (v := 32) hX (by decide +kernel) (by decide +kernel) ?_
  refine J_nwA (pc := 1040) hX (by decide +kernel) (mq mt_1 92 (by decide +kernel)) (by decide +kernel) (by decide +kernel) (by decide +kernel) (fun q412 μ413 y414 => ?_)
  refine J_ckP (fun h415 => ?_)
  refine J_pRf (pc := 1042) hX hI (by decide +kernel) fl_Mo_101 (by intro r hr; cases hr; rfl) h415 rfl rfl rfl (fun y416 => ?_)
  refine J_aload_n (k0 := 0) (pc := 1045) 0 hX (by decide +kernel) rfl rfl ?_
  refine J_bipush (pc := 1046) (n := 32) (v := 32) hX (by decide +kernel) (by decide +kernel) ?_
  refine J_nwA (pc := 1048) hX (by decide +kernel) (mq mt_1 92 (by decide +kernel)) (by decide +kernel) (by decide +kernel) (by decide +kernel) (fun q417 μ418 y419 => ?_)
  refine J_ckP (fun h420 => ?_)
  refine J_pRf (pc := 1050) hX hI (by decide +kernel) fl_Mo_104 (by intro r hr; cases hr; rfl) h420 rfl rfl rfl (fun y421 => ?_)
  refine J_aload_n (k0 := 0) (pc := 1053) 0 hX (by decide +kernel) rfl rfl ?_
  refine J_bipush (pc := 1054) (n := 6) (v := 6) hX (by decide +kernel) (by decide +kernel) ?_
  refine J_nwA (pc := 1056) hX (by decide +kernel) (mq mt_1 92 (by decide +kernel)) (by decide +kernel) (by decide +kernel) (by decide +kernel) (fun q422 μ423 y424 => ?_)
  refine J_ckP (fun h425 => ?_)
  refine J_pRf (pc := 1058) hX hI (by decide +kernel) fl_Mo_107 (by intro r hr; cases hr; rfl) h425 rfl rfl rfl (fun y426 => ?_)
  refine J_aload_n (k0 := 0) (pc := 1061) 0 hX (by decide +kernel) rfl rfl ?_
  refine J_sipush (pc := 1062) (n := 201) (v := 201) hX (by decide +kernel) (by decide +kernel) ?_
  refine J_nwA (pc := 1065) hX (by decide +kernel) (mq mt_1 92 (by decide +kernel)) (by decide +kernel) (by decide +kernel) (by decide +kernel) (fun q427 μ428 y429 => ?_)
  refine J_ckP (fun h430 => ?_)
  refine J_pRf (pc := 1067) hX hI (by decide +kernel) fl_Mo_110 (by intro r hr; cases hr; rfl) h430 rfl rfl rfl (fun y431 => ?_)
  refine J_aload_n (k0 := 0) (pc := 1070) 0 hX (by decide +kernel) rfl rfl ?_
  refine J_bipush (pc := 1071) (n := 8) (v := 8) hX (by decide +kernel) (by decide +kernel) ?_
  refine J_nwA (pc := 1073) hX (by decide +kernel) (mq mt_1 92 (by decide +kernel)) (by decide +kernel) (by decide +kernel) (by decide +kernel) (fun q432 μ433 y434 => ?_)
  refine J_ckP (fun h435 => ?_)
  refine J_pRf (pc := 1075) hX hI (by decide +kernel) fl_Mo_113 (by intro r hr; cases hr; rfl) h435 rfl rfl rfl (fun y436 => ?_)
  refine J_aload_n (k0 := 0) (pc := 1078) 0 hX (by decide +kernel) rfl rfl ?_
  refine J_bipush (pc := 1079) (n := 8) (v := 8) hX (by decide +kernel) (by decide +kernel) ?_
  refine J_nwA (pc := 1081) hX (by decide +kernel) (mq mt_1 92 (by decide +kernel)) (by decide +kernel) (by decide +kernel) (by decide +kernel) (fun q437 μ438 y439 => ?_)
  refine J_ckP (fun h440 => ?_)
  refine J_pRf (pc := 1083) hX hI (by decide +kernel) fl_Mo_116 (by intro r hr; cases hr; rfl) h440 rfl rfl rfl (fun y441 => ?_)
  refine J_aload_n (k0 := 0) (pc := 1086) 0 hX (by decide +kernel) rfl rfl ?_
  refine J_bipush (pc := 1087) (n := 8) (v := 8) hX (by decide +kernel) (by decide +kernel) ?_
  refine J_nwA (pc := 1089) hX (by decide +kernel) (mq mt_1 92 (by decide +kernel)) (by decide +kernel) (by decide +kernel) (by decide +kernel) (fun q442 μ443 y444 => ?_)
  refine J_ckP (fun h445 => ?_)
  refine J_pRf (pc := 1091) hX hI (by decide +kernel) fl_Mo_119 (by intro r hr; cases hr; rfl) h445 rfl rfl rfl (fun y446 => ?_)
  refine J_aload_n (k0 := 0) (pc := 1094) 0 hX (by decide +kernel) rfl rfl ?_
  refine J_bipush (pc := 1095) (n := 8) (v := 8) hX (by decide +kernel) (by decide +kernel) ?_
  refine J_nwA (pc := 1097) hX (by decide +kernel) (mq mt_1 92 (by decide +kernel)) (by decide +kernel) (by decide +kernel) (by decide +kernel) (fun q447 μ448 y449 => ?_)
  refine J_ckP (fun h450 => ?_)
  refine J_pRf (pc := 1099) hX hI (by decide +kernel) fl_Mo_122 (by intro r hr; cases hr; rfl) h450 rfl rfl rfl (fun y451 => ?_)
  refine J_aload_n (k0 := 0) (pc := 1102) 0 hX (by decide +kernel) rfl rfl ?_
  refine J_sipush (pc := 1103) (n := 301) (v := 301) hX (by decide +kernel) (by decide +kernel) ?_
  refine J_nwA (pc := 1106) hX (by decide +kernel) (mq mt_1 92 (by decide +kernel)) (by decide +kernel) (by decide +kernel) (by decide +kernel) (fun q452 μ453 y454 => ?_)
  refine J_ckP (fun h455 => ?_)
  refine J_pRf (pc := 1108) hX hI (by decide +kernel) fl_Mo_125 (by intro r hr; cases hr; rfl) h455 rfl rfl rfl (fun y456 => ?_)
  refine J_aload_n (k0 := 0) (pc := 1111) 0 hX (by decide +kernel) rfl rfl ?_
  refine J_sipush (pc := 1112) (n := 2200) (v := 2200) hX (by decide +kernel) (by decide +kernel) ?_
  refine J_nwA (pc := 1115) hX (by decide +kernel) (mq mt_1 92 (by decide +kernel)) (by decide +kernel) (by decide +kernel) (by decide +kernel) (fun q457 μ458 y459 => ?_)
  refine J_ckP (fun h460 => ?_)
  refine J_pRf (pc := 1117) hX hI (by decide +kernel) fl_Mo_128 (by intro r hr; cases hr; rfl) h460 rfl rfl rfl (fun y461 => ?_)
  exact J_vret (pc := 1120) hX (by decide +kernel) rfl trivial
set_option maxRecDepth 100000 in
set_option maxHeartbeats 4000000 in
theorem c_Mo_init {l : Launch} {G : Gx} (a : Nat)  (μ : Mu) (y : Ly) : Cm l G ⟨"SaltFiguresModel", "<init>", "()V"⟩ prog_13_method_1_code 1 none 4 [.ref (G.1 + a)] (μ, y) rvV (Mo_init a  μ y) := cm_of (by decide +kernel) (Nat.le_of_ble_eq_true rfl) (fun X hX hI => jMo_init hX (hI rfl)  μ y)
set_option maxRecDepth 100000 in
noncomputable def Sf_keptAt_13 (a : Nat)      (μ : Mu) (y : Ly) : Option (Nat × Mm) := ckP (LySf y a) (ckP (LySf y a) (some (a + 1 + 1, (μ, y))))
set_option maxRecDepth 100000 in
noncomputable def Sf_keptAt_44 (a : Nat)    (v1 : Int32)  (μ : Mu) (y : Ly) : Option (Nat × Mm) := ckP (LySf y a) (ckP (LySf y a) (ldR y (a + 58) 6 v1 (none) (fun q2 => some (q2, (μ, y)))))
set_option maxRecDepth 100000 in
noncomputable def Sf_keptAt (a : Nat) (v1 : Int32) (μ : Mu) (y : Ly) : Option (Nat × Mm) := (if v1 < 0 then Sf_keptAt_13 a μ y else ckP (LySf y a) (ckP (LySf y a) ((if v1 < 6 then ckP (LySf y a) (ckP (LySf y a) (ldR y (a + 58) 6 v1 (ckP (LySf y a) (nwK μ y 3 10 (fun q7 μ8 y9 => clm y9 (Fg_init q7 0 μ8 y9) (fun _ μ10 y11 => ckP (LySf y11 a) (ckP (y11.2[q7]? = some (3, 10)) (stR y11 (a + 58) 6 v1 q7 (fun y14 => Sf_keptAt_44 a v1 μ10 y14))))))) (fun q4 => Sf_keptAt_44 a v1 μ y))) else Sf_keptAt_13 a μ y))))
set_option maxRecDepth 100000 in
set_option maxHeartbeats 4000000 in
theorem jSf_keptAt_13 {X : Cx} {l : Launch} {G : Gx} {y0 : Ly} {a : Nat}  (hX : Ok X l G prog_1_method_45_code 2 (some (.object "SaltFigures$Figures")) "SaltFigures")        (μ : Mu) (y : Ly) : J X G 2 5 y0 id (rvA G) tpT 13 [(0, .ref (G.1 + a))] [] (μ, y) (Sf_keptAt_13 a      μ y) := by
  unfold Sf_keptAt_13
  refine J_aload_n (k0 := 0) (pc := 13) 0 hX (by decide +kernel) rfl rfl ?_
  refine J_ckP (fun h1 => ?_)
  refine J_gr (pc := 14) hX (by decide +kernel) fl_Sf_12 h1.1 rfl h1.2.1.1 ?_
  refine J_ckP (fun h2 => ?_)
  refine J_gr (pc := 17) hX (by decide +kernel) fl_Sf_58 h2.2.1.2.1 rfl h2.2.1.2.2.1.1 ?_
  exact J_aret (pc := 20) hX (by decide +kernel) rfl trivial
set_option maxRecDepth 100000 in
set_option maxHeartbeats 4000000 in
theorem jSf_keptAt_44 {X : Cx} {l : Launch} {G : Gx} {y0 : Ly} {a : Nat}  (hX : Ok X l G prog_1_method_45_code 2 (some (.object "SaltFigures$Figures")) "SaltFigures")    (v1 : Int32)    (μ : Mu) (y : Ly) : J X G 2 5 y0 id (rvA G) tpT 44 [(0, .ref (G.1 + a)), (1, .int v1)] [] (μ, y) (Sf_keptAt_44 a    v1  μ y) := by
  unfold Sf_keptAt_44
  refine J_aload_n (k0 := 0) (pc := 44) 0 hX (by decide +kernel) rfl rfl ?_
  refine J_ckP (fun h1 => ?_)
  refine J_gr (pc := 45) hX (by decide +kernel) fl_Sf_54 h1.1 rfl h1.2.2.2.2.2.2.1.1 ?_
  refine J_iload_n (k0 := 1) (pc := 48) 1 hX (by decide +kernel) rfl rfl ?_
  refine J_ckP (fun h3 => ?_)
  refine J_aaldM (pc := 49) hX (by decide +kernel) h3.2.2.2.2.2.2.1.2 ?_ (fun q2 => ?_)
  · exact J_none
  · exact J_aret (pc := 50) hX (by decide +kernel) rfl trivial
set_option maxRecDepth 100000 in
set_option maxHeartbeats 4000000 in
theorem jSf_keptAt {X : Cx} {l : Launch} {G : Gx} {y0 : Ly} {a : Nat}  (hX : Ok X l G prog_1_method_45_code 2 (some (.object "SaltFigures$Figures")) "SaltFigures")  (v1 : Int32) (μ : Mu) (y : Ly) : J X G 2 5 y0 id (rvA G) tpT 0 [(0, .ref (G.1 + a)), (1, .int v1)] [] (μ, y) (Sf_keptAt a v1 μ y) := by
  unfold Sf_keptAt
  refine J_iload_n (k0 := 1) (pc := 0) 1 hX (by decide +kernel) rfl rfl ?_
  refine J_if_lt (pc := 1) (off := 12) (tgt := 13) hX (by decide +kernel) (by decide +kernel) (fun _ => ?_) (fun _ => ?_)
  · exact J_sub [0] _ rfl (jSf_keptAt_13 hX μ y)
  · refine J_iload_n (k0 := 1) (pc := 4) 1 hX (by decide +kernel) rfl rfl ?_
    refine J_aload_n (k0 := 0) (pc := 5) 0 hX (by decide +kernel) rfl rfl ?_
    refine J_ckP (fun h1 => ?_)
    refine J_gr (pc := 6) hX (by decide +kernel) fl_Sf_54 h1.1 rfl h1.2.2.2.2.2.2.1.1 ?_
    refine J_ckP (fun h2 => ?_)
    refine J_alenR (pc := 9) hX (by decide +kernel) h2.2.2.2.2.2.2.1.2 (v := 6) (by decide +kernel) ?_
    refine J_icmp_lt (pc := 10) (off := 11) (tgt := 21) hX (by decide +kernel) (by decide +kernel) (fun _ => ?_) (fun _ => ?_)
    · refine J_aload_n (k0 := 0) (pc := 21) 0 hX (by decide +kernel) rfl rfl ?_
      refine J_ckP (fun h3 => ?_)
      refine J_gr (pc := 22) hX (by decide +kernel) fl_Sf_54 h3.1 rfl h3.2.2.2.2.2.2.1.1 ?_
      refine J_iload_n (k0 := 1) (pc := 25) 1 hX (by decide +kernel) rfl rfl ?_
      refine J_ckP (fun h5 => ?_)
      refine J_aaldM (pc := 26) hX (by decide +kernel) h5.2.2.2.2.2.2.1.2 ?_ (fun q4 => ?_)
      · refine J_ifnonnullN (pc := 27) (off := 17) hX (by decide +kernel) ?_
        refine J_aload_n (k0 := 0) (pc := 30) 0 hX (by decide +kernel) rfl rfl ?_
        refine J_ckP (fun h6 => ?_)
        refine J_gr (pc := 31) hX (by decide +kernel) fl_Sf_54 h6.1 rfl h6.2.2.2.2.2.2.1.1 ?_
        refine J_iload_n (k0 := 1) (pc := 34) 1 hX (by decide +kernel) rfl rfl ?_
        refine J_nwC (pc := 35) (idx := 25) (ci := 1) (C := "SaltFigures$Figures") (T := TX1) (N := 10) hX (by decide +kernel) (mq mt_2 34 (by decide +kernel)) (mq mt_1 37 (by decide +kernel)) (mq mt_1 3 (by decide +kernel)) rfl df_Fg (fun q7 μ8 y9 => ?_)
        refine J_dup (pc := 38) hX (by decide +kernel) rfl ?_
        refine J_iconst (pc := 39) (n := 0) (v := 0) hX (by decide +kernel) (by decide +kernel) ?_
        refine J_cIm (pc := 40) (idx := 27) [.int 0] hX (by decide +kernel) (Or.inl (mq mt_2 35 (by decide +kernel))) mc_Fg_init rfl rfl (Nat.le_of_ble_eq_true rfl) (Nat.le_of_ble_eq_true rfl) (c_Fg_init q7 0 μ8 y9) (fun μ10 y11 => ?_)
        refine J_ckP (fun h12 => ?_)
        refine J_ckP (fun h13 => ?_)
        refine J_aastM (pc := 43) hX (by decide +kernel) h12.2.2.2.2.2.2.1.2 h13 (fun y14 => ?_)
        exact J_sub [0, 1] _ rfl (jSf_keptAt_44 hX v1 μ10 y14)
      · refine J_ifnonnullR (pc := 27) (off := 17) (tgt := 44) hX (by decide +kernel) (by decide +kernel) ?_
        exact J_sub [0, 1] _ rfl (jSf_keptAt_44 hX v1 μ y)
    · exact J_sub [0] _ rfl (jSf_keptAt_13 hX μ y)
set_option maxRecDepth 100000 in
set_option maxHeartbeats 4000000 in
theorem c_Sf_keptAt {l : Launch} {G : Gx} (a : Nat) (v1 : Int32) (μ : Mu) (y : Ly) : Cm l G ⟨"SaltFigures", "keptAt", "(I)LSaltFigures$Figures;"⟩ prog_1_method_45_code 2 (some (.object "SaltFigures$Figures")) 5 [.ref (G.1 + a), .int v1] (μ, y) (rvA G) (Sf_keptAt a v1 μ y) := cm_of (by decide +kernel) (Nat.le_of_ble_eq_true rfl) (fun X hX hI => jSf_keptAt hX  v1 μ y)
set_option maxRecDepth 100000 in
noncomputable def Sf_keep (a : Nat)  (μ : Mu) (y : Ly) : Option (Unit × Mm) := ckP (LySf y a) (gF μ a 7 (fun x2 => ckP (LySf y a) (clm y (Sf_keptAt a x2 μ y) (fun x5 μ3 y4 => ckP (LySf y4 a) (ckP (LySf y4 a) (ckP (LyFg y4 x5) (ckP (LySf y4 a) (cl (Fg_copyFrom x5 (a + 1 + 1) μ3) (fun _ μ11 => ckP (LySf y4 a) (gF μ11 a 7 (fun x13 => ckP (LySf y4 a) (pF μ11 a 7 (jrem (x13 + 1) 6) (fun μ15 => ckP (LySf y4 a) (gF μ15 a 8 (fun x17 => ckP (LySf y4 a) (pF μ15 a 8 (jmin (x17 + 1) 6) (fun μ19 => some ((), (μ19, y4)))))))))))))))))))
set_option maxRecDepth 100000 in
set_option maxHeartbeats 4000000 in
theorem jSf_keep {X : Cx} {l : Launch} {G : Gx} {y0 : Ly} {a : Nat}  (hX : Ok X l G prog_1_method_44_code 1 none "SaltFigures")   (μ : Mu) (y : Ly) : J X G 1 6 y0 id rvV tpT 0 [(0, .ref (G.1 + a))] [] (μ, y) (Sf_keep a  μ y) := by
  unfold Sf_keep
  refine J_aload_n (k0 := 0) (pc := 0) 0 hX (by decide +kernel) rfl rfl ?_
  refine J_aload_n (k0 := 0) (pc := 1) 0 hX (by decide +kernel) rfl rfl ?_
  refine J_ckP (fun h1 => ?_)
  refine J_gF (pc := 2) hX (by decide +kernel) fl_Sf_362 h1.1 rfl (fun x2 => ?_)
  refine J_ckP (fun h6 => ?_)
  refine J_cVm (pc := 5) (idx := 365) [.int x2] hX (by decide +kernel) (mq mt_2 189 (by decide +kernel)) mv_Sf_keptAt h6.1 rfl rfl (Nat.le_of_ble_eq_true rfl) (Nat.le_of_ble_eq_true rfl) (c_Sf_keptAt a x2 μ y) (fun x5 μ3 y4 => ?_)
  refine J_aload_n (k0 := 0) (pc := 8) 0 hX (by decide +kernel) rfl rfl ?_
  refine J_ckP (fun h7 => ?_)
  refine J_gr (pc := 9) hX (by decide +kernel) fl_Sf_12 h7.1 rfl h7.2.1.1 ?_
  refine J_ckP (fun h8 => ?_)
  refine J_gr (pc := 12) hX (by decide +kernel) fl_Sf_58 h8.2.1.2.1 rfl h8.2.1.2.2.1.1 ?_
  refine J_ckP (fun h9 => ?_)
  refine J_ckP (fun h10 => ?_)
  refine J_cVv (pc := 15) (idx := 196) [.ref (G.1 + (a + 1 + 1))] hX (by decide +kernel) (mq mt_2 193 (by decide +kernel)) mv_Fg_copyFrom h9.1 rfl rfl (Nat.le_of_ble_eq_true rfl) (Nat.le_of_ble_eq_true rfl) (c_Fg_copyFrom h9 h10.2.1.2.2.1.2 μ3) (fun μ11 => ?_)
  refine J_aload_n (k0 := 0) (pc := 18) 0 hX (by decide +kernel) rfl rfl ?_
  refine J_aload_n (k0 := 0) (pc := 19) 0 hX (by decide +kernel) rfl rfl ?_
  refine J_ckP (fun h12 => ?_)
  refine J_gF (pc := 20) hX (by decide +kernel) fl_Sf_362 h12.1 rfl (fun x13 => ?_)
  refine J_iconst (pc := 23) (n := 1) (v := 1) hX (by decide +kernel) (by decide +kernel) ?_
  refine J_iadd (pc := 24) hX (by decide +kernel) ?_
  refine J_bipush (pc := 25) (n := 6) (v := 6) hX (by decide +kernel) (by decide +kernel) ?_
  refine J_iremK (pc := 27) hX (by decide +kernel) (by decide +kernel) ?_
  refine J_ckP (fun h14 => ?_)
  refine J_pF (pc := 28) hX (by decide +kernel) fl_Sf_362 h14.1 rfl (fun μ15 => ?_)
  refine J_aload_n (k0 := 0) (pc := 31) 0 hX (by decide +kernel) rfl rfl ?_
  refine J_aload_n (k0 := 0) (pc := 32) 0 hX (by decide +kernel) rfl rfl ?_
  refine J_ckP (fun h16 => ?_)
  refine J_gF (pc := 33) hX (by decide +kernel) fl_Sf_359 h16.1 rfl (fun x17 => ?_)
  refine J_iconst (pc := 36) (n := 1) (v := 1) hX (by decide +kernel) (by decide +kernel) ?_
  refine J_iadd (pc := 37) hX (by decide +kernel) ?_
  refine J_bipush (pc := 38) (n := 6) (v := 6) hX (by decide +kernel) (by decide +kernel) ?_
  refine J_mmin (pc := 40) (idx := 209) hX (by decide +kernel) (mq mt_2 200 (by decide +kernel)) (Nat.le_of_ble_eq_true rfl) (Nat.le_of_ble_eq_true rfl) ?_
  refine J_ckP (fun h18 => ?_)
  refine J_pF (pc := 43) hX (by decide +kernel) fl_Sf_359 h18.1 rfl (fun μ19 => ?_)
  exact J_vret (pc := 46) hX (by decide +kernel) rfl trivial
set_option maxRecDepth 100000 in
set_option maxHeartbeats 4000000 in
theorem c_Sf_keep {l : Launch} {G : Gx} (a : Nat)  (μ : Mu) (y : Ly) : Cm l G ⟨"SaltFigures", "keep", "()V"⟩ prog_1_method_44_code 1 none 6 [.ref (G.1 + a)] (μ, y) rvV (Sf_keep a  μ y) := cm_of (by decide +kernel) (Nat.le_of_ble_eq_true rfl) (fun X hX hI => jSf_keep hX   μ y)
set_option maxRecDepth 100000 in
noncomputable def Sf_act (a : Nat) (v1 : Int32) (v2 : Int32) (v3 : Int32) (μ : Mu) (y : Ly) : Option (Int32 × Mm) := ckP (LySf y a) (ckP (LySf y a) (ckP (LySf y a) (cl (Sf_canAct a v1 v2 v3 μ) (fun x5 μ4 => (if x5 = 0 then some (0, (μ4, y)) else ckP (LySf y a) (clm y (Sf_keep a μ4 y) (fun _ μ6 y7 => (if v1 = 0 then ckP (LySf y7 a) (ckP (LySf y7 a) (ckP (LySf y7 a) (cl (Dy_spill (a + 39) (a + 1) (a + 1 + 1) v2 μ6) (fun _ μ13 => some (1, (μ13, y7)))))) else (if v1 = 1 then ckP (LySf y7 a) (cl (Fg_sit (a + 1 + 1) v2 v3 μ6) (fun _ μ15 => some (1, (μ15, y7)))) else (if v1 = 2 then ckP (LySf y7 a) (cl (Fg_rise (a + 1 + 1) v2 μ6) (fun _ μ17 => some (1, (μ17, y7)))) else (if v1 = 3 then ckP (LySf y7 a) (ckP (LySf y7 a) (ckP (LySf y7 a) (cl (Dy_sweep (a + 39) (a + 1) (a + 1 + 1) v2 μ6) (fun _ μ21 => some (1, (μ21, y7)))))) else ckP (LySf y7 a) (ckP (LySf y7 a) (ckP (LySf y7 a) (cl (Dy_die (a + 39) (a + 1) (a + 1 + 1) v2 μ6) (fun _ μ25 => some (1, (μ25, y7)))))))))))))))))
set_option maxRecDepth 100000 in
set_option maxHeartbeats 4000000 in
theorem jSf_act {X : Cx} {l : Launch} {G : Gx} {y0 : Ly} {a : Nat}  (hX : Ok X l G prog_1_method_5_code 5 (some .boolean) "SaltFigures")  (v1 : Int32) (v2 : Int32) (v3 : Int32) (μ : Mu) (y : Ly) : J X G 5 7 y0 id rvI tpT 0 [(0, .ref (G.1 + a)), (1, .int v1), (2, .int v2), (3, .int v3)] [] (μ, y) (Sf_act a v1 v2 v3 μ y) := by
  unfold Sf_act
  refine J_aload_n (k0 := 0) (pc := 0) 0 hX (by decide +kernel) rfl rfl ?_
  refine J_ckP (fun h1 => ?_)
  refine J_gr (pc := 1) hX (by decide +kernel) fl_Sf_12 h1.1 rfl h1.2.1.1 ?_
  refine J_ckP (fun h2 => ?_)
  refine J_gr (pc := 4) hX (by decide +kernel) fl_Sf_58 h2.2.1.2.1 rfl h2.2.1.2.2.1.1 ?_
  refine J_astore (pc := 7) [(4, .ref (G.1 + (a + 1 + 1))), (0, .ref (G.1 + a)), (1, .int v1), (2, .int v2), (3, .int v3)] hX (by decide +kernel) (by decide) rfl ?_
  refine J_aload_n (k0 := 0) (pc := 9) 1 hX (by decide +kernel) rfl rfl ?_
  refine J_iload_n (k0 := 1) (pc := 10) 2 hX (by decide +kernel) rfl rfl ?_
  refine J_iload_n (k0 := 2) (pc := 11) 3 hX (by decide +kernel) rfl rfl ?_
  refine J_iload_n (k0 := 3) (pc := 12) 4 hX (by decide +kernel) rfl rfl ?_
  refine J_ckP (fun h3 => ?_)
  refine J_cVi (pc := 13) (idx := 90) [.int v1, .int v2, .int v3] hX (by decide +kernel) (mq mt_2 176 (by decide +kernel)) mv_Sf_canAct h3.1 rfl rfl (Nat.le_of_ble_eq_true rfl) (Nat.le_of_ble_eq_true rfl) (c_Sf_canAct h3 v1 v2 v3 μ) (fun x5 μ4 => ?_)
  refine J_if_ne (pc := 16) (off := 5) (tgt := 21) hX (by decide +kernel) (by decide +kernel) (fun _ => ?_) (fun _ => ?_)
  · refine J_aload_n (k0 := 0) (pc := 21) 1 hX (by decide +kernel) rfl rfl ?_
    refine J_ckP (fun h9 => ?_)
    refine J_cVm (pc := 22) (idx := 93) [] hX (by decide +kernel) (mq mt_2 185 (by decide +kernel)) mv_Sf_keep h9.1 rfl rfl (Nat.le_of_ble_eq_true rfl) (Nat.le_of_ble_eq_true rfl) (c_Sf_keep a μ4 y) (fun x8 μ6 y7 => ?_)
    refine J_iload_n (k0 := 1) (pc := 25) 2 hX (by decide +kernel) rfl rfl ?_
    refine J_ite _ (fun hc0 => ?_) (fun hc0 => ?_)
    · refine J_tsIn (pc := 26) (dflt := 75) (lo := 0) (hi := 3) (offs := #[30, 43, 53, 62]) (len := 30) (off := 30) (tgt := 56) 0 hc0 hX (by decide +kernel) (by decide +kernel) (by decide +kernel) (by decide +kernel) (by decide +kernel) ?_
      refine J_aload_n (k0 := 0) (pc := 56) 1 hX (by decide +kernel) rfl rfl ?_
      refine J_ckP (fun h10 => ?_)
      refine J_gr (pc := 57) hX (by decide +kernel) fl_Sf_21 h10.1 rfl h10.2.2.1.1 ?_
      refine J_aload (pc := 60) 0 hX (by decide +kernel) rfl ?_
      refine J_iload_n (k0 := 2) (pc := 62) 3 hX (by decide +kernel) rfl rfl ?_
      refine J_ckP (fun h11 => ?_)
      refine J_ckP (fun h12 => ?_)
      refine J_cVv (pc := 63) (idx := 96) [.ref (G.1 + (a + 1 + 1)), .int v2] hX (by decide +kernel) (mq mt_2 203 (by decide +kernel)) mv_Dy_spill h11.2.2.1.2.1 rfl rfl (Nat.le_of_ble_eq_true rfl) (Nat.le_of_ble_eq_true rfl) (c_Dy_spill h11.2.2.1.2 h12.2.1.2.2.1.2 v2 μ6) (fun μ13 => ?_)
      refine J_goto (pc := 66) (off := 45) (tgt := 111) hX (by decide +kernel) (by decide +kernel) ?_
      refine J_iconst (pc := 111) (n := 1) (v := 1) hX (by decide +kernel) (by decide +kernel) ?_
      exact J_zret (pc := 112) hX (by decide +kernel) rfl (by decide +kernel) trivial
    · refine J_ite _ (fun hc1 => ?_) (fun hc1 => ?_)
      · refine J_tsIn (pc := 26) (dflt := 75) (lo := 0) (hi := 3) (offs := #[30, 43, 53, 62]) (len := 30) (off := 43) (tgt := 69) 1 hc1 hX (by decide +kernel) (by decide +kernel) (by decide +kernel) (by decide +kernel) (by decide +kernel) ?_
        refine J_aload (pc := 69) 0 hX (by decide +kernel) rfl ?_
        refine J_iload_n (k0 := 2) (pc := 71) 3 hX (by decide +kernel) rfl rfl ?_
        refine J_iload_n (k0 := 3) (pc := 72) 4 hX (by decide +kernel) rfl rfl ?_
        refine J_ckP (fun h14 => ?_)
        refine J_cVv (pc := 73) (idx := 100) [.int v2, .int v3] hX (by decide +kernel) (mq mt_3 12 (by decide +kernel)) mv_Fg_sit h14.2.1.2.2.1.2.1 rfl rfl (Nat.le_of_ble_eq_true rfl) (Nat.le_of_ble_eq_true rfl) (c_Fg_sit h14.2.1.2.2.1.2 v2 v3 μ6) (fun μ15 => ?_)
        refine J_goto (pc := 76) (off := 35) (tgt := 111) hX (by decide +kernel) (by decide +kernel) ?_
        refine J_iconst (pc := 111) (n := 1) (v := 1) hX (by decide +kernel) (by decide +kernel) ?_
        exact J_zret (pc := 112) hX (by decide +kernel) rfl (by decide +kernel) trivial
      · refine J_ite _ (fun hc2 => ?_) (fun hc2 => ?_)
        · refine J_tsIn (pc := 26) (dflt := 75) (lo := 0) (hi := 3) (offs := #[30, 43, 53, 62]) (len := 30) (off := 53) (tgt := 79) 2 hc2 hX (by decide +kernel) (by decide +kernel) (by decide +kernel) (by decide +kernel) (by decide +kernel) ?_
          refine J_aload (pc := 79) 0 hX (by decide +kernel) rfl ?_
          refine J_iload_n (k0 := 2) (pc := 81) 3 hX (by decide +kernel) rfl rfl ?_
          refine J_ckP (fun h16 => ?_)
          refine J_cVv (pc := 82) (idx := 104) [.int v2] hX (by decide +kernel) (mq mt_3 16 (by decide +kernel)) mv_Fg_rise h16.2.1.2.2.1.2.1 rfl rfl (Nat.le_of_ble_eq_true rfl) (Nat.le_of_ble_eq_true rfl) (c_Fg_rise h16.2.1.2.2.1.2 v2 μ6) (fun μ17 => ?_)
          refine J_goto (pc := 85) (off := 26) (tgt := 111) hX (by decide +kernel) (by decide +kernel) ?_
          refine J_iconst (pc := 111) (n := 1) (v := 1) hX (by decide +kernel) (by decide +kernel) ?_
          exact J_zret (pc := 112) hX (by decide +kernel) rfl (by decide +kernel) trivial
        · refine J_ite _ (fun hc3 => ?_) (fun hc3 => ?_)
          · refine J_tsIn (pc := 26) (dflt := 75) (lo := 0) (hi := 3) (offs := #[30, 43, 53, 62]) (len := 30) (off := 62) (tgt := 88) 3 hc3 hX (by decide +kernel) (by decide +kernel) (by decide +kernel) (by decide +kernel) (by decide +kernel) ?_
            refine J_aload_n (k0 := 0) (pc := 88) 1 hX (by decide +kernel) rfl rfl ?_
            refine J_ckP (fun h18 => ?_)
            refine J_gr (pc := 89) hX (by decide +kernel) fl_Sf_21 h18.1 rfl h18.2.2.1.1 ?_
            refine J_aload (pc := 92) 0 hX (by decide +kernel) rfl ?_
            refine J_iload_n (k0 := 2) (pc := 94) 3 hX (by decide +kernel) rfl rfl ?_
            refine J_ckP (fun h19 => ?_)
            refine J_ckP (fun h20 => ?_)
            refine J_cVv (pc := 95) (idx := 108) [.ref (G.1 + (a + 1 + 1)), .int v2] hX (by decide +kernel) (mq mt_3 20 (by decide +kernel)) mv_Dy_sweep h19.2.2.1.2.1 rfl rfl (Nat.le_of_ble_eq_true rfl) (Nat.le_of_ble_eq_true rfl) (c_Dy_sweep h19.2.2.1.2 h20.2.1.2.2.1.2 v2 μ6) (fun μ21 => ?_)
            refine J_goto (pc := 98) (off := 13) (tgt := 111) hX (by decide +kernel) (by decide +kernel) ?_
            refine J_iconst (pc := 111) (n := 1) (v := 1) hX (by decide +kernel) (by decide +kernel) ?_
            exact J_zret (pc := 112) hX (by decide +kernel) rfl (by decide +kernel) trivial
          · refine J_tsOut (pc := 26) (dflt := 75) (lo := 0) (hi := 3) (offs := #[30, 43, 53, 62]) (len := 30) (tgt := 101) hX (by decide +kernel) (by simp only [i32_eq] at hc0 hc1 hc2 hc3; have q0 : ((0 : Int32)).toInt = 0 := (by decide +kernel) ; have q1 : ((1 : Int32)).toInt = 1 := (by decide +kernel) ; have q2 : ((2 : Int32)).toInt = 2 := (by decide +kernel) ; have q3 : ((3 : Int32)).toInt = 3 := (by decide +kernel); omega) (by decide +kernel) ?_
            refine J_aload_n (k0 := 0) (pc := 101) 1 hX (by decide +kernel) rfl rfl ?_
            refine J_ckP (fun h22 => ?_)
            refine J_gr (pc := 102) hX (by decide +kernel) fl_Sf_21 h22.1 rfl h22.2.2.1.1 ?_
            refine J_aload (pc := 105) 0 hX (by decide +kernel) rfl ?_
            refine J_iload_n (k0 := 2) (pc := 107) 3 hX (by decide +kernel) rfl rfl ?_
            refine J_ckP (fun h23 => ?_)
            refine J_ckP (fun h24 => ?_)
            refine J_cVv (pc := 108) (idx := 111) [.ref (G.1 + (a + 1 + 1)), .int v2] hX (by decide +kernel) (mq mt_3 25 (by decide +kernel)) mv_Dy_die h23.2.2.1.2.1 rfl rfl (Nat.le_of_ble_eq_true rfl) (Nat.le_of_ble_eq_true rfl) (c_Dy_die h23.2.2.1.2 h24.2.1.2.2.1.2 v2 μ6) (fun μ25 => ?_)
            refine J_iconst (pc := 111) (n := 1) (v := 1) hX (by decide +kernel) (by decide +kernel) ?_
            exact J_zret (pc := 112) hX (by decide +kernel) rfl (by decide +kernel) trivial
  · refine J_iconst (pc := 19) (n := 0) (v := 0) hX (by decide +kernel) (by decide +kernel) ?_
    exact J_zret (pc := 20) hX (by decide +kernel) rfl (by decide +kernel) trivial
set_option maxRecDepth 100000 in
set_option maxHeartbeats 4000000 in
theorem c_Sf_act {l : Launch} {G : Gx} (a : Nat) (v1 : Int32) (v2 : Int32) (v3 : Int32) (μ : Mu) (y : Ly) : Cm l G ⟨"SaltFigures", "act", "(III)Z"⟩ prog_1_method_5_code 5 (some .boolean) 7 [.ref (G.1 + a), .int v1, .int v2, .int v3] (μ, y) rvI (Sf_act a v1 v2 v3 μ y) := cm_of (by decide +kernel) (Nat.le_of_ble_eq_true rfl) (fun X hX hI => jSf_act hX  v1 v2 v3 μ y)
set_option maxRecDepth 100000 in
noncomputable def Sf_days_37b (a : Nat)   (kb37 : Int32 → Int32 → Mu → Ly → Option (Int32 × Mm)) (v1 : Int32) (v3 : Int32) (v4 : Int32)  (μ : Mu) (y : Ly) : Option (Int32 × Mm) := (if v1 ≤ v4 then some (v3, (μ, y)) else ckP (LySf y a) (clm y (Sf_keep a μ y) (fun _ μ1 y2 => ckP (LySf y2 a) (ckP (LySf y2 a) (ckP (LySf y2 a) (cl (Dy_goBy (a + 39) (a + 1) (a + 1 + 1) μ1) (fun x9 μ8 => kb37 (v3 + x9) (v4 + 1) μ8 y2)))))))
set_option maxRecDepth 100000 in
noncomputable def Sf_days_37 (a : Nat)   (v1 : Int32) (fu : Nat) : Int32 → Int32 → Mu → Ly → Option (Int32 × Mm) := lp (fun kb => Sf_days_37b a   kb v1) (fun _ _ _ _ => none) fu
set_option maxRecDepth 100000 in
noncomputable def Sf_days (a : Nat) (v1 : Int32) (μ : Mu) (y : Ly) : Option (Int32 × Mm) := ckP (LySf y a) (ckP (LySf y a) (cl (Sf_within v1 1 60 μ) (fun x4 μ3 => (if x4 = 0 then some ((-1), (μ3, y)) else ckP (LySf y a) (gF μ3 (a + 1 + 1) 7 (fun x6 => (if (x6 + v1) ≤ 9999 then Sf_days_37 a v1 FU 0 0 μ3 y else some ((-1), (μ3, y)))))))))
set_option maxRecDepth 100000 in
set_option maxHeartbeats 4000000 in
theorem jSf_days_37b {X : Cx} {l : Launch} {G : Gx} {y0 : Ly} {a : Nat}  (hX : Ok X l G prog_1_method_7_code 5 (some .int) "SaltFigures")   (v1 : Int32)  {kb37 : Int32 → Int32 → Mu → Ly → Option (Int32 × Mm)}  (hk37 : ∀ (v3 : Int32) (v4 : Int32) (μ : Mu) (y : Ly), J X G 5 8 y0 id rvI tpT 37 [(0, .ref (G.1 + a)), (1, .int v1), (2, .ref (G.1 + (a + 1 + 1))), (3, .int v3), (4, .int v4)] [] (μ, y) (kb37 v3 v4 μ y)) (v3 : Int32) (v4 : Int32)  (μ : Mu) (y : Ly) : J X G 5 8 y0 id rvI tpT 37 [(0, .ref (G.1 + a)), (1, .int v1), (2, .ref (G.1 + (a + 1 + 1))), (3, .int v3), (4, .int v4)] [] (μ, y) (Sf_days_37b a   kb37 v1 v3 v4  μ y) := by
  unfold Sf_days_37b
  refine J_iload (pc := 37) 4 hX (by decide +kernel) rfl ?_
  refine J_iload_n (k0 := 1) (pc := 39) 1 hX (by decide +kernel) rfl rfl ?_
  refine J_icmp_ge (pc := 40) (off := 24) (tgt := 64) hX (by decide +kernel) (by decide +kernel) (fun _ => ?_) (fun _ => ?_)
  · refine J_iload_n (k0 := 3) (pc := 64) 3 hX (by decide +kernel) rfl rfl ?_
    exact J_iret (pc := 65) hX (by decide +kernel) rfl trivial
  · refine J_aload_n (k0 := 0) (pc := 43) 0 hX (by decide +kernel) rfl rfl ?_
    refine J_ckP (fun h4 => ?_)
    refine J_cVm (pc := 44) (idx := 93) [] hX (by decide +kernel) (mq mt_2 185 (by decide +kernel)) mv_Sf_keep h4.1 rfl rfl (Nat.le_of_ble_eq_true rfl) (Nat.le_of_ble_eq_true rfl) (c_Sf_keep a μ y) (fun x3 μ1 y2 => ?_)
    refine J_iload_n (k0 := 3) (pc := 47) 3 hX (by decide +kernel) rfl rfl ?_
    refine J_aload_n (k0 := 0) (pc := 48) 0 hX (by decide +kernel) rfl rfl ?_
    refine J_ckP (fun h5 => ?_)
    refine J_gr (pc := 49) hX (by decide +kernel) fl_Sf_21 h5.1 rfl h5.2.2.1.1 ?_
    refine J_aload_n (k0 := 2) (pc := 52) 2 hX (by decide +kernel) rfl rfl ?_
    refine J_ckP (fun h6 => ?_)
    refine J_ckP (fun h7 => ?_)
    refine J_cVi (pc := 53) (idx := 124) [.ref (G.1 + (a + 1 + 1))] hX (by decide +kernel) (mq mt_3 39 (by decide +kernel)) mv_Dy_goBy h6.2.2.1.2.1 rfl rfl (Nat.le_of_ble_eq_true rfl) (Nat.le_of_ble_eq_true rfl) (c_Dy_goBy h6.2.2.1.2 h7.2.1.2.2.1.2 μ1) (fun x9 μ8 => ?_)
    refine J_iadd (pc := 56) hX (by decide +kernel) ?_
    refine J_istore_n (k0 := 3) (pc := 57) [(3, .int (v3 + x9)), (0, .ref (G.1 + a)), (1, .int v1), (2, .ref (G.1 + (a + 1 + 1))), (4, .int v4)] hX (by decide +kernel) rfl (by decide) rfl ?_
    refine J_iinc (pc := 58) (n := 1) 4 [(4, .int (v4 + 1)), (3, .int (v3 + x9)), (0, .ref (G.1 + a)), (1, .int v1), (2, .ref (G.1 + (a + 1 + 1)))] hX (by decide +kernel) rfl rfl (by decide) rfl ?_
    refine J_goto (pc := 61) (off := -24) (tgt := 37) hX (by decide +kernel) (by decide +kernel) ?_
    exact J_sub [2, 3, 4, 1, 0] _ rfl (hk37 (v3 + x9) (v4 + 1) μ8 y2)
set_option maxRecDepth 100000 in
set_option maxHeartbeats 4000000 in
theorem jSf_days_37 {X : Cx} {l : Launch} {G : Gx} {y0 : Ly} {a : Nat}  (hX : Ok X l G prog_1_method_7_code 5 (some .int) "SaltFigures")   (v1 : Int32)   : ∀ (fu : Nat) (v3 : Int32) (v4 : Int32) (μ : Mu) (y : Ly), J X G 5 8 y0 id rvI tpT 37 [(0, .ref (G.1 + a)), (1, .int v1), (2, .ref (G.1 + (a + 1 + 1))), (3, .int v3), (4, .int v4)] [] (μ, y) (Sf_days_37 a   v1 fu v3 v4 μ y) := by
  intro fu
  induction fu with
  | zero => intros; exact J_none
  | succ fu ih => intro v3 v4 μ y; exact jSf_days_37b  hX   v1  ih v3 v4 μ y
set_option maxRecDepth 100000 in
set_option maxHeartbeats 4000000 in
theorem jSf_days {X : Cx} {l : Launch} {G : Gx} {y0 : Ly} {a : Nat}  (hX : Ok X l G prog_1_method_7_code 5 (some .int) "SaltFigures")  (v1 : Int32) (μ : Mu) (y : Ly) : J X G 5 8 y0 id rvI tpT 0 [(0, .ref (G.1 + a)), (1, .int v1)] [] (μ, y) (Sf_days a v1 μ y) := by
  unfold Sf_days
  refine J_aload_n (k0 := 0) (pc := 0) 0 hX (by decide +kernel) rfl rfl ?_
  refine J_ckP (fun h1 => ?_)
  refine J_gr (pc := 1) hX (by decide +kernel) fl_Sf_12 h1.1 rfl h1.2.1.1 ?_
  refine J_ckP (fun h2 => ?_)
  refine J_gr (pc := 4) hX (by decide +kernel) fl_Sf_58 h2.2.1.2.1 rfl h2.2.1.2.2.1.1 ?_
  refine J_astore_n (k0 := 2) (pc := 7) [(2, .ref (G.1 + (a + 1 + 1))), (0, .ref (G.1 + a)), (1, .int v1)] hX (by decide +kernel) rfl (by decide) rfl ?_
  refine J_iload_n (k0 := 1) (pc := 8) 2 hX (by decide +kernel) rfl rfl ?_
  refine J_iconst (pc := 9) (n := 1) (v := 1) hX (by decide +kernel) (by decide +kernel) ?_
  refine J_bipush (pc := 10) (n := 60) (v := 60) hX (by decide +kernel) (by decide +kernel) ?_
  refine J_cSi (pc := 12) (idx := 68) [.int v1, .int 1, .int 60] hX (by decide +kernel) (mq mt_2 148 (by decide +kernel)) mv_Sf_within rfl rfl (Nat.le_of_ble_eq_true rfl) (Nat.le_of_ble_eq_true rfl) (c_Sf_within v1 1 60 μ) (fun x4 μ3 => ?_)
  refine J_if_eq (pc := 15) (off := 15) (tgt := 30) hX (by decide +kernel) (by decide +kernel) (fun _ => ?_) (fun _ => ?_)
  · refine J_iconst (pc := 30) (n := -1) (v := (-1)) hX (by decide +kernel) (by decide +kernel) ?_
    exact J_iret (pc := 31) hX (by decide +kernel) rfl trivial
  · refine J_aload_n (k0 := 2) (pc := 18) 0 hX (by decide +kernel) rfl rfl ?_
    refine J_ckP (fun h5 => ?_)
    refine J_gF (pc := 19) hX (by decide +kernel) fl_Sf_121 h5.2.1.2.2.1.2.1 rfl (fun x6 => ?_)
    refine J_iload_n (k0 := 1) (pc := 22) 2 hX (by decide +kernel) rfl rfl ?_
    refine J_iadd (pc := 23) hX (by decide +kernel) ?_
    refine J_sipush (pc := 24) (n := 9999) (v := 9999) hX (by decide +kernel) (by decide +kernel) ?_
    refine J_icmp_le (pc := 27) (off := 5) (tgt := 32) hX (by decide +kernel) (by decide +kernel) (fun _ => ?_) (fun _ => ?_)
    · refine J_iconst (pc := 32) (n := 0) (v := 0) hX (by decide +kernel) (by decide +kernel) ?_
      refine J_istore_n (k0 := 3) (pc := 33) [(3, .int 0), (2, .ref (G.1 + (a + 1 + 1))), (0, .ref (G.1 + a)), (1, .int v1)] hX (by decide +kernel) rfl (by decide) rfl ?_
      refine J_iconst (pc := 34) (n := 0) (v := 0) hX (by decide +kernel) (by decide +kernel) ?_
      refine J_istore (pc := 35) [(4, .int 0), (3, .int 0), (2, .ref (G.1 + (a + 1 + 1))), (0, .ref (G.1 + a)), (1, .int v1)] hX (by decide +kernel) (by decide) rfl ?_
      exact J_sub [3, 4, 2, 1, 0] _ rfl (jSf_days_37 hX v1 FU 0 0 μ3 y)
    · refine J_iconst (pc := 30) (n := -1) (v := (-1)) hX (by decide +kernel) (by decide +kernel) ?_
      exact J_iret (pc := 31) hX (by decide +kernel) rfl trivial
set_option maxRecDepth 100000 in
set_option maxHeartbeats 4000000 in
theorem c_Sf_days {l : Launch} {G : Gx} (a : Nat) (v1 : Int32) (μ : Mu) (y : Ly) : Cm l G ⟨"SaltFigures", "days", "(I)I"⟩ prog_1_method_7_code 5 (some .int) 8 [.ref (G.1 + a), .int v1] (μ, y) rvI (Sf_days a v1 μ y) := cm_of (by decide +kernel) (Nat.le_of_ble_eq_true rfl) (fun X hX hI => jSf_days hX  v1 μ y)
set_option maxRecDepth 100000 in
noncomputable def Sf_undo (a : Nat)  (μ : Mu) (y : Ly) : Option (Int32 × Mm) := ckP (LySf y a) (gF μ a 8 (fun x2 => (if 0 < x2 then ckP (LySf y a) (gF μ a 7 (fun x4 => ckP (LySf y a) (pF μ a 7 (jrem ((x4 + 6) - 1) 6) (fun μ6 => ckP (LySf y a) (gF μ6 a 8 (fun x8 => ckP (LySf y a) (pF μ6 a 8 (x8 - 1) (fun μ10 => ckP (LySf y a) (ckP (LySf y a) (ckP (LySf y a) (gF μ10 a 7 (fun x14 => ckP (LySf y a) (clm y (Sf_keptAt a x14 μ10 y) (fun x17 μ15 y16 => ckP (LySf y16 a) (ckP (LyFg y16 x17) (cl (Fg_copyFrom (a + 1 + 1) x17 μ15) (fun _ μ21 => some (1, (μ21, y16))))))))))))))))))) else some (0, (μ, y)))))
set_option maxRecDepth 100000 in
set_option maxHeartbeats 4000000 in
theorem jSf_undo {X : Cx} {l : Launch} {G : Gx} {y0 : Ly} {a : Nat}  (hX : Ok X l G prog_1_method_41_code 1 (some .boolean) "SaltFigures")   (μ : Mu) (y : Ly) : J X G 1 6 y0 id rvI tpT 0 [(0, .ref (G.1 + a))] [] (μ, y) (Sf_undo a  μ y) := by
  unfold Sf_undo
  refine J_aload_n (k0 := 0) (pc := 0) 0 hX (by decide +kernel) rfl rfl ?_
  refine J_ckP (fun h1 => ?_)
  refine J_gF (pc := 1) hX (by decide +kernel) fl_Sf_359 h1.1 rfl (fun x2 => ?_)
  refine J_if_gt (pc := 4) (off := 5) (tgt := 9) hX (by decide +kernel) (by decide +kernel) (fun _ => ?_) (fun _ => ?_)
  · refine J_aload_n (k0 := 0) (pc := 9) 0 hX (by decide +kernel) rfl rfl ?_
    refine J_aload_n (k0 := 0) (pc := 10) 0 hX (by decide +kernel) rfl rfl ?_
    refine J_ckP (fun h3 => ?_)
    refine J_gF (pc := 11) hX (by decide +kernel) fl_Sf_362 h3.1 rfl (fun x4 => ?_)
    refine J_bipush (pc := 14) (n := 6) (v := 6) hX (by decide +kernel) (by decide +kernel) ?_
    refine J_iadd (pc := 16) hX (by decide +kernel) ?_
    refine J_iconst (pc := 17) (n := 1) (v := 1) hX (by decide +kernel) (by decide +kernel) ?_
    refine J_isub (pc := 18) hX (by decide +kernel) ?_
    refine J_bipush (pc := 19) (n := 6) (v := 6) hX (by decide +kernel) (by decide +kernel) ?_
    refine J_iremK (pc := 21) hX (by decide +kernel) (by decide +kernel) ?_
    refine J_ckP (fun h5 => ?_)
    refine J_pF (pc := 22) hX (by decide +kernel) fl_Sf_362 h5.1 rfl (fun μ6 => ?_)
    refine J_aload_n (k0 := 0) (pc := 25) 0 hX (by decide +kernel) rfl rfl ?_
    refine J_dup (pc := 26) hX (by decide +kernel) rfl ?_
    refine J_ckP (fun h7 => ?_)
    refine J_gF (pc := 27) hX (by decide +kernel) fl_Sf_359 h7.1 rfl (fun x8 => ?_)
    refine J_iconst (pc := 30) (n := 1) (v := 1) hX (by decide +kernel) (by decide +kernel) ?_
    refine J_isub (pc := 31) hX (by decide +kernel) ?_
    refine J_ckP (fun h9 => ?_)
    refine J_pF (pc := 32) hX (by decide +kernel) fl_Sf_359 h9.1 rfl (fun μ10 => ?_)
    refine J_aload_n (k0 := 0) (pc := 35) 0 hX (by decide +kernel) rfl rfl ?_
    refine J_ckP (fun h11 => ?_)
    refine J_gr (pc := 36) hX (by decide +kernel) fl_Sf_12 h11.1 rfl h11.2.1.1 ?_
    refine J_ckP (fun h12 => ?_)
    refine J_gr (pc := 39) hX (by decide +kernel) fl_Sf_58 h12.2.1.2.1 rfl h12.2.1.2.2.1.1 ?_
    refine J_aload_n (k0 := 0) (pc := 42) 0 hX (by decide +kernel) rfl rfl ?_
    refine J_aload_n (k0 := 0) (pc := 43) 0 hX (by decide +kernel) rfl rfl ?_
    refine J_ckP (fun h13 => ?_)
    refine J_gF (pc := 44) hX (by decide +kernel) fl_Sf_362 h13.1 rfl (fun x14 => ?_)
    refine J_ckP (fun h18 => ?_)
    refine J_cVm (pc := 47) (idx := 365) [.int x14] hX (by decide +kernel) (mq mt_2 189 (by decide +kernel)) mv_Sf_keptAt h18.1 rfl rfl (Nat.le_of_ble_eq_true rfl) (Nat.le_of_ble_eq_true rfl) (c_Sf_keptAt a x14 μ10 y) (fun x17 μ15 y16 => ?_)
    refine J_ckP (fun h19 => ?_)
    refine J_ckP (fun h20 => ?_)
    refine J_cVv (pc := 50) (idx := 196) [.ref (G.1 + x17)] hX (by decide +kernel) (mq mt_2 193 (by decide +kernel)) mv_Fg_copyFrom h19.2.1.2.2.1.2.1 rfl rfl (Nat.le_of_ble_eq_true rfl) (Nat.le_of_ble_eq_true rfl) (c_Fg_copyFrom h19.2.1.2.2.1.2 h20 μ15) (fun μ21 => ?_)
    refine J_iconst (pc := 53) (n := 1) (v := 1) hX (by decide +kernel) (by decide +kernel) ?_
    exact J_zret (pc := 54) hX (by decide +kernel) rfl (by decide +kernel) trivial
  · refine J_iconst (pc := 7) (n := 0) (v := 0) hX (by decide +kernel) (by decide +kernel) ?_
    exact J_zret (pc := 8) hX (by decide +kernel) rfl (by decide +kernel) trivial
set_option maxRecDepth 100000 in
set_option maxHeartbeats 4000000 in
theorem c_Sf_undo {l : Launch} {G : Gx} (a : Nat)  (μ : Mu) (y : Ly) : Cm l G ⟨"SaltFigures", "undo", "()Z"⟩ prog_1_method_41_code 1 (some .boolean) 6 [.ref (G.1 + a)] (μ, y) rvI (Sf_undo a  μ y) := cm_of (by decide +kernel) (Nat.le_of_ble_eq_true rfl) (fun X hX hI => jSf_undo hX   μ y)
set_option maxRecDepth 100000 in
noncomputable def Sf_image_22 (a : Nat)      (μ : Mu) (y : Ly) : Option (Int32 × Mm) := ckP (LySf y a) (gR y a 1 (none) (fun q1 => ckP (LySf y a) (ckP (LyPt y q1) (ckP (LySf y a) (cl (Pt_copyFrom q1 (a + 1) μ) (fun _ μ6 => some (1, (μ6, y))))))))
set_option maxRecDepth 100000 in
noncomputable def Sf_image (a : Nat) (v1 : Int32) (μ : Mu) (y : Ly) : Option (Int32 × Mm) := (if v1 = 0 then ckP (LySf y a) (gR y a 1 (some (0, (μ, y))) (fun q1 => ckP (LySf y a) (ckP (LySf y a) (gR y a 1 (none) (fun q4 => ckP (LySf y a) (ckP (LyPt y q4) (cl (Pt_copyFrom (a + 1) q4 μ) (fun _ μ8 => ckP (LySf y a) (cl (Sf_forget a μ8) (fun _ μ10 => some (1, (μ10, y)))))))))))) else ckP (LySf y a) (gR y a 1 (nwK μ y 5 4 (fun q13 μ14 y15 => clm y15 (Pt_init q13 μ14 y15) (fun _ μ16 y17 => ckP (LySf y17 a) (pR y17 a 1 q13 (fun y19 => Sf_image_22 a μ16 y19))))) (fun q11 => Sf_image_22 a μ y)))
set_option maxRecDepth 100000 in
set_option maxHeartbeats 4000000 in
theorem jSf_image_22 {X : Cx} {l : Launch} {G : Gx} {y0 : Ly} {a : Nat}  (hX : Ok X l G prog_1_method_42_code 2 (some .boolean) "SaltFigures")        (μ : Mu) (y : Ly) : J X G 2 7 y0 id rvI tpT 22 [(0, .ref (G.1 + a))] [] (μ, y) (Sf_image_22 a      μ y) := by
  unfold Sf_image_22
  refine J_aload_n (k0 := 0) (pc := 22) 0 hX (by decide +kernel) rfl rfl ?_
  refine J_ckP (fun h2 => ?_)
  refine J_gRm (pc := 23) hX (by decide +kernel) fl_Sf_369 h2.1 rfl ?_ (fun q1 => ?_)
  · exact J_none
  · refine J_aload_n (k0 := 0) (pc := 26) 0 hX (by decide +kernel) rfl rfl ?_
    refine J_ckP (fun h3 => ?_)
    refine J_gr (pc := 27) hX (by decide +kernel) fl_Sf_12 h3.1 rfl h3.2.1.1 ?_
    refine J_ckP (fun h4 => ?_)
    refine J_ckP (fun h5 => ?_)
    refine J_cVv (pc := 30) (idx := 372) [.ref (G.1 + (a + 1))] hX (by decide +kernel) (mq mt_5 209 (by decide +kernel)) mv_Pt_copyFrom h4.1 rfl rfl (Nat.le_of_ble_eq_true rfl) (Nat.le_of_ble_eq_true rfl) (c_Pt_copyFrom h4 h5.2.1.2 μ) (fun μ6 => ?_)
    refine J_iconst (pc := 33) (n := 1) (v := 1) hX (by decide +kernel) (by decide +kernel) ?_
    exact J_zret (pc := 34) hX (by decide +kernel) rfl (by decide +kernel) trivial
set_option maxRecDepth 100000 in
set_option maxHeartbeats 4000000 in
theorem jSf_image {X : Cx} {l : Launch} {G : Gx} {y0 : Ly} {a : Nat}  (hX : Ok X l G prog_1_method_42_code 2 (some .boolean) "SaltFigures")  (v1 : Int32) (μ : Mu) (y : Ly) : J X G 2 7 y0 id rvI tpT 0 [(0, .ref (G.1 + a)), (1, .int v1)] [] (μ, y) (Sf_image a v1 μ y) := by
  unfold Sf_image
  refine J_iload_n (k0 := 1) (pc := 0) 1 hX (by decide +kernel) rfl rfl ?_
  refine J_if_eq (pc := 1) (off := 34) (tgt := 35) hX (by decide +kernel) (by decide +kernel) (fun _ => ?_) (fun _ => ?_)
  · refine J_aload_n (k0 := 0) (pc := 35) 0 hX (by decide +kernel) rfl rfl ?_
    refine J_ckP (fun h2 => ?_)
    refine J_gRm (pc := 36) hX (by decide +kernel) fl_Sf_369 h2.1 rfl ?_ (fun q1 => ?_)
    · refine J_ifnonnullN (pc := 39) (off := 5) hX (by decide +kernel) ?_
      refine J_iconst (pc := 42) (n := 0) (v := 0) hX (by decide +kernel) (by decide +kernel) ?_
      exact J_zret (pc := 43) hX (by decide +kernel) rfl (by decide +kernel) trivial
    · refine J_ifnonnullR (pc := 39) (off := 5) (tgt := 44) hX (by decide +kernel) (by decide +kernel) ?_
      refine J_aload_n (k0 := 0) (pc := 44) 0 hX (by decide +kernel) rfl rfl ?_
      refine J_ckP (fun h3 => ?_)
      refine J_gr (pc := 45) hX (by decide +kernel) fl_Sf_12 h3.1 rfl h3.2.1.1 ?_
      refine J_aload_n (k0 := 0) (pc := 48) 0 hX (by decide +kernel) rfl rfl ?_
      refine J_ckP (fun h5 => ?_)
      refine J_gRm (pc := 49) hX (by decide +kernel) fl_Sf_369 h5.1 rfl ?_ (fun q4 => ?_)
      · exact J_none
      · refine J_ckP (fun h6 => ?_)
        refine J_ckP (fun h7 => ?_)
        refine J_cVv (pc := 52) (idx := 372) [.ref (G.1 + q4)] hX (by decide +kernel) (mq mt_5 209 (by decide +kernel)) mv_Pt_copyFrom h6.2.1.2.1 rfl rfl (Nat.le_of_ble_eq_true rfl) (Nat.le_of_ble_eq_true rfl) (c_Pt_copyFrom h6.2.1.2 h7 μ) (fun μ8 => ?_)
        refine J_aload_n (k0 := 0) (pc := 55) 0 hX (by decide +kernel) rfl rfl ?_
        refine J_ckP (fun h9 => ?_)
        refine J_cVv (pc := 56) (idx := 65) [] hX (by decide +kernel) (mq mt_2 140 (by decide +kernel)) mv_Sf_forget h9.1 rfl rfl (Nat.le_of_ble_eq_true rfl) (Nat.le_of_ble_eq_true rfl) (c_Sf_forget h9 μ8) (fun μ10 => ?_)
        refine J_iconst (pc := 59) (n := 1) (v := 1) hX (by decide +kernel) (by decide +kernel) ?_
        exact J_zret (pc := 60) hX (by decide +kernel) rfl (by decide +kernel) trivial
  · refine J_aload_n (k0 := 0) (pc := 4) 0 hX (by decide +kernel) rfl rfl ?_
    refine J_ckP (fun h12 => ?_)
    refine J_gRm (pc := 5) hX (by decide +kernel) fl_Sf_369 h12.1 rfl ?_ (fun q11 => ?_)
    · refine J_ifnonnullN (pc := 8) (off := 14) hX (by decide +kernel) ?_
      refine J_aload_n (k0 := 0) (pc := 11) 0 hX (by decide +kernel) rfl rfl ?_
      refine J_nwC (pc := 12) (idx := 9) (ci := 3) (C := "SaltFigures$Port") (T := TX3) (N := 4) hX (by decide +kernel) (mq mt_1 30 (by decide +kernel)) (mq mt_1 31 (by decide +kernel)) (mq mt_1 2 (by decide +kernel)) rfl df_Pt (fun q13 μ14 y15 => ?_)
      refine J_dup (pc := 15) hX (by decide +kernel) rfl ?_
      refine J_cIm (pc := 16) (idx := 11) [] hX (by decide +kernel) (Or.inr ⟨"SaltFigures", (mq mt_1 32 (by decide +kernel))⟩) mc_Pt_init rfl rfl (Nat.le_of_ble_eq_true rfl) (Nat.le_of_ble_eq_true rfl) (c_Pt_init q13 μ14 y15) (fun μ16 y17 => ?_)
      refine J_ckP (fun h18 => ?_)
      refine J_pRn (pc := 19) hX (by decide +kernel) fl_Sf_369 h18.1 rfl (fun y19 => ?_)
      exact J_sub [0] _ rfl (jSf_image_22 hX μ16 y19)
    · refine J_ifnonnullR (pc := 8) (off := 14) (tgt := 22) hX (by decide +kernel) (by decide +kernel) ?_
      exact J_sub [0] _ rfl (jSf_image_22 hX μ y)
set_option maxRecDepth 100000 in
set_option maxHeartbeats 4000000 in
theorem c_Sf_image {l : Launch} {G : Gx} (a : Nat) (v1 : Int32) (μ : Mu) (y : Ly) : Cm l G ⟨"SaltFigures", "image", "(Z)Z"⟩ prog_1_method_42_code 2 (some .boolean) 7 [.ref (G.1 + a), .int v1] (μ, y) rvI (Sf_image a v1 μ y) := cm_of (by decide +kernel) (Nat.le_of_ble_eq_true rfl) (fun X hX hI => jSf_image hX  v1 μ y)
