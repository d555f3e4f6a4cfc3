/-! THE REFERENCE: models and their rows (by program) -/
def Mo_isPerson (a : Nat) (v1 : Int32) (μ : Mu) : Option (Int32 × Mu) := (if v1 < 0 then some (0, μ) else gF μ a 6 (fun x1 => (if x1 ≤ v1 then some (0, μ) else some (1, μ))))
set_option maxRecDepth 100000 in
set_option maxHeartbeats 4000000 in
theorem jMo_isPerson {X : Cx} {l : Launch} {G : Gx} {y : Ly} {a : Nat} (hL : LyMo y a ) (hX : Ok X l G prog_13_method_16_code 2 (some .boolean) "SaltFiguresModel") (v1 : Int32) (μ : Mu) : J X G 2 1 y (emy y) rvI tpT 0 [(0, .ref (G.1 + a)), (1, .int v1)] [] (μ, y) (Mo_isPerson a v1 μ) := by
  unfold Mo_isPerson
  refine J_iload_n (k0 := 1) (pc := 0) 1 hX (by decide +kernel) rfl rfl ?_
  refine J_if_lt (pc := 1) (off := 15) (tgt := 16) hX (by decide +kernel) (by decide +kernel) (fun _ => ?_) (fun _ => ?_)
  · refine J_iconst (pc := 16) (n := 0) (v := 0) hX (by decide +kernel) (by decide +kernel) ?_
    exact J_zret (pc := 17) hX (by decide +kernel) rfl (by decide +kernel) trivial
  · refine J_iload_n (k0 := 1) (pc := 4) 1 hX (by decide +kernel) rfl rfl ?_
    refine J_aload_n (k0 := 0) (pc := 5) 0 hX (by decide +kernel) rfl rfl ?_
    refine J_gF (pc := 6) hX (by decide +kernel) fl_Mo_144 hL.1 rfl (fun x1 => ?_)
    refine J_icmp_ge (pc := 9) (off := 7) (tgt := 16) hX (by decide +kernel) (by decide +kernel) (fun _ => ?_) (fun _ => ?_)
    · refine J_iconst (pc := 16) (n := 0) (v := 0) hX (by decide +kernel) (by decide +kernel) ?_
      exact J_zret (pc := 17) hX (by decide +kernel) rfl (by decide +kernel) trivial
    · refine J_iconst (pc := 12) (n := 1) (v := 1) hX (by decide +kernel) (by decide +kernel) ?_
      refine J_goto (pc := 13) (off := 4) (tgt := 17) hX (by decide +kernel) (by decide +kernel) ?_
      exact J_zret (pc := 17) hX (by decide +kernel) rfl (by decide +kernel) trivial
set_option maxRecDepth 100000 in
set_option maxHeartbeats 4000000 in
theorem c_Mo_isPerson {l : Launch} {G : Gx} {y : Ly} {a : Nat} (hL : LyMo y a ) (v1 : Int32) (μ : Mu) : Cn l G ⟨"SaltFiguresModel", "isPerson", "(I)Z"⟩ prog_13_method_16_code 2 (some .boolean) 1 [.ref (G.1 + a), .int v1] (μ, y) (emy y) rvI tpT (Mo_isPerson a v1 μ) := cn_of (by decide +kernel) (Nat.le_of_ble_eq_true rfl) (fun _ _ _ => ⟨List.prefix_refl _, trivial⟩) (fun X hX _ => jMo_isPerson hL hX v1 μ)

def Mo_isAlive (a : Nat) (v1 : Int32) (μ : Mu) : Option (Int32 × Mu) := ldA μ (a + 1) 118 (86 + v1) (fun x1 => (if x1 = 0 then some (1, μ) else some (0, μ)))
set_option maxRecDepth 100000 in
set_option maxHeartbeats 4000000 in
theorem jMo_isAlive {X : Cx} {l : Launch} {G : Gx} {y : Ly} {a : Nat} (hL : LyMo y a ) (hX : Ok X l G prog_13_method_17_code 2 (some .boolean) "SaltFiguresModel") (v1 : Int32) (μ : Mu) : J X G 2 1 y (emy y) rvI tpT 0 [(0, .ref (G.1 + a)), (1, .int v1)] [] (μ, y) (Mo_isAlive a v1 μ) := by
  unfold Mo_isAlive
  refine J_aload_n (k0 := 0) (pc := 0) 0 hX (by decide +kernel) rfl rfl ?_
  refine J_gr (pc := 1) hX (by decide +kernel) fl_Mo_7 hL.1 rfl hL.2.1.1 ?_
  refine J_bipush (pc := 4) (n := 86) (v := 86) hX (by decide +kernel) (by decide +kernel) ?_
  refine J_iload_n (k0 := 1) (pc := 6) 1 hX (by decide +kernel) rfl rfl ?_
  refine J_iadd (pc := 7) hX (by decide +kernel) ?_
  refine J_ldA (pc := 8) hX (by decide +kernel) hL.2.1.2 (fun x1 => ?_)
  refine J_if_ne (pc := 9) (off := 7) (tgt := 16) hX (by decide +kernel) (by decide +kernel) (fun _ => ?_) (fun _ => ?_)
  · refine J_iconst (pc := 16) (n := 0) (v := 0) hX (by decide +kernel) (by decide +kernel) ?_
    exact J_zret (pc := 17) hX (by decide +kernel) rfl (by decide +kernel) trivial
  · refine J_iconst (pc := 12) (n := 1) (v := 1) hX (by decide +kernel) (by decide +kernel) ?_
    refine J_goto (pc := 13) (off := 4) (tgt := 17) hX (by decide +kernel) (by decide +kernel) ?_
    exact J_zret (pc := 17) hX (by decide +kernel) rfl (by decide +kernel) trivial
set_option maxRecDepth 100000 in
set_option maxHeartbeats 4000000 in
theorem c_Mo_isAlive {l : Launch} {G : Gx} {y : Ly} {a : Nat} (hL : LyMo y a ) (v1 : Int32) (μ : Mu) : Cn l G ⟨"SaltFiguresModel", "isAlive", "(I)Z"⟩ prog_13_method_17_code 2 (some .boolean) 1 [.ref (G.1 + a), .int v1] (μ, y) (emy y) rvI tpT (Mo_isAlive a v1 μ) := cn_of (by decide +kernel) (Nat.le_of_ble_eq_true rfl) (fun _ _ _ => ⟨List.prefix_refl _, trivial⟩) (fun X hX _ => jMo_isAlive hL hX v1 μ)

def Mo_seatOf (a : Nat) (v1 : Int32) (μ : Mu) : Option (Int32 × Mu) := ldA μ (a + 1) 118 (102 + v1) (fun x1 => some (x1 - 1, μ))
set_option maxRecDepth 100000 in
set_option maxHeartbeats 4000000 in
theorem jMo_seatOf {X : Cx} {l : Launch} {G : Gx} {y : Ly} {a : Nat} (hL : LyMo y a ) (hX : Ok X l G prog_13_method_18_code 2 (some .int) "SaltFiguresModel") (v1 : Int32) (μ : Mu) : J X G 2 1 y (emy y) rvI tpT 0 [(0, .ref (G.1 + a)), (1, .int v1)] [] (μ, y) (Mo_seatOf a v1 μ) := by
  unfold Mo_seatOf
  refine J_aload_n (k0 := 0) (pc := 0) 0 hX (by decide +kernel) rfl rfl ?_
  refine J_gr (pc := 1) hX (by decide +kernel) fl_Mo_7 hL.1 rfl hL.2.1.1 ?_
  refine J_bipush (pc := 4) (n := 102) (v := 102) hX (by decide +kernel) (by decide +kernel) ?_
  refine J_iload_n (k0 := 1) (pc := 6) 1 hX (by decide +kernel) rfl rfl ?_
  refine J_iadd (pc := 7) hX (by decide +kernel) ?_
  refine J_ldA (pc := 8) hX (by decide +kernel) hL.2.1.2 (fun x1 => ?_)
  refine J_iconst (pc := 9) (n := 1) (v := 1) hX (by decide +kernel) (by decide +kernel) ?_
  refine J_isub (pc := 10) hX (by decide +kernel) ?_
  exact J_iret (pc := 11) hX (by decide +kernel) rfl trivial
set_option maxRecDepth 100000 in
set_option maxHeartbeats 4000000 in
theorem c_Mo_seatOf {l : Launch} {G : Gx} {y : Ly} {a : Nat} (hL : LyMo y a ) (v1 : Int32) (μ : Mu) : Cn l G ⟨"SaltFiguresModel", "seatOf", "(I)I"⟩ prog_13_method_18_code 2 (some .int) 1 [.ref (G.1 + a), .int v1] (μ, y) (emy y) rvI tpT (Mo_seatOf a v1 μ) := cn_of (by decide +kernel) (Nat.le_of_ble_eq_true rfl) (fun _ _ _ => ⟨List.prefix_refl _, trivial⟩) (fun X hX _ => jMo_seatOf hL hX v1 μ)

def Mo_isIn (a : Nat) (v1 : Int32) (v2 : Int32) (v3 : Int32) (μ : Mu) : Option (Int32 × Mu) := (if v1 < v2 then some (0, μ) else (if v3 < v1 then some (0, μ) else some (1, μ)))
set_option maxRecDepth 100000 in
set_option maxHeartbeats 4000000 in
theorem jMo_isIn {X : Cx} {l : Launch} {G : Gx} {y : Ly} {a : Nat} (hL : LyMo y a ) (hX : Ok X l G prog_13_method_3_code 4 (some .boolean) "SaltFiguresModel") (v1 : Int32) (v2 : Int32) (v3 : Int32) (μ : Mu) : J X G 4 1 y (emy y) rvI tpT 0 [(0, .ref (G.1 + a)), (1, .int v1), (2, .int v2), (3, .int v3)] [] (μ, y) (Mo_isIn a v1 v2 v3 μ) := by
  unfold Mo_isIn
  refine J_iload_n (k0 := 1) (pc := 0) 1 hX (by decide +kernel) rfl rfl ?_
  refine J_iload_n (k0 := 2) (pc := 1) 2 hX (by decide +kernel) rfl rfl ?_
  refine J_icmp_lt (pc := 2) (off := 12) (tgt := 14) hX (by decide +kernel) (by decide +kernel) (fun _ => ?_) (fun _ => ?_)
  · refine J_iconst (pc := 14) (n := 0) (v := 0) hX (by decide +kernel) (by decide +kernel) ?_
    exact J_zret (pc := 15) hX (by decide +kernel) rfl (by decide +kernel) trivial
  · refine J_iload_n (k0 := 1) (pc := 5) 1 hX (by decide +kernel) rfl rfl ?_
    refine J_iload_n (k0 := 3) (pc := 6) 3 hX (by decide +kernel) rfl rfl ?_
    refine J_icmp_gt (pc := 7) (off := 7) (tgt := 14) hX (by decide +kernel) (by decide +kernel) (fun _ => ?_) (fun _ => ?_)
    · refine J_iconst (pc := 14) (n := 0) (v := 0) hX (by decide +kernel) (by decide +kernel) ?_
      exact J_zret (pc := 15) hX (by decide +kernel) rfl (by decide +kernel) trivial
    · refine J_iconst (pc := 10) (n := 1) (v := 1) hX (by decide +kernel) (by decide +kernel) ?_
      refine J_goto (pc := 11) (off := 4) (tgt := 15) hX (by decide +kernel) (by decide +kernel) ?_
      exact J_zret (pc := 15) hX (by decide +kernel) rfl (by decide +kernel) trivial
set_option maxRecDepth 100000 in
set_option maxHeartbeats 4000000 in
theorem c_Mo_isIn {l : Launch} {G : Gx} {y : Ly} {a : Nat} (hL : LyMo y a ) (v1 : Int32) (v2 : Int32) (v3 : Int32) (μ : Mu) : Cn l G ⟨"SaltFiguresModel", "isIn", "(III)Z"⟩ prog_13_method_3_code 4 (some .boolean) 1 [.ref (G.1 + a), .int v1, .int v2, .int v3] (μ, y) (emy y) rvI tpT (Mo_isIn a v1 v2 v3 μ) := cn_of (by decide +kernel) (Nat.le_of_ble_eq_true rfl) (fun _ _ _ => ⟨List.prefix_refl _, trivial⟩) (fun X hX _ => jMo_isIn hL hX v1 v2 v3 μ)

def Mo_whoHas_2b (a : Nat)  (kb2 : Int32 → Mu → Option (Int32 × Mu)) (v1 : Int32) (v2 : Int32)  (μ : Mu) : Option (Int32 × Mu) := gF μ a 6 (fun x1 => (if x1 ≤ v2 then some ((-1), μ) else cl (Mo_seatOf a v2 μ) (fun x3 μ2 => (if x3 = v1 then some (v2, μ2) else kb2 (v2 + 1) μ2))))
def Mo_whoHas_2 (a : Nat)  (v1 : Int32) (fu : Nat) : Int32 → Mu → Option (Int32 × Mu) := lp (fun kb => Mo_whoHas_2b a  kb v1) (fun _ _ => none) fu
def Mo_whoHas (a : Nat) (v1 : Int32) (μ : Mu) : Option (Int32 × Mu) := Mo_whoHas_2 a v1 FU 0 μ
set_option maxRecDepth 100000 in
set_option maxHeartbeats 4000000 in
theorem jMo_whoHas_2b {X : Cx} {l : Launch} {G : Gx} {y : Ly} {a : Nat} (hL : LyMo y a ) (hX : Ok X l G prog_13_method_19_code 3 (some .int) "SaltFiguresModel") (v1 : Int32)  {kb2 : Int32 → Mu → Option (Int32 × Mu)}  (hk2 : ∀ (v2 : Int32) (μ : Mu), J X G 3 2 y (emy y) rvI tpT 2 [(0, .ref (G.1 + a)), (1, .int v1), (2, .int v2)] [] (μ, y) (kb2 v2 μ)) (v2 : Int32)  (μ : Mu) : J X G 3 2 y (emy y) rvI tpT 2 [(0, .ref (G.1 + a)), (1, .int v1), (2, .int v2)] [] (μ, y) (Mo_whoHas_2b a  kb2 v1 v2  μ) := by
  unfold Mo_whoHas_2b
  refine J_iload_n (k0 := 2) (pc := 2) 2 hX (by decide +kernel) rfl rfl ?_
  refine J_aload_n (k0 := 0) (pc := 3) 0 hX (by decide +kernel) rfl rfl ?_
  refine J_gF (pc := 4) hX (by decide +kernel) fl_Mo_144 hL.1 rfl (fun x1 => ?_)
  refine J_icmp_ge (pc := 7) (off := 20) (tgt := 27) hX (by decide +kernel) (by decide +kernel) (fun _ => ?_) (fun _ => ?_)
  · refine J_iconst (pc := 27) (n := -1) (v := (-1)) hX (by decide +kernel) (by decide +kernel) ?_
    exact J_iret (pc := 28) hX (by decide +kernel) rfl trivial
  · refine J_aload_n (k0 := 0) (pc := 10) 0 hX (by decide +kernel) rfl rfl ?_
    refine J_iload_n (k0 := 2) (pc := 11) 2 hX (by decide +kernel) rfl rfl ?_
    refine J_cVi (pc := 12) (idx := 147) [.int v2] hX (by decide +kernel) (mq mt_7 154 (by decide +kernel)) mv_Mo_seatOf hL.1 rfl rfl (Nat.le_of_ble_eq_true rfl) (Nat.le_of_ble_eq_true rfl) (c_Mo_seatOf hL v2 μ) (fun x3 μ2 => ?_)
    refine J_iload_n (k0 := 1) (pc := 15) 1 hX (by decide +kernel) rfl rfl ?_
    refine J_icmp_ne (pc := 16) (off := 5) (tgt := 21) hX (by decide +kernel) (by decide +kernel) (fun _ => ?_) (fun _ => ?_)
    · refine J_iinc (pc := 21) (n := 1) 2 [(2, .int (v2 + 1)), (0, .ref (G.1 + a)), (1, .int v1)] hX (by decide +kernel) rfl rfl (by decide) rfl ?_
      refine J_goto (pc := 24) (off := -22) (tgt := 2) hX (by decide +kernel) (by decide +kernel) ?_
      exact J_sub [1, 2, 0] _ rfl (hk2 (v2 + 1) μ2)
    · refine J_iload_n (k0 := 2) (pc := 19) 2 hX (by decide +kernel) rfl rfl ?_
      exact J_iret (pc := 20) hX (by decide +kernel) rfl trivial
set_option maxRecDepth 100000 in
set_option maxHeartbeats 4000000 in
theorem jMo_whoHas_2 {X : Cx} {l : Launch} {G : Gx} {y : Ly} {a : Nat} (hL : LyMo y a ) (hX : Ok X l G prog_13_method_19_code 3 (some .int) "SaltFiguresModel") (v1 : Int32)   : ∀ (fu : Nat) (v2 : Int32) (μ : Mu), J X G 3 2 y (emy y) rvI tpT 2 [(0, .ref (G.1 + a)), (1, .int v1), (2, .int v2)] [] (μ, y) (Mo_whoHas_2 a  v1 fu v2 μ) := by
  intro fu
  induction fu with
  | zero => intros; exact J_none
  | succ fu ih => intro v2 μ; exact jMo_whoHas_2b hL hX v1  ih v2 μ
set_option maxRecDepth 100000 in
set_option maxHeartbeats 4000000 in
theorem jMo_whoHas {X : Cx} {l : Launch} {G : Gx} {y : Ly} {a : Nat} (hL : LyMo y a ) (hX : Ok X l G prog_13_method_19_code 3 (some .int) "SaltFiguresModel") (v1 : Int32) (μ : Mu) : J X G 3 2 y (emy y) rvI tpT 0 [(0, .ref (G.1 + a)), (1, .int v1)] [] (μ, y) (Mo_whoHas a v1 μ) := by
  unfold Mo_whoHas
  refine J_iconst (pc := 0) (n := 0) (v := 0) hX (by decide +kernel) (by decide +kernel) ?_
  refine J_istore_n (k0 := 2) (pc := 1) [(2, .int 0), (0, .ref (G.1 + a)), (1, .int v1)] hX (by decide +kernel) rfl (by decide) rfl ?_
  exact J_sub [1, 2, 0] _ rfl (jMo_whoHas_2 hL hX v1 FU 0 μ)
set_option maxRecDepth 100000 in
set_option maxHeartbeats 4000000 in
theorem c_Mo_whoHas {l : Launch} {G : Gx} {y : Ly} {a : Nat} (hL : LyMo y a ) (v1 : Int32) (μ : Mu) : Cn l G ⟨"SaltFiguresModel", "whoHas", "(I)I"⟩ prog_13_method_19_code 3 (some .int) 2 [.ref (G.1 + a), .int v1] (μ, y) (emy y) rvI tpT (Mo_whoHas a v1 μ) := cn_of (by decide +kernel) (Nat.le_of_ble_eq_true rfl) (fun _ _ _ => ⟨List.prefix_refl _, trivial⟩) (fun X hX _ => jMo_whoHas hL hX v1 μ)

def Mo_canAct_104 (a : Nat)     (μ : Mu) : Option (Int32 × Mu) := some (1, μ)
def Mo_canAct_95 (a : Nat)   (v1 : Int32)  (μ : Mu) : Option (Int32 × Mu) := (if v1 = 0 then Mo_canAct_104 a μ else (if v1 = 4 then Mo_canAct_104 a μ else some (0, μ)))
def Mo_canAct (a : Nat) (v1 : Int32) (v2 : Int32) (v3 : Int32) (μ : Mu) : Option (Int32 × Mu) := cl (Mo_isPerson a v2 μ) (fun x2 μ1 => (if x2 = 0 then some (0, μ1) else cl (Mo_isAlive a v2 μ1) (fun x4 μ3 => (if x4 = 0 then some (0, μ3) else (if v1 = 1 then cl (Mo_seatOf a v2 μ3) (fun x9 μ8 => (if x9 = ((-1)) then cl (Mo_isIn a v3 0 15 μ8) (fun x11 μ10 => (if x11 = 0 then some (0, μ10) else cl (Mo_whoHas a v3 μ10) (fun x13 μ12 => (if x13 = ((-1)) then some (1, μ12) else some (0, μ12))))) else some (0, μ8))) else (if v1 = 2 then cl (Mo_seatOf a v2 μ3) (fun x7 μ6 => (if x7 = ((-1)) then some (0, μ6) else some (1, μ6))) else (if v1 = 3 then ldA μ3 (a + 1) 118 (22 + v2) (fun x5 => (if 0 < x5 then Mo_canAct_104 a μ3 else Mo_canAct_95 a v1 μ3)) else Mo_canAct_95 a v1 μ3)))))))
set_option maxRecDepth 100000 in
set_option maxHeartbeats 4000000 in
theorem jMo_canAct_104 {X : Cx} {l : Launch} {G : Gx} {y : Ly} {a : Nat} (hL : LyMo y a ) (hX : Ok X l G prog_13_method_75_code 4 (some .boolean) "SaltFiguresModel")      (μ : Mu) : J X G 4 3 y (emy y) rvI tpT 104 [] [] (μ, y) (Mo_canAct_104 a     μ) := by
  unfold Mo_canAct_104
  refine J_iconst (pc := 104) (n := 1) (v := 1) hX (by decide +kernel) (by decide +kernel) ?_
  refine J_goto (pc := 105) (off := 4) (tgt := 109) hX (by decide +kernel) (by decide +kernel) ?_
  exact J_zret (pc := 109) hX (by decide +kernel) rfl (by decide +kernel) trivial
set_option maxRecDepth 100000 in
set_option maxHeartbeats 4000000 in
theorem jMo_canAct_95 {X : Cx} {l : Launch} {G : Gx} {y : Ly} {a : Nat} (hL : LyMo y a ) (hX : Ok X l G prog_13_method_75_code 4 (some .boolean) "SaltFiguresModel")  (v1 : Int32)    (μ : Mu) : J X G 4 3 y (emy y) rvI tpT 95 [(1, .int v1)] [] (μ, y) (Mo_canAct_95 a   v1  μ) := by
  unfold Mo_canAct_95
  refine J_iload_n (k0 := 1) (pc := 95) 0 hX (by decide +kernel) rfl rfl ?_
  refine J_if_eq (pc := 96) (off := 8) (tgt := 104) hX (by decide +kernel) (by decide +kernel) (fun _ => ?_) (fun _ => ?_)
  · exact J_sub [] _ rfl (jMo_canAct_104 hL hX μ)
  · refine J_iload_n (k0 := 1) (pc := 99) 0 hX (by decide +kernel) rfl rfl ?_
    refine J_iconst (pc := 100) (n := 4) (v := 4) hX (by decide +kernel) (by decide +kernel) ?_
    refine J_icmp_ne (pc := 101) (off := 7) (tgt := 108) hX (by decide +kernel) (by decide +kernel) (fun _ => ?_) (fun _ => ?_)
    · refine J_iconst (pc := 108) (n := 0) (v := 0) hX (by decide +kernel) (by decide +kernel) ?_
      exact J_zret (pc := 109) hX (by decide +kernel) rfl (by decide +kernel) trivial
    · exact J_sub [] _ rfl (jMo_canAct_104 hL hX μ)
set_option maxRecDepth 100000 in
set_option maxHeartbeats 4000000 in
theorem jMo_canAct {X : Cx} {l : Launch} {G : Gx} {y : Ly} {a : Nat} (hL : LyMo y a ) (hX : Ok X l G prog_13_method_75_code 4 (some .boolean) "SaltFiguresModel") (v1 : Int32) (v2 : Int32) (v3 : Int32) (μ : Mu) : J X G 4 3 y (emy y) rvI tpT 0 [(0, .ref (G.1 + a)), (1, .int v1), (2, .int v2), (3, .int v3)] [] (μ, y) (Mo_canAct a v1 v2 v3 μ) := by
  unfold Mo_canAct
  refine J_aload_n (k0 := 0) (pc := 0) 0 hX (by decide +kernel) rfl rfl ?_
  refine J_iload_n (k0 := 2) (pc := 1) 2 hX (by decide +kernel) rfl rfl ?_
  refine J_cVi (pc := 2) (idx := 158) [.int v2] hX (by decide +kernel) (mq mt_6 234 (by decide +kernel)) mv_Mo_isPerson hL.1 rfl rfl (Nat.le_of_ble_eq_true rfl) (Nat.le_of_ble_eq_true rfl) (c_Mo_isPerson hL v2 μ) (fun x2 μ1 => ?_)
  refine J_if_eq (pc := 5) (off := 11) (tgt := 16) hX (by decide +kernel) (by decide +kernel) (fun _ => ?_) (fun _ => ?_)
  · refine J_iconst (pc := 16) (n := 0) (v := 0) hX (by decide +kernel) (by decide +kernel) ?_
    exact J_zret (pc := 17) hX (by decide +kernel) rfl (by decide +kernel) trivial
  · refine J_aload_n (k0 := 0) (pc := 8) 0 hX (by decide +kernel) rfl rfl ?_
    refine J_iload_n (k0 := 2) (pc := 9) 2 hX (by decide +kernel) rfl rfl ?_
    refine J_cVi (pc := 10) (idx := 162) [.int v2] hX (by decide +kernel) (mq mt_6 238 (by decide +kernel)) mv_Mo_isAlive hL.1 rfl rfl (Nat.le_of_ble_eq_true rfl) (Nat.le_of_ble_eq_true rfl) (c_Mo_isAlive hL v2 μ1) (fun x4 μ3 => ?_)
    refine J_if_ne (pc := 13) (off := 5) (tgt := 18) hX (by decide +kernel) (by decide +kernel) (fun _ => ?_) (fun _ => ?_)
    · refine J_iload_n (k0 := 1) (pc := 18) 1 hX (by decide +kernel) rfl rfl ?_
      refine J_iconst (pc := 19) (n := 1) (v := 1) hX (by decide +kernel) (by decide +kernel) ?_
      refine J_icmp_ne (pc := 20) (off := 38) (tgt := 58) hX (by decide +kernel) (by decide +kernel) (fun _ => ?_) (fun _ => ?_)
      · refine J_iload_n (k0 := 1) (pc := 58) 1 hX (by decide +kernel) rfl rfl ?_
        refine J_iconst (pc := 59) (n := 2) (v := 2) hX (by decide +kernel) (by decide +kernel) ?_
        refine J_icmp_ne (pc := 60) (off := 18) (tgt := 78) hX (by decide +kernel) (by decide +kernel) (fun _ => ?_) (fun _ => ?_)
        · refine J_iload_n (k0 := 1) (pc := 78) 1 hX (by decide +kernel) rfl rfl ?_
          refine J_iconst (pc := 79) (n := 3) (v := 3) hX (by decide +kernel) (by decide +kernel) ?_
          refine J_icmp_ne (pc := 80) (off := 15) (tgt := 95) hX (by decide +kernel) (by decide +kernel) (fun _ => ?_) (fun _ => ?_)
          · exact J_sub [1] _ rfl (jMo_canAct_95 hL hX v1 μ3)
          · refine J_aload_n (k0 := 0) (pc := 83) 0 hX (by decide +kernel) rfl rfl ?_
            refine J_gr (pc := 84) hX (by decide +kernel) fl_Mo_7 hL.1 rfl hL.2.1.1 ?_
            refine J_bipush (pc := 87) (n := 22) (v := 22) hX (by decide +kernel) (by decide +kernel) ?_
            refine J_iload_n (k0 := 2) (pc := 89) 2 hX (by decide +kernel) rfl rfl ?_
            refine J_iadd (pc := 90) hX (by decide +kernel) ?_
            refine J_ldA (pc := 91) hX (by decide +kernel) hL.2.1.2 (fun x5 => ?_)
            refine J_if_gt (pc := 92) (off := 12) (tgt := 104) hX (by decide +kernel) (by decide +kernel) (fun _ => ?_) (fun _ => ?_)
            · exact J_sub [] _ rfl (jMo_canAct_104 hL hX μ3)
            · exact J_sub [1] _ rfl (jMo_canAct_95 hL hX v1 μ3)
        · refine J_aload_n (k0 := 0) (pc := 63) 0 hX (by decide +kernel) rfl rfl ?_
          refine J_iload_n (k0 := 2) (pc := 64) 2 hX (by decide +kernel) rfl rfl ?_
          refine J_cVi (pc := 65) (idx := 147) [.int v2] hX (by decide +kernel) (mq mt_7 154 (by decide +kernel)) mv_Mo_seatOf hL.1 rfl rfl (Nat.le_of_ble_eq_true rfl) (Nat.le_of_ble_eq_true rfl) (c_Mo_seatOf hL v2 μ3) (fun x7 μ6 => ?_)
          refine J_iconst (pc := 68) (n := -1) (v := (-1)) hX (by decide +kernel) (by decide +kernel) ?_
          refine J_icmp_eq (pc := 69) (off := 7) (tgt := 76) hX (by decide +kernel) (by decide +kernel) (fun _ => ?_) (fun _ => ?_)
          · refine J_iconst (pc := 76) (n := 0) (v := 0) hX (by decide +kernel) (by decide +kernel) ?_
            exact J_zret (pc := 77) hX (by decide +kernel) rfl (by decide +kernel) trivial
          · refine J_iconst (pc := 72) (n := 1) (v := 1) hX (by decide +kernel) (by decide +kernel) ?_
            refine J_goto (pc := 73) (off := 4) (tgt := 77) hX (by decide +kernel) (by decide +kernel) ?_
            exact J_zret (pc := 77) hX (by decide +kernel) rfl (by decide +kernel) trivial
      · refine J_aload_n (k0 := 0) (pc := 23) 0 hX (by decide +kernel) rfl rfl ?_
        refine J_iload_n (k0 := 2) (pc := 24) 2 hX (by decide +kernel) rfl rfl ?_
        refine J_cVi (pc := 25) (idx := 147) [.int v2] hX (by decide +kernel) (mq mt_7 154 (by decide +kernel)) mv_Mo_seatOf hL.1 rfl rfl (Nat.le_of_ble_eq_true rfl) (Nat.le_of_ble_eq_true rfl) (c_Mo_seatOf hL v2 μ3) (fun x9 μ8 => ?_)
        refine J_iconst (pc := 28) (n := -1) (v := (-1)) hX (by decide +kernel) (by decide +kernel) ?_
        refine J_icmp_ne (pc := 29) (off := 27) (tgt := 56) hX (by decide +kernel) (by decide +kernel) (fun _ => ?_) (fun _ => ?_)
        · refine J_iconst (pc := 56) (n := 0) (v := 0) hX (by decide +kernel) (by decide +kernel) ?_
          exact J_zret (pc := 57) hX (by decide +kernel) rfl (by decide +kernel) trivial
        · refine J_aload_n (k0 := 0) (pc := 32) 0 hX (by decide +kernel) rfl rfl ?_
          refine J_iload_n (k0 := 3) (pc := 33) 3 hX (by decide +kernel) rfl rfl ?_
          refine J_iconst (pc := 34) (n := 0) (v := 0) hX (by decide +kernel) (by decide +kernel) ?_
          refine J_bipush (pc := 35) (n := 15) (v := 15) hX (by decide +kernel) (by decide +kernel) ?_
          refine J_cVi (pc := 37) (idx := 154) [.int v3, .int 0, .int 15] hX (by decide +kernel) (mq mt_6 226 (by decide +kernel)) mv_Mo_isIn hL.1 rfl rfl (Nat.le_of_ble_eq_true rfl) (Nat.le_of_ble_eq_true rfl) (c_Mo_isIn hL v3 0 15 μ8) (fun x11 μ10 => ?_)
          refine J_if_eq (pc := 40) (off := 16) (tgt := 56) hX (by decide +kernel) (by decide +kernel) (fun _ => ?_) (fun _ => ?_)
          · refine J_iconst (pc := 56) (n := 0) (v := 0) hX (by decide +kernel) (by decide +kernel) ?_
            exact J_zret (pc := 57) hX (by decide +kernel) rfl (by decide +kernel) trivial
          · refine J_aload_n (k0 := 0) (pc := 43) 0 hX (by decide +kernel) rfl rfl ?_
            refine J_iload_n (k0 := 3) (pc := 44) 3 hX (by decide +kernel) rfl rfl ?_
            refine J_cVi (pc := 45) (idx := 151) [.int v3] hX (by decide +kernel) (mq mt_7 150 (by decide +kernel)) mv_Mo_whoHas hL.1 rfl rfl (Nat.le_of_ble_eq_true rfl) (Nat.le_of_ble_eq_true rfl) (c_Mo_whoHas hL v3 μ10) (fun x13 μ12 => ?_)
            refine J_iconst (pc := 48) (n := -1) (v := (-1)) hX (by decide +kernel) (by decide +kernel) ?_
            refine J_icmp_ne (pc := 49) (off := 7) (tgt := 56) hX (by decide +kernel) (by decide +kernel) (fun _ => ?_) (fun _ => ?_)
            · refine J_iconst (pc := 56) (n := 0) (v := 0) hX (by decide +kernel) (by decide +kernel) ?_
              exact J_zret (pc := 57) hX (by decide +kernel) rfl (by decide +kernel) trivial
            · refine J_iconst (pc := 52) (n := 1) (v := 1) hX (by decide +kernel) (by decide +kernel) ?_
              refine J_goto (pc := 53) (off := 4) (tgt := 57) hX (by decide +kernel) (by decide +kernel) ?_
              exact J_zret (pc := 57) hX (by decide +kernel) rfl (by decide +kernel) trivial
    · refine J_iconst (pc := 16) (n := 0) (v := 0) hX (by decide +kernel) (by decide +kernel) ?_
      exact J_zret (pc := 17) hX (by decide +kernel) rfl (by decide +kernel) trivial
set_option maxRecDepth 100000 in
set_option maxHeartbeats 4000000 in
theorem c_Mo_canAct {l : Launch} {G : Gx} {y : Ly} {a : Nat} (hL : LyMo y a ) (v1 : Int32) (v2 : Int32) (v3 : Int32) (μ : Mu) : Cn l G ⟨"SaltFiguresModel", "canAct", "(III)Z"⟩ prog_13_method_75_code 4 (some .boolean) 3 [.ref (G.1 + a), .int v1, .int v2, .int v3] (μ, y) (emy y) rvI tpT (Mo_canAct a v1 v2 v3 μ) := cn_of (by decide +kernel) (Nat.le_of_ble_eq_true rfl) (fun _ _ _ => ⟨List.prefix_refl _, trivial⟩) (fun X hX _ => jMo_canAct hL hX v1 v2 v3 μ)

def Mo_keepsAhead_55b (a : Nat)  (kb55 : Int32 → Mu → Option (Unit × Mu))  (v1 : Int32)  (μ : Mu) : Option (Unit × Mu) := (if 118 ≤ v1 then gF μ a 3 (fun x1 => pF μ a 3 (x1 + 1) (fun μ2 => some ((), μ2))) else gF μ a 3 (fun x3 => ldA μ (a + 1) 118 v1 (fun x4 => stA μ (a + 2) 708 ((118 * x3) + v1) x4 (fun μ5 => kb55 (v1 + 1) μ5))))
def Mo_keepsAhead_55 (a : Nat)   (fu : Nat) : Int32 → Mu → Option (Unit × Mu) := lp (fun kb => Mo_keepsAhead_55b a  kb ) (fun _ _ => none) fu
def Mo_keepsAhead_53 (a : Nat)     (μ : Mu) : Option (Unit × Mu) := Mo_keepsAhead_55 a FU 0 μ
def Mo_keepsAhead_21b (a : Nat)  (kb21 : Int32 → Mu → Option (Unit × Mu))  (v1 : Int32)  (μ : Mu) : Option (Unit × Mu) := gF μ a 3 (fun x1 => (if (118 * x1) ≤ v1 then Mo_keepsAhead_53 a μ else ldA μ (a + 2) 708 (v1 + 118) (fun x2 => stA μ (a + 2) 708 v1 x2 (fun μ3 => kb21 (v1 + 1) μ3))))
def Mo_keepsAhead_21 (a : Nat)   (fu : Nat) : Int32 → Mu → Option (Unit × Mu) := lp (fun kb => Mo_keepsAhead_21b a  kb ) (fun _ _ => none) fu
def Mo_keepsAhead (a : Nat)  (μ : Mu) : Option (Unit × Mu) := gF μ a 3 (fun x1 => (if x1 = 6 then gF μ a 3 (fun x2 => pF μ a 3 (x2 - 1) (fun μ3 => Mo_keepsAhead_21 a FU 0 μ3)) else Mo_keepsAhead_53 a μ))
set_option maxRecDepth 100000 in
set_option maxHeartbeats 4000000 in
theorem jMo_keepsAhead_55b {X : Cx} {l : Launch} {G : Gx} {y : Ly} {a : Nat} (hL : LyMo y a ) (hX : Ok X l G prog_13_method_10_code 2 none "SaltFiguresModel")   {kb55 : Int32 → Mu → Option (Unit × Mu)}  (hk55 : ∀ (v1 : Int32) (μ : Mu), J X G 2 1 y (emy y) rvV tpT 55 [(0, .ref (G.1 + a)), (1, .int v1)] [] (μ, y) (kb55 v1 μ)) (v1 : Int32)  (μ : Mu) : J X G 2 1 y (emy y) rvV tpT 55 [(0, .ref (G.1 + a)), (1, .int v1)] [] (μ, y) (Mo_keepsAhead_55b a  kb55  v1  μ) := by
  unfold Mo_keepsAhead_55b
  refine J_iload_n (k0 := 1) (pc := 55) 1 hX (by decide +kernel) rfl rfl ?_
  refine J_bipush (pc := 56) (n := 118) (v := 118) hX (by decide +kernel) (by decide +kernel) ?_
  refine J_icmp_ge (pc := 58) (off := 29) (tgt := 87) hX (by decide +kernel) (by decide +kernel) (fun _ => ?_) (fun _ => ?_)
  · refine J_aload_n (k0 := 0) (pc := 87) 0 hX (by decide +kernel) rfl rfl ?_
    refine J_aload_n (k0 := 0) (pc := 88) 0 hX (by decide +kernel) rfl rfl ?_
    refine J_gF (pc := 89) hX (by decide +kernel) fl_Mo_135 hL.1 rfl (fun x1 => ?_)
    refine J_iconst (pc := 92) (n := 1) (v := 1) hX (by decide +kernel) (by decide +kernel) ?_
    refine J_iadd (pc := 93) hX (by decide +kernel) ?_
    refine J_pF (pc := 94) hX (by decide +kernel) fl_Mo_135 hL.1 rfl (fun μ2 => ?_)
    exact J_vret (pc := 97) hX (by decide +kernel) rfl trivial
  · refine J_aload_n (k0 := 0) (pc := 61) 0 hX (by decide +kernel) rfl rfl ?_
    refine J_gr (pc := 62) hX (by decide +kernel) fl_Mo_13 hL.1 rfl hL.2.2.1.1 ?_
    refine J_bipush (pc := 65) (n := 118) (v := 118) hX (by decide +kernel) (by decide +kernel) ?_
    refine J_aload_n (k0 := 0) (pc := 67) 0 hX (by decide +kernel) rfl rfl ?_
    refine J_gF (pc := 68) hX (by decide +kernel) fl_Mo_135 hL.1 rfl (fun x3 => ?_)
    refine J_imul (pc := 71) hX (by decide +kernel) ?_
    refine J_iload_n (k0 := 1) (pc := 72) 1 hX (by decide +kernel) rfl rfl ?_
    refine J_iadd (pc := 73) hX (by decide +kernel) ?_
    refine J_aload_n (k0 := 0) (pc := 74) 0 hX (by decide +kernel) rfl rfl ?_
    refine J_gr (pc := 75) hX (by decide +kernel) fl_Mo_7 hL.1 rfl hL.2.1.1 ?_
    refine J_iload_n (k0 := 1) (pc := 78) 1 hX (by decide +kernel) rfl rfl ?_
    refine J_ldA (pc := 79) hX (by decide +kernel) hL.2.1.2 (fun x4 => ?_)
    refine J_stA (pc := 80) hX (by decide +kernel) hL.2.2.1.2 (fun μ5 => ?_)
    refine J_iinc (pc := 81) (n := 1) 1 [(1, .int (v1 + 1)), (0, .ref (G.1 + a))] hX (by decide +kernel) rfl rfl (by decide) rfl ?_
    refine J_goto (pc := 84) (off := -29) (tgt := 55) hX (by decide +kernel) (by decide +kernel) ?_
    exact J_sub [1, 0] _ rfl (hk55 (v1 + 1) μ5)
set_option maxRecDepth 100000 in
set_option maxHeartbeats 4000000 in
theorem jMo_keepsAhead_55 {X : Cx} {l : Launch} {G : Gx} {y : Ly} {a : Nat} (hL : LyMo y a ) (hX : Ok X l G prog_13_method_10_code 2 none "SaltFiguresModel")    : ∀ (fu : Nat) (v1 : Int32) (μ : Mu), J X G 2 1 y (emy y) rvV tpT 55 [(0, .ref (G.1 + a)), (1, .int v1)] [] (μ, y) (Mo_keepsAhead_55 a   fu v1 μ) := by
  intro fu
  induction fu with
  | zero => intros; exact J_none
  | succ fu ih => intro v1 μ; exact jMo_keepsAhead_55b hL hX   ih v1 μ
set_option maxRecDepth 100000 in
set_option maxHeartbeats 4000000 in
theorem jMo_keepsAhead_53 {X : Cx} {l : Launch} {G : Gx} {y : Ly} {a : Nat} (hL : LyMo y a ) (hX : Ok X l G prog_13_method_10_code 2 none "SaltFiguresModel")      (μ : Mu) : J X G 2 1 y (emy y) rvV tpT 53 [(0, .ref (G.1 + a))] [] (μ, y) (Mo_keepsAhead_53 a     μ) := by
  unfold Mo_keepsAhead_53
  refine J_iconst (pc := 53) (n := 0) (v := 0) hX (by decide +kernel) (by decide +kernel) ?_
  refine J_istore_n (k0 := 1) (pc := 54) [(1, .int 0), (0, .ref (G.1 + a))] hX (by decide +kernel) rfl (by decide) rfl ?_
  exact J_sub [1, 0] _ rfl (jMo_keepsAhead_55 hL hX FU 0 μ)
set_option maxRecDepth 100000 in
set_option maxHeartbeats 4000000 in
theorem jMo_keepsAhead_21b {X : Cx} {l : Launch} {G : Gx} {y : Ly} {a : Nat} (hL : LyMo y a ) (hX : Ok X l G prog_13_method_10_code 2 none "SaltFiguresModel")   {kb21 : Int32 → Mu → Option (Unit × Mu)}  (hk21 : ∀ (v1 : Int32) (μ : Mu), J X G 2 1 y (emy y) rvV tpT 21 [(0, .ref (G.1 + a)), (1, .int v1)] [] (μ, y) (kb21 v1 μ)) (v1 : Int32)  (μ : Mu) : J X G 2 1 y (emy y) rvV tpT 21 [(0, .ref (G.1 + a)), (1, .int v1)] [] (μ, y) (Mo_keepsAhead_21b a  kb21  v1  μ) := by
  unfold Mo_keepsAhead_21b
  refine J_iload_n (k0 := 1) (pc := 21) 1 hX (by decide +kernel) rfl rfl ?_
  refine J_bipush (pc := 22) (n := 118) (v := 118) hX (by decide +kernel) (by decide +kernel) ?_
  refine J_aload_n (k0 := 0) (pc := 24) 0 hX (by decide +kernel) rfl rfl ?_
  refine J_gF (pc := 25) hX (by decide +kernel) fl_Mo_135 hL.1 rfl (fun x1 => ?_)
  refine J_imul (pc := 28) hX (by decide +kernel) ?_
  refine J_icmp_ge (pc := 29) (off := 24) (tgt := 53) hX (by decide +kernel) (by decide +kernel) (fun _ => ?_) (fun _ => ?_)
  · exact J_sub [0] _ rfl (jMo_keepsAhead_53 hL hX μ)
  · refine J_aload_n (k0 := 0) (pc := 32) 0 hX (by decide +kernel) rfl rfl ?_
    refine J_gr (pc := 33) hX (by decide +kernel) fl_Mo_13 hL.1 rfl hL.2.2.1.1 ?_
    refine J_iload_n (k0 := 1) (pc := 36) 1 hX (by decide +kernel) rfl rfl ?_
    refine J_aload_n (k0 := 0) (pc := 37) 0 hX (by decide +kernel) rfl rfl ?_
    refine J_gr (pc := 38) hX (by decide +kernel) fl_Mo_13 hL.1 rfl hL.2.2.1.1 ?_
    refine J_iload_n (k0 := 1) (pc := 41) 1 hX (by decide +kernel) rfl rfl ?_
    refine J_bipush (pc := 42) (n := 118) (v := 118) hX (by decide +kernel) (by decide +kernel) ?_
    refine J_iadd (pc := 44) hX (by decide +kernel) ?_
    refine J_ldA (pc := 45) hX (by decide +kernel) hL.2.2.1.2 (fun x2 => ?_)
    refine J_stA (pc := 46) hX (by decide +kernel) hL.2.2.1.2 (fun μ3 => ?_)
    refine J_iinc (pc := 47) (n := 1) 1 [(1, .int (v1 + 1)), (0, .ref (G.1 + a))] hX (by decide +kernel) rfl rfl (by decide) rfl ?_
    refine J_goto (pc := 50) (off := -29) (tgt := 21) hX (by decide +kernel) (by decide +kernel) ?_
    exact J_sub [1, 0] _ rfl (hk21 (v1 + 1) μ3)
set_option maxRecDepth 100000 in
set_option maxHeartbeats 4000000 in
theorem jMo_keepsAhead_21 {X : Cx} {l : Launch} {G : Gx} {y : Ly} {a : Nat} (hL : LyMo y a ) (hX : Ok X l G prog_13_method_10_code 2 none "SaltFiguresModel")    : ∀ (fu : Nat) (v1 : Int32) (μ : Mu), J X G 2 1 y (emy y) rvV tpT 21 [(0, .ref (G.1 + a)), (1, .int v1)] [] (μ, y) (Mo_keepsAhead_21 a   fu v1 μ) := by
  intro fu
  induction fu with
  | zero => intros; exact J_none
  | succ fu ih => intro v1 μ; exact jMo_keepsAhead_21b hL hX   ih v1 μ
set_option maxRecDepth 100000 in
set_option maxHeartbeats 4000000 in
theorem jMo_keepsAhead {X : Cx} {l : Launch} {G : Gx} {y : Ly} {a : Nat} (hL : LyMo y a ) (hX : Ok X l G prog_13_method_10_code 2 none "SaltFiguresModel")  (μ : Mu) : J X G 2 1 y (emy y) rvV tpT 0 [(0, .ref (G.1 + a))] [] (μ, y) (Mo_keepsAhead a  μ) := by
  unfold Mo_keepsAhead
  refine J_aload_n (k0 := 0) (pc := 0) 0 hX (by decide +kernel) rfl rfl ?_
  refine J_gF (pc := 1) hX (by decide +kernel) fl_Mo_135 hL.1 rfl (fun x1 => ?_)
  refine J_bipush (pc := 4) (n := 6) (v := 6) hX (by decide +kernel) (by decide +kernel) ?_
  refine J_icmp_ne (pc := 6) (off := 47) (tgt := 53) hX (by decide +kernel) (by decide +kernel) (fun _ => ?_) (fun _ => ?_)
  · exact J_sub [0] _ rfl (jMo_keepsAhead_53 hL hX μ)
  · refine J_aload_n (k0 := 0) (pc := 9) 0 hX (by decide +kernel) rfl rfl ?_
    refine J_aload_n (k0 := 0) (pc := 10) 0 hX (by decide +kernel) rfl rfl ?_
    refine J_gF (pc := 11) hX (by decide +kernel) fl_Mo_135 hL.1 rfl (fun x2 => ?_)
    refine J_iconst (pc := 14) (n := 1) (v := 1) hX (by decide +kernel) (by decide +kernel) ?_
    refine J_isub (pc := 15) hX (by decide +kernel) ?_
    refine J_pF (pc := 16) hX (by decide +kernel) fl_Mo_135 hL.1 rfl (fun μ3 => ?_)
    refine J_iconst (pc := 19) (n := 0) (v := 0) hX (by decide +kernel) (by decide +kernel) ?_
    refine J_istore_n (k0 := 1) (pc := 20) [(1, .int 0), (0, .ref (G.1 + a))] hX (by decide +kernel) rfl (by decide) rfl ?_
    exact J_sub [1, 0] _ rfl (jMo_keepsAhead_21 hL hX FU 0 μ3)
set_option maxRecDepth 100000 in
set_option maxHeartbeats 4000000 in
theorem c_Mo_keepsAhead {l : Launch} {G : Gx} {y : Ly} {a : Nat} (hL : LyMo y a )  (μ : Mu) : Cn l G ⟨"SaltFiguresModel", "keepsAhead", "()V"⟩ prog_13_method_10_code 2 none 1 [.ref (G.1 + a)] (μ, y) (emy y) rvV tpT (Mo_keepsAhead a  μ) := cn_of (by decide +kernel) (Nat.le_of_ble_eq_true rfl) (fun _ _ _ => ⟨List.prefix_refl _, trivial⟩) (fun X hX _ => jMo_keepsAhead hL hX  μ)

def Mo_besideOf (a : Nat) (v1 : Int32) (μ : Mu) : Option (Int32 × Mu) := cl (Mo_seatOf a v1 μ) (fun x2 μ1 => (if x2 = ((-1)) then some ((-1), μ1) else cl (Mo_seatOf a v1 μ1) (fun x4 μ3 => cl (Mo_whoHas a (x4 + 1) μ3) (fun x6 μ5 => some (x6, μ5)))))
set_option maxRecDepth 100000 in
set_option maxHeartbeats 4000000 in
theorem jMo_besideOf {X : Cx} {l : Launch} {G : Gx} {y : Ly} {a : Nat} (hL : LyMo y a ) (hX : Ok X l G prog_13_method_20_code 2 (some .int) "SaltFiguresModel") (v1 : Int32) (μ : Mu) : J X G 2 3 y (emy y) rvI tpT 0 [(0, .ref (G.1 + a)), (1, .int v1)] [] (μ, y) (Mo_besideOf a v1 μ) := by
  unfold Mo_besideOf
  refine J_aload_n (k0 := 0) (pc := 0) 0 hX (by decide +kernel) rfl rfl ?_
  refine J_iload_n (k0 := 1) (pc := 1) 1 hX (by decide +kernel) rfl rfl ?_
  refine J_cVi (pc := 2) (idx := 147) [.int v1] hX (by decide +kernel) (mq mt_7 154 (by decide +kernel)) mv_Mo_seatOf hL.1 rfl rfl (Nat.le_of_ble_eq_true rfl) (Nat.le_of_ble_eq_true rfl) (c_Mo_seatOf hL v1 μ) (fun x2 μ1 => ?_)
  refine J_iconst (pc := 5) (n := -1) (v := (-1)) hX (by decide +kernel) (by decide +kernel) ?_
  refine J_icmp_ne (pc := 6) (off := 7) (tgt := 13) hX (by decide +kernel) (by decide +kernel) (fun _ => ?_) (fun _ => ?_)
  · refine J_aload_n (k0 := 0) (pc := 13) 0 hX (by decide +kernel) rfl rfl ?_
    refine J_aload_n (k0 := 0) (pc := 14) 0 hX (by decide +kernel) rfl rfl ?_
    refine J_iload_n (k0 := 1) (pc := 15) 1 hX (by decide +kernel) rfl rfl ?_
    refine J_cVi (pc := 16) (idx := 147) [.int v1] hX (by decide +kernel) (mq mt_7 154 (by decide +kernel)) mv_Mo_seatOf hL.1 rfl rfl (Nat.le_of_ble_eq_true rfl) (Nat.le_of_ble_eq_true rfl) (c_Mo_seatOf hL v1 μ1) (fun x4 μ3 => ?_)
    refine J_iconst (pc := 19) (n := 1) (v := 1) hX (by decide +kernel) (by decide +kernel) ?_
    refine J_iadd (pc := 20) hX (by decide +kernel) ?_
    refine J_cVi (pc := 21) (idx := 151) [.int (x4 + 1)] hX (by decide +kernel) (mq mt_7 150 (by decide +kernel)) mv_Mo_whoHas hL.1 rfl rfl (Nat.le_of_ble_eq_true rfl) (Nat.le_of_ble_eq_true rfl) (c_Mo_whoHas hL (x4 + 1) μ3) (fun x6 μ5 => ?_)
    exact J_iret (pc := 24) hX (by decide +kernel) rfl trivial
  · refine J_iconst (pc := 9) (n := -1) (v := (-1)) hX (by decide +kernel) (by decide +kernel) ?_
    refine J_goto (pc := 10) (off := 14) (tgt := 24) hX (by decide +kernel) (by decide +kernel) ?_
    exact J_iret (pc := 24) hX (by decide +kernel) rfl trivial
set_option maxRecDepth 100000 in
set_option maxHeartbeats 4000000 in
theorem c_Mo_besideOf {l : Launch} {G : Gx} {y : Ly} {a : Nat} (hL : LyMo y a ) (v1 : Int32) (μ : Mu) : Cn l G ⟨"SaltFiguresModel", "besideOf", "(I)I"⟩ prog_13_method_20_code 2 (some .int) 3 [.ref (G.1 + a), .int v1] (μ, y) (emy y) rvI tpT (Mo_besideOf a v1 μ) := cn_of (by decide +kernel) (Nat.le_of_ble_eq_true rfl) (fun _ _ _ => ⟨List.prefix_refl _, trivial⟩) (fun X hX _ => jMo_besideOf hL hX v1 μ)

def Mo_heirsOf_28 (a : Nat) (kb4 : Int32 → Int32 → Mu → Option (Int32 × Mu))  (v1 : Int32) (v2 : Int32) (v3 : Int32)  (μ : Mu) : Option (Int32 × Mu) := kb4 v2 (v3 + 1) μ
def Mo_heirsOf_4b (a : Nat)  (kb4 : Int32 → Int32 → Mu → Option (Int32 × Mu)) (v1 : Int32) (v2 : Int32) (v3 : Int32)  (μ : Mu) : Option (Int32 × Mu) := gF μ a 6 (fun x1 => (if x1 ≤ v3 then some (v2, μ) else ldA μ (a + 18) 32 v3 (fun x2 => (if x2 = (v1 + 1) then Mo_heirsOf_28 a kb4 v1 (v2 + 1) v3 μ else Mo_heirsOf_28 a kb4 v1 v2 v3 μ))))
def Mo_heirsOf_4 (a : Nat)  (v1 : Int32) (fu : Nat) : Int32 → Int32 → Mu → Option (Int32 × Mu) := lp (fun kb => Mo_heirsOf_4b a  kb v1) (fun _ _ _ => none) fu
def Mo_heirsOf (a : Nat) (v1 : Int32) (μ : Mu) : Option (Int32 × Mu) := Mo_heirsOf_4 a v1 FU 0 0 μ
set_option maxRecDepth 100000 in
set_option maxHeartbeats 4000000 in
theorem jMo_heirsOf_28 {X : Cx} {l : Launch} {G : Gx} {y : Ly} {a : Nat} (hL : LyMo y a ) (hX : Ok X l G prog_13_method_64_code 4 (some .int) "SaltFiguresModel")  (v1 : Int32) (v2 : Int32) (v3 : Int32)  {kb4 : Int32 → Int32 → Mu → Option (Int32 × Mu)} (hk4 : ∀ (v2 : Int32) (v3 : Int32) (μ : Mu), J X G 4 1 y (emy y) rvI tpT 4 [(0, .ref (G.1 + a)), (1, .int v1), (2, .int v2), (3, .int v3)] [] (μ, y) (kb4 v2 v3 μ)) (μ : Mu) : J X G 4 1 y (emy y) rvI tpT 28 [(0, .ref (G.1 + a)), (1, .int v1), (2, .int v2), (3, .int v3)] [] (μ, y) (Mo_heirsOf_28 a kb4  v1 v2 v3  μ) := by
  unfold Mo_heirsOf_28
  refine J_iinc (pc := 28) (n := 1) 3 [(3, .int (v3 + 1)), (0, .ref (G.1 + a)), (1, .int v1), (2, .int v2)] hX (by decide +kernel) rfl rfl (by decide) rfl ?_
  refine J_goto (pc := 31) (off := -27) (tgt := 4) hX (by decide +kernel) (by decide +kernel) ?_
  exact J_sub [1, 2, 3, 0] _ rfl (hk4 v2 (v3 + 1) μ)
set_option maxRecDepth 100000 in
set_option maxHeartbeats 4000000 in
theorem jMo_heirsOf_4b {X : Cx} {l : Launch} {G : Gx} {y : Ly} {a : Nat} (hL : LyMo y a ) (hX : Ok X l G prog_13_method_64_code 4 (some .int) "SaltFiguresModel") (v1 : Int32)  {kb4 : Int32 → Int32 → Mu → Option (Int32 × Mu)}  (hk4 : ∀ (v2 : Int32) (v3 : Int32) (μ : Mu), J X G 4 1 y (emy y) rvI tpT 4 [(0, .ref (G.1 + a)), (1, .int v1), (2, .int v2), (3, .int v3)] [] (μ, y) (kb4 v2 v3 μ)) (v2 : Int32) (v3 : Int32)  (μ : Mu) : J X G 4 1 y (emy y) rvI tpT 4 [(0, .ref (G.1 + a)), (1, .int v1), (2, .int v2), (3, .int v3)] [] (μ, y) (Mo_heirsOf_4b a  kb4 v1 v2 v3  μ) := by
  unfold Mo_heirsOf_4b
  refine J_iload_n (k0 := 3) (pc := 4) 3 hX (by decide +kernel) rfl rfl ?_
  refine J_aload_n (k0 := 0) (pc := 5) 0 hX (by decide +kernel) rfl rfl ?_
  refine J_gF (pc := 6) hX (by decide +kernel) fl_Mo_144 hL.1 rfl (fun x1 => ?_)
  refine J_icmp_ge (pc := 9) (off := 25) (tgt := 34) hX (by decide +kernel) (by decide +kernel) (fun _ => ?_) (fun _ => ?_)
  · refine J_iload_n (k0 := 2) (pc := 34) 2 hX (by decide +kernel) rfl rfl ?_
    exact J_iret (pc := 35) hX (by decide +kernel) rfl trivial
  · refine J_aload_n (k0 := 0) (pc := 12) 0 hX (by decide +kernel) rfl rfl ?_
    refine J_gr (pc := 13) hX (by decide +kernel) fl_Mo_65 hL.1 rfl hL.2.2.2.2.2.2.2.2.2.2.2.2.2.2.2.2.2.2.1.1 ?_
    refine J_iload_n (k0 := 3) (pc := 16) 3 hX (by decide +kernel) rfl rfl ?_
    refine J_ldA (pc := 17) hX (by decide +kernel) hL.2.2.2.2.2.2.2.2.2.2.2.2.2.2.2.2.2.2.1.2 (fun x2 => ?_)
    refine J_iload_n (k0 := 1) (pc := 18) 1 hX (by decide +kernel) rfl rfl ?_
    refine J_iconst (pc := 19) (n := 1) (v := 1) hX (by decide +kernel) (by decide +kernel) ?_
    refine J_iadd (pc := 20) hX (by decide +kernel) ?_
    refine J_icmp_ne (pc := 21) (off := 7) (tgt := 28) hX (by decide +kernel) (by decide +kernel) (fun _ => ?_) (fun _ => ?_)
    · exact J_sub [0, 1, 2, 3] _ rfl (jMo_heirsOf_28 hL hX v1 v2 v3 hk4 μ)
    · refine J_iload_n (k0 := 2) (pc := 24) 2 hX (by decide +kernel) rfl rfl ?_
      refine J_iconst (pc := 25) (n := 1) (v := 1) hX (by decide +kernel) (by decide +kernel) ?_
      refine J_iadd (pc := 26) hX (by decide +kernel) ?_
      refine J_istore_n (k0 := 2) (pc := 27) [(2, .int (v2 + 1)), (0, .ref (G.1 + a)), (1, .int v1), (3, .int v3)] hX (by decide +kernel) rfl (by decide) rfl ?_
      exact J_sub [1, 2, 0, 3] _ rfl (jMo_heirsOf_28 hL hX v1 (v2 + 1) v3 hk4 μ)
set_option maxRecDepth 100000 in
set_option maxHeartbeats 4000000 in
theorem jMo_heirsOf_4 {X : Cx} {l : Launch} {G : Gx} {y : Ly} {a : Nat} (hL : LyMo y a ) (hX : Ok X l G prog_13_method_64_code 4 (some .int) "SaltFiguresModel") (v1 : Int32)   : ∀ (fu : Nat) (v2 : Int32) (v3 : Int32) (μ : Mu), J X G 4 1 y (emy y) rvI tpT 4 [(0, .ref (G.1 + a)), (1, .int v1), (2, .int v2), (3, .int v3)] [] (μ, y) (Mo_heirsOf_4 a  v1 fu v2 v3 μ) := by
  intro fu
  induction fu with
  | zero => intros; exact J_none
  | succ fu ih => intro v2 v3 μ; exact jMo_heirsOf_4b hL hX v1  ih v2 v3 μ
set_option maxRecDepth 100000 in
set_option maxHeartbeats 4000000 in
theorem jMo_heirsOf {X : Cx} {l : Launch} {G : Gx} {y : Ly} {a : Nat} (hL : LyMo y a ) (hX : Ok X l G prog_13_method_64_code 4 (some .int) "SaltFiguresModel") (v1 : Int32) (μ : Mu) : J X G 4 1 y (emy y) rvI tpT 0 [(0, .ref (G.1 + a)), (1, .int v1)] [] (μ, y) (Mo_heirsOf a v1 μ) := by
  unfold Mo_heirsOf
  refine J_iconst (pc := 0) (n := 0) (v := 0) hX (by decide +kernel) (by decide +kernel) ?_
  refine J_istore_n (k0 := 2) (pc := 1) [(2, .int 0), (0, .ref (G.1 + a)), (1, .int v1)] hX (by decide +kernel) rfl (by decide) rfl ?_
  refine J_iconst (pc := 2) (n := 0) (v := 0) hX (by decide +kernel) (by decide +kernel) ?_
  refine J_istore_n (k0 := 3) (pc := 3) [(3, .int 0), (2, .int 0), (0, .ref (G.1 + a)), (1, .int v1)] hX (by decide +kernel) rfl (by decide) rfl ?_
  exact J_sub [2, 3, 1, 0] _ rfl (jMo_heirsOf_4 hL hX v1 FU 0 0 μ)
set_option maxRecDepth 100000 in
set_option maxHeartbeats 4000000 in
theorem c_Mo_heirsOf {l : Launch} {G : Gx} {y : Ly} {a : Nat} (hL : LyMo y a ) (v1 : Int32) (μ : Mu) : Cn l G ⟨"SaltFiguresModel", "heirsOf", "(I)I"⟩ prog_13_method_64_code 4 (some .int) 1 [.ref (G.1 + a), .int v1] (μ, y) (emy y) rvI tpT (Mo_heirsOf a v1 μ) := cn_of (by decide +kernel) (Nat.le_of_ble_eq_true rfl) (fun _ _ _ => ⟨List.prefix_refl _, trivial⟩) (fun X hX _ => jMo_heirsOf hL hX v1 μ)

def Mo_asks_129 (a : Nat)   (v1 : Int32) (s0 : Int32) (s1 : Int32) (μ : Mu) : Option (Unit × Mu) := stA μ (a + 19) 10 s1 s0 (fun μ1 => cl (Mo_heirsOf a v1 μ1) (fun x3 μ2 => stA μ2 (a + 19) 10 8 x3 (fun μ4 => ldA μ4 (a + 1) 118 0 (fun x5 => stA μ4 (a + 19) 10 9 x5 (fun μ6 => some ((), μ6))))))
def Mo_asks (a : Nat) (v1 : Int32) (μ : Mu) : Option (Unit × Mu) := cl (Mo_besideOf a v1 μ) (fun x2 μ1 => ldA μ1 (a + 1) 118 (6 + v1) (fun x3 => stA μ1 (a + 19) 10 0 x3 (fun μ4 => ldA μ4 (a + 1) 118 (22 + v1) (fun x5 => stA μ4 (a + 19) 10 1 x5 (fun μ6 => ldA μ6 (a + 1) 118 3 (fun x7 => stA μ6 (a + 19) 10 2 x7 (fun μ8 => cl (Mo_seatOf a v1 μ8) (fun x10 μ9 => stA μ9 (a + 19) 10 3 x10 (fun μ11 => ldA μ11 (a + 1) 118 (38 + v1) (fun x12 => stA μ11 (a + 19) 10 4 x12 (fun μ13 => ldA μ13 (a + 1) 118 (54 + v1) (fun x14 => stA μ13 (a + 19) 10 5 x14 (fun μ15 => ldA μ15 (a + 1) 118 (70 + v1) (fun x16 => stA μ15 (a + 19) 10 6 x16 (fun μ17 => (if x2 = ((-1)) then Mo_asks_129 a v1 0 7 μ17 else ldA μ17 (a + 1) 118 (22 + x2) (fun x18 => Mo_asks_129 a v1 x18 7 μ17)))))))))))))))))
set_option maxRecDepth 100000 in
set_option maxHeartbeats 4000000 in
theorem jMo_asks_129 {X : Cx} {l : Launch} {G : Gx} {y : Ly} {a : Nat} (hL : LyMo y a ) (hX : Ok X l G prog_13_method_65_code 3 none "SaltFiguresModel")  (v1 : Int32) (s0 : Int32) (s1 : Int32)   (μ : Mu) : J X G 3 4 y (emy y) rvV tpT 129 [(0, .ref (G.1 + a)), (1, .int v1)] [.int s0, .int s1, .ref (G.1 + (a + 19))] (μ, y) (Mo_asks_129 a   v1 s0 s1 μ) := by
  unfold Mo_asks_129
  refine J_stA (pc := 129) hX (by decide +kernel) hL.2.2.2.2.2.2.2.2.2.2.2.2.2.2.2.2.2.2.2.1.2 (fun μ1 => ?_)
  refine J_aload_n (k0 := 0) (pc := 130) 0 hX (by decide +kernel) rfl rfl ?_
  refine J_gr (pc := 131) hX (by decide +kernel) fl_Mo_68 hL.1 rfl hL.2.2.2.2.2.2.2.2.2.2.2.2.2.2.2.2.2.2.2.1.1 ?_
  refine J_bipush (pc := 134) (n := 8) (v := 8) hX (by decide +kernel) (by decide +kernel) ?_
  refine J_aload_n (k0 := 0) (pc := 136) 0 hX (by decide +kernel) rfl rfl ?_
  refine J_iload_n (k0 := 1) (pc := 137) 1 hX (by decide +kernel) rfl rfl ?_
  refine J_cVi (pc := 138) (idx := 327) [.int v1] hX (by decide +kernel) (mq mt_7 190 (by decide +kernel)) mv_Mo_heirsOf hL.1 rfl rfl (Nat.le_of_ble_eq_true rfl) (Nat.le_of_ble_eq_true rfl) (c_Mo_heirsOf hL v1 μ1) (fun x3 μ2 => ?_)
  refine J_stA (pc := 141) hX (by decide +kernel) hL.2.2.2.2.2.2.2.2.2.2.2.2.2.2.2.2.2.2.2.1.2 (fun μ4 => ?_)
  refine J_aload_n (k0 := 0) (pc := 142) 0 hX (by decide +kernel) rfl rfl ?_
  refine J_gr (pc := 143) hX (by decide +kernel) fl_Mo_68 hL.1 rfl hL.2.2.2.2.2.2.2.2.2.2.2.2.2.2.2.2.2.2.2.1.1 ?_
  refine J_bipush (pc := 146) (n := 9) (v := 9) hX (by decide +kernel) (by decide +kernel) ?_
  refine J_aload_n (k0 := 0) (pc := 148) 0 hX (by decide +kernel) rfl rfl ?_
  refine J_gr (pc := 149) hX (by decide +kernel) fl_Mo_7 hL.1 rfl hL.2.1.1 ?_
  refine J_iconst (pc := 152) (n := 0) (v := 0) hX (by decide +kernel) (by decide +kernel) ?_
  refine J_ldA (pc := 153) hX (by decide +kernel) hL.2.1.2 (fun x5 => ?_)
  refine J_stA (pc := 154) hX (by decide +kernel) hL.2.2.2.2.2.2.2.2.2.2.2.2.2.2.2.2.2.2.2.1.2 (fun μ6 => ?_)
  exact J_vret (pc := 155) hX (by decide +kernel) rfl trivial
set_option maxRecDepth 100000 in
set_option maxHeartbeats 4000000 in
theorem jMo_asks {X : Cx} {l : Launch} {G : Gx} {y : Ly} {a : Nat} (hL : LyMo y a ) (hX : Ok X l G prog_13_method_65_code 3 none "SaltFiguresModel") (v1 : Int32) (μ : Mu) : J X G 3 4 y (emy y) rvV tpT 0 [(0, .ref (G.1 + a)), (1, .int v1)] [] (μ, y) (Mo_asks a v1 μ) := by
  unfold Mo_asks
  refine J_aload_n (k0 := 0) (pc := 0) 0 hX (by decide +kernel) rfl rfl ?_
  refine J_iload_n (k0 := 1) (pc := 1) 1 hX (by decide +kernel) rfl rfl ?_
  refine J_cVi (pc := 2) (idx := 324) [.int v1] hX (by decide +kernel) (mq mt_7 186 (by decide +kernel)) mv_Mo_besideOf hL.1 rfl rfl (Nat.le_of_ble_eq_true rfl) (Nat.le_of_ble_eq_true rfl) (c_Mo_besideOf hL v1 μ) (fun x2 μ1 => ?_)
  refine J_istore_n (k0 := 2) (pc := 5) [(2, .int x2), (0, .ref (G.1 + a)), (1, .int v1)] hX (by decide +kernel) rfl (by decide) rfl ?_
  refine J_aload_n (k0 := 0) (pc := 6) 1 hX (by decide +kernel) rfl rfl ?_
  refine J_gr (pc := 7) hX (by decide +kernel) fl_Mo_68 hL.1 rfl hL.2.2.2.2.2.2.2.2.2.2.2.2.2.2.2.2.2.2.2.1.1 ?_
  refine J_iconst (pc := 10) (n := 0) (v := 0) hX (by decide +kernel) (by decide +kernel) ?_
  refine J_aload_n (k0 := 0) (pc := 11) 1 hX (by decide +kernel) rfl rfl ?_
  refine J_gr (pc := 12) hX (by decide +kernel) fl_Mo_7 hL.1 rfl hL.2.1.1 ?_
  refine J_bipush (pc := 15) (n := 6) (v := 6) hX (by decide +kernel) (by decide +kernel) ?_
  refine J_iload_n (k0 := 1) (pc := 17) 2 hX (by decide +kernel) rfl rfl ?_
  refine J_iadd (pc := 18) hX (by decide +kernel) ?_
  refine J_ldA (pc := 19) hX (by decide +kernel) hL.2.1.2 (fun x3 => ?_)
  refine J_stA (pc := 20) hX (by decide +kernel) hL.2.2.2.2.2.2.2.2.2.2.2.2.2.2.2.2.2.2.2.1.2 (fun μ4 => ?_)
  refine J_aload_n (k0 := 0) (pc := 21) 1 hX (by decide +kernel) rfl rfl ?_
  refine J_gr (pc := 22) hX (by decide +kernel) fl_Mo_68 hL.1 rfl hL.2.2.2.2.2.2.2.2.2.2.2.2.2.2.2.2.2.2.2.1.1 ?_
  refine J_iconst (pc := 25) (n := 1) (v := 1) hX (by decide +kernel) (by decide +kernel) ?_
  refine J_aload_n (k0 := 0) (pc := 26) 1 hX (by decide +kernel) rfl rfl ?_
  refine J_gr (pc := 27) hX (by decide +kernel) fl_Mo_7 hL.1 rfl hL.2.1.1 ?_
  refine J_bipush (pc := 30) (n := 22) (v := 22) hX (by decide +kernel) (by decide +kernel) ?_
  refine J_iload_n (k0 := 1) (pc := 32) 2 hX (by decide +kernel) rfl rfl ?_
  refine J_iadd (pc := 33) hX (by decide +kernel) ?_
  refine J_ldA (pc := 34) hX (by decide +kernel) hL.2.1.2 (fun x5 => ?_)
  refine J_stA (pc := 35) hX (by decide +kernel) hL.2.2.2.2.2.2.2.2.2.2.2.2.2.2.2.2.2.2.2.1.2 (fun μ6 => ?_)
  refine J_aload_n (k0 := 0) (pc := 36) 1 hX (by decide +kernel) rfl rfl ?_
  refine J_gr (pc := 37) hX (by decide +kernel) fl_Mo_68 hL.1 rfl hL.2.2.2.2.2.2.2.2.2.2.2.2.2.2.2.2.2.2.2.1.1 ?_
  refine J_iconst (pc := 40) (n := 2) (v := 2) hX (by decide +kernel) (by decide +kernel) ?_
  refine J_aload_n (k0 := 0) (pc := 41) 1 hX (by decide +kernel) rfl rfl ?_
  refine J_gr (pc := 42) hX (by decide +kernel) fl_Mo_7 hL.1 rfl hL.2.1.1 ?_
  refine J_iconst (pc := 45) (n := 3) (v := 3) hX (by decide +kernel) (by decide +kernel) ?_
  refine J_ldA (pc := 46) hX (by decide +kernel) hL.2.1.2 (fun x7 => ?_)
  refine J_stA (pc := 47) hX (by decide +kernel) hL.2.2.2.2.2.2.2.2.2.2.2.2.2.2.2.2.2.2.2.1.2 (fun μ8 => ?_)
  refine J_aload_n (k0 := 0) (pc := 48) 1 hX (by decide +kernel) rfl rfl ?_
  refine J_gr (pc := 49) hX (by decide +kernel) fl_Mo_68 hL.1 rfl hL.2.2.2.2.2.2.2.2.2.2.2.2.2.2.2.2.2.2.2.1.1 ?_
  refine J_iconst (pc := 52) (n := 3) (v := 3) hX (by decide +kernel) (by decide +kernel) ?_
  refine J_aload_n (k0 := 0) (pc := 53) 1 hX (by decide +kernel) rfl rfl ?_
  refine J_iload_n (k0 := 1) (pc := 54) 2 hX (by decide +kernel) rfl rfl ?_
  refine J_cVi (pc := 55) (idx := 147) [.int v1] hX (by decide +kernel) (mq mt_7 154 (by decide +kernel)) mv_Mo_seatOf hL.1 rfl rfl (Nat.le_of_ble_eq_true rfl) (Nat.le_of_ble_eq_true rfl) (c_Mo_seatOf hL v1 μ8) (fun x10 μ9 => ?_)
  refine J_stA (pc := 58) hX (by decide +kernel) hL.2.2.2.2.2.2.2.2.2.2.2.2.2.2.2.2.2.2.2.1.2 (fun μ11 => ?_)
  refine J_aload_n (k0 := 0) (pc := 59) 1 hX (by decide +kernel) rfl rfl ?_
  refine J_gr (pc := 60) hX (by decide +kernel) fl_Mo_68 hL.1 rfl hL.2.2.2.2.2.2.2.2.2.2.2.2.2.2.2.2.2.2.2.1.1 ?_
  refine J_iconst (pc := 63) (n := 4) (v := 4) hX (by decide +kernel) (by decide +kernel) ?_
  refine J_aload_n (k0 := 0) (pc := 64) 1 hX (by decide +kernel) rfl rfl ?_
  refine J_gr (pc := 65) hX (by decide +kernel) fl_Mo_7 hL.1 rfl hL.2.1.1 ?_
  refine J_bipush (pc := 68) (n := 38) (v := 38) hX (by decide +kernel) (by decide +kernel) ?_
  refine J_iload_n (k0 := 1) (pc := 70) 2 hX (by decide +kernel) rfl rfl ?_
  refine J_iadd (pc := 71) hX (by decide +kernel) ?_
  refine J_ldA (pc := 72) hX (by decide +kernel) hL.2.1.2 (fun x12 => ?_)
  refine J_stA (pc := 73) hX (by decide +kernel) hL.2.2.2.2.2.2.2.2.2.2.2.2.2.2.2.2.2.2.2.1.2 (fun μ13 => ?_)
  refine J_aload_n (k0 := 0) (pc := 74) 1 hX (by decide +kernel) rfl rfl ?_
  refine J_gr (pc := 75) hX (by decide +kernel) fl_Mo_68 hL.1 rfl hL.2.2.2.2.2.2.2.2.2.2.2.2.2.2.2.2.2.2.2.1.1 ?_
  refine J_iconst (pc := 78) (n := 5) (v := 5) hX (by decide +kernel) (by decide +kernel) ?_
  refine J_aload_n (k0 := 0) (pc := 79) 1 hX (by decide +kernel) rfl rfl ?_
  refine J_gr (pc := 80) hX (by decide +kernel) fl_Mo_7 hL.1 rfl hL.2.1.1 ?_
  refine J_bipush (pc := 83) (n := 54) (v := 54) hX (by decide +kernel) (by decide +kernel) ?_
  refine J_iload_n (k0 := 1) (pc := 85) 2 hX (by decide +kernel) rfl rfl ?_
  refine J_iadd (pc := 86) hX (by decide +kernel) ?_
  refine J_ldA (pc := 87) hX (by decide +kernel) hL.2.1.2 (fun x14 => ?_)
  refine J_stA (pc := 88) hX (by decide +kernel) hL.2.2.2.2.2.2.2.2.2.2.2.2.2.2.2.2.2.2.2.1.2 (fun μ15 => ?_)
  refine J_aload_n (k0 := 0) (pc := 89) 1 hX (by decide +kernel) rfl rfl ?_
  refine J_gr (pc := 90) hX (by decide +kernel) fl_Mo_68 hL.1 rfl hL.2.2.2.2.2.2.2.2.2.2.2.2.2.2.2.2.2.2.2.1.1 ?_
  refine J_bipush (pc := 93) (n := 6) (v := 6) hX (by decide +kernel) (by decide +kernel) ?_
  refine J_aload_n (k0 := 0) (pc := 95) 1 hX (by decide +kernel) rfl rfl ?_
  refine J_gr (pc := 96) hX (by decide +kernel) fl_Mo_7 hL.1 rfl hL.2.1.1 ?_
  refine J_bipush (pc := 99) (n := 70) (v := 70) hX (by decide +kernel) (by decide +kernel) ?_
  refine J_iload_n (k0 := 1) (pc := 101) 2 hX (by decide +kernel) rfl rfl ?_
  refine J_iadd (pc := 102) hX (by decide +kernel) ?_
  refine J_ldA (pc := 103) hX (by decide +kernel) hL.2.1.2 (fun x16 => ?_)
  refine J_stA (pc := 104) hX (by decide +kernel) hL.2.2.2.2.2.2.2.2.2.2.2.2.2.2.2.2.2.2.2.1.2 (fun μ17 => ?_)
  refine J_aload_n (k0 := 0) (pc := 105) 1 hX (by decide +kernel) rfl rfl ?_
  refine J_gr (pc := 106) hX (by decide +kernel) fl_Mo_68 hL.1 rfl hL.2.2.2.2.2.2.2.2.2.2.2.2.2.2.2.2.2.2.2.1.1 ?_
  refine J_bipush (pc := 109) (n := 7) (v := 7) hX (by decide +kernel) (by decide +kernel) ?_
  refine J_iload_n (k0 := 2) (pc := 111) 0 hX (by decide +kernel) rfl rfl ?_
  refine J_iconst (pc := 112) (n := -1) (v := (-1)) hX (by decide +kernel) (by decide +kernel) ?_
  refine J_icmp_ne (pc := 113) (off := 7) (tgt := 120) hX (by decide +kernel) (by decide +kernel) (fun _ => ?_) (fun _ => ?_)
  · refine J_aload_n (k0 := 0) (pc := 120) 1 hX (by decide +kernel) rfl rfl ?_
    refine J_gr (pc := 121) hX (by decide +kernel) fl_Mo_7 hL.1 rfl hL.2.1.1 ?_
    refine J_bipush (pc := 124) (n := 22) (v := 22) hX (by decide +kernel) (by decide +kernel) ?_
    refine J_iload_n (k0 := 2) (pc := 126) 0 hX (by decide +kernel) rfl rfl ?_
    refine J_iadd (pc := 127) hX (by decide +kernel) ?_
    refine J_ldA (pc := 128) hX (by decide +kernel) hL.2.1.2 (fun x18 => ?_)
    exact J_sub [1, 2] _ rfl (jMo_asks_129 hL hX v1 x18 7 μ17)
  · refine J_iconst (pc := 116) (n := 0) (v := 0) hX (by decide +kernel) (by decide +kernel) ?_
    refine J_goto (pc := 117) (off := 12) (tgt := 129) hX (by decide +kernel) (by decide +kernel) ?_
    exact J_sub [1, 2] _ rfl (jMo_asks_129 hL hX v1 0 7 μ17)
set_option maxRecDepth 100000 in
set_option maxHeartbeats 4000000 in
theorem c_Mo_asks {l : Launch} {G : Gx} {y : Ly} {a : Nat} (hL : LyMo y a ) (v1 : Int32) (μ : Mu) : Cn l G ⟨"SaltFiguresModel", "asks", "(I)V"⟩ prog_13_method_65_code 3 none 4 [.ref (G.1 + a), .int v1] (μ, y) (emy y) rvV tpT (Mo_asks a v1 μ) := cn_of (by decide +kernel) (Nat.le_of_ble_eq_true rfl) (fun _ _ _ => ⟨List.prefix_refl _, trivial⟩) (fun X hX _ => jMo_asks hL hX v1 μ)

def Mo_twoOf (a : Nat) (v1 : Int32) (v2 : Int32) (v3 : Int32) (μ : Mu) : Option (Int32 × Mu) := (if v1 = 2 then some (v2 + v3, μ) else (if v1 = 3 then some (v2 - v3, μ) else (if v1 = 4 then some (v2 * v3, μ) else (if v1 = 5 then nz v3 (some (v2 / v3, μ)) else (if v1 = 6 then (if v3 ≤ v2 then some (0, μ) else some (1, μ)) else (if v1 = 7 then (if v2 = v3 then some (1, μ) else some (0, μ)) else (if v1 = 8 then (if v2 ≤ v3 then some (0, μ) else some (1, μ)) else (if v1 = 10 then some (v2 * v3, μ) else (if (v2 + v3) ≤ 0 then some (0, μ) else some (1, μ))))))))))
set_option maxRecDepth 100000 in
set_option maxHeartbeats 4000000 in
theorem jMo_twoOf {X : Cx} {l : Launch} {G : Gx} {y : Ly} {a : Nat} (hL : LyMo y a ) (hX : Ok X l G prog_13_method_61_code 4 (some .int) "SaltFiguresModel") (v1 : Int32) (v2 : Int32) (v3 : Int32) (μ : Mu) : J X G 4 1 y (emy y) rvI tpT 0 [(0, .ref (G.1 + a)), (1, .int v1), (2, .int v2), (3, .int v3)] [] (μ, y) (Mo_twoOf a v1 v2 v3 μ) := by
  unfold Mo_twoOf
  refine J_iload_n (k0 := 1) (pc := 0) 1 hX (by decide +kernel) rfl rfl ?_
  refine J_iconst (pc := 1) (n := 2) (v := 2) hX (by decide +kernel) (by decide +kernel) ?_
  refine J_icmp_ne (pc := 2) (off := 7) (tgt := 9) hX (by decide +kernel) (by decide +kernel) (fun _ => ?_) (fun _ => ?_)
  · refine J_iload_n (k0 := 1) (pc := 9) 1 hX (by decide +kernel) rfl rfl ?_
    refine J_iconst (pc := 10) (n := 3) (v := 3) hX (by decide +kernel) (by decide +kernel) ?_
    refine J_icmp_ne (pc := 11) (off := 7) (tgt := 18) hX (by decide +kernel) (by decide +kernel) (fun _ => ?_) (fun _ => ?_)
    · refine J_iload_n (k0 := 1) (pc := 18) 1 hX (by decide +kernel) rfl rfl ?_
      refine J_iconst (pc := 19) (n := 4) (v := 4) hX (by decide +kernel) (by decide +kernel) ?_
      refine J_icmp_ne (pc := 20) (off := 7) (tgt := 27) hX (by decide +kernel) (by decide +kernel) (fun _ => ?_) (fun _ => ?_)
      · refine J_iload_n (k0 := 1) (pc := 27) 1 hX (by decide +kernel) rfl rfl ?_
        refine J_iconst (pc := 28) (n := 5) (v := 5) hX (by decide +kernel) (by decide +kernel) ?_
        refine J_icmp_ne (pc := 29) (off := 7) (tgt := 36) hX (by decide +kernel) (by decide +kernel) (fun _ => ?_) (fun _ => ?_)
        · refine J_iload_n (k0 := 1) (pc := 36) 1 hX (by decide +kernel) rfl rfl ?_
          refine J_bipush (pc := 37) (n := 6) (v := 6) hX (by decide +kernel) (by decide +kernel) ?_
          refine J_icmp_ne (pc := 39) (off := 14) (tgt := 53) hX (by decide +kernel) (by decide +kernel) (fun _ => ?_) (fun _ => ?_)
          · refine J_iload_n (k0 := 1) (pc := 53) 1 hX (by decide +kernel) rfl rfl ?_
            refine J_bipush (pc := 54) (n := 7) (v := 7) hX (by decide +kernel) (by decide +kernel) ?_
            refine J_icmp_ne (pc := 56) (off := 14) (tgt := 70) hX (by decide +kernel) (by decide +kernel) (fun _ => ?_) (fun _ => ?_)
            · refine J_iload_n (k0 := 1) (pc := 70) 1 hX (by decide +kernel) rfl rfl ?_
              refine J_bipush (pc := 71) (n := 8) (v := 8) hX (by decide +kernel) (by decide +kernel) ?_
              refine J_icmp_ne (pc := 73) (off := 14) (tgt := 87) hX (by decide +kernel) (by decide +kernel) (fun _ => ?_) (fun _ => ?_)
              · refine J_iload_n (k0 := 1) (pc := 87) 1 hX (by decide +kernel) rfl rfl ?_
                refine J_bipush (pc := 88) (n := 10) (v := 10) hX (by decide +kernel) (by decide +kernel) ?_
                refine J_icmp_ne (pc := 90) (off := 9) (tgt := 99) hX (by decide +kernel) (by decide +kernel) (fun _ => ?_) (fun _ => ?_)
                · refine J_iload_n (k0 := 2) (pc := 99) 2 hX (by decide +kernel) rfl rfl ?_
                  refine J_iload_n (k0 := 3) (pc := 100) 3 hX (by decide +kernel) rfl rfl ?_
                  refine J_iadd (pc := 101) hX (by decide +kernel) ?_
                  refine J_if_le (pc := 102) (off := 7) (tgt := 109) hX (by decide +kernel) (by decide +kernel) (fun _ => ?_) (fun _ => ?_)
                  · refine J_iconst (pc := 109) (n := 0) (v := 0) hX (by decide +kernel) (by decide +kernel) ?_
                    exact J_iret (pc := 110) hX (by decide +kernel) rfl trivial
                  · refine J_iconst (pc := 105) (n := 1) (v := 1) hX (by decide +kernel) (by decide +kernel) ?_
                    refine J_goto (pc := 106) (off := 4) (tgt := 110) hX (by decide +kernel) (by decide +kernel) ?_
                    exact J_iret (pc := 110) hX (by decide +kernel) rfl trivial
                · refine J_iload_n (k0 := 2) (pc := 93) 2 hX (by decide +kernel) rfl rfl ?_
                  refine J_iload_n (k0 := 3) (pc := 94) 3 hX (by decide +kernel) rfl rfl ?_
                  refine J_imul (pc := 95) hX (by decide +kernel) ?_
                  refine J_goto (pc := 96) (off := 14) (tgt := 110) hX (by decide +kernel) (by decide +kernel) ?_
                  exact J_iret (pc := 110) hX (by decide +kernel) rfl trivial
              · refine J_iload_n (k0 := 2) (pc := 76) 2 hX (by decide +kernel) rfl rfl ?_
                refine J_iload_n (k0 := 3) (pc := 77) 3 hX (by decide +kernel) rfl rfl ?_
                refine J_icmp_le (pc := 78) (off := 7) (tgt := 85) hX (by decide +kernel) (by decide +kernel) (fun _ => ?_) (fun _ => ?_)
                · refine J_iconst (pc := 85) (n := 0) (v := 0) hX (by decide +kernel) (by decide +kernel) ?_
                  exact J_iret (pc := 86) hX (by decide +kernel) rfl trivial
                · refine J_iconst (pc := 81) (n := 1) (v := 1) hX (by decide +kernel) (by decide +kernel) ?_
                  refine J_goto (pc := 82) (off := 4) (tgt := 86) hX (by decide +kernel) (by decide +kernel) ?_
                  exact J_iret (pc := 86) hX (by decide +kernel) rfl trivial
            · refine J_iload_n (k0 := 2) (pc := 59) 2 hX (by decide +kernel) rfl rfl ?_
              refine J_iload_n (k0 := 3) (pc := 60) 3 hX (by decide +kernel) rfl rfl ?_
              refine J_icmp_ne (pc := 61) (off := 7) (tgt := 68) hX (by decide +kernel) (by decide +kernel) (fun _ => ?_) (fun _ => ?_)
              · refine J_iconst (pc := 68) (n := 0) (v := 0) hX (by decide +kernel) (by decide +kernel) ?_
                exact J_iret (pc := 69) hX (by decide +kernel) rfl trivial
              · refine J_iconst (pc := 64) (n := 1) (v := 1) hX (by decide +kernel) (by decide +kernel) ?_
                refine J_goto (pc := 65) (off := 4) (tgt := 69) hX (by decide +kernel) (by decide +kernel) ?_
                exact J_iret (pc := 69) hX (by decide +kernel) rfl trivial
          · refine J_iload_n (k0 := 2) (pc := 42) 2 hX (by decide +kernel) rfl rfl ?_
            refine J_iload_n (k0 := 3) (pc := 43) 3 hX (by decide +kernel) rfl rfl ?_
            refine J_icmp_ge (pc := 44) (off := 7) (tgt := 51) hX (by decide +kernel) (by decide +kernel) (fun _ => ?_) (fun _ => ?_)
            · refine J_iconst (pc := 51) (n := 0) (v := 0) hX (by decide +kernel) (by decide +kernel) ?_
              exact J_iret (pc := 52) hX (by decide +kernel) rfl trivial
            · refine J_iconst (pc := 47) (n := 1) (v := 1) hX (by decide +kernel) (by decide +kernel) ?_
              refine J_goto (pc := 48) (off := 4) (tgt := 52) hX (by decide +kernel) (by decide +kernel) ?_
              exact J_iret (pc := 52) hX (by decide +kernel) rfl trivial
        · refine J_iload_n (k0 := 2) (pc := 32) 2 hX (by decide +kernel) rfl rfl ?_
          refine J_iload_n (k0 := 3) (pc := 33) 3 hX (by decide +kernel) rfl rfl ?_
          refine J_idiv (pc := 34) hX (by decide +kernel) (fun _ => ?_)
          exact J_iret (pc := 35) hX (by decide +kernel) rfl trivial
      · refine J_iload_n (k0 := 2) (pc := 23) 2 hX (by decide +kernel) rfl rfl ?_
        refine J_iload_n (k0 := 3) (pc := 24) 3 hX (by decide +kernel) rfl rfl ?_
        refine J_imul (pc := 25) hX (by decide +kernel) ?_
        exact J_iret (pc := 26) hX (by decide +kernel) rfl trivial
    · refine J_iload_n (k0 := 2) (pc := 14) 2 hX (by decide +kernel) rfl rfl ?_
      refine J_iload_n (k0 := 3) (pc := 15) 3 hX (by decide +kernel) rfl rfl ?_
      refine J_isub (pc := 16) hX (by decide +kernel) ?_
      exact J_iret (pc := 17) hX (by decide +kernel) rfl trivial
  · refine J_iload_n (k0 := 2) (pc := 5) 2 hX (by decide +kernel) rfl rfl ?_
    refine J_iload_n (k0 := 3) (pc := 6) 3 hX (by decide +kernel) rfl rfl ?_
    refine J_iadd (pc := 7) hX (by decide +kernel) ?_
    exact J_iret (pc := 8) hX (by decide +kernel) rfl trivial
set_option maxRecDepth 100000 in
set_option maxHeartbeats 4000000 in
theorem c_Mo_twoOf {l : Launch} {G : Gx} {y : Ly} {a : Nat} (hL : LyMo y a ) (v1 : Int32) (v2 : Int32) (v3 : Int32) (μ : Mu) : Cn l G ⟨"SaltFiguresModel", "twoOf", "(III)I"⟩ prog_13_method_61_code 4 (some .int) 1 [.ref (G.1 + a), .int v1, .int v2, .int v3] (μ, y) (emy y) rvI tpT (Mo_twoOf a v1 v2 v3 μ) := cn_of (by decide +kernel) (Nat.le_of_ble_eq_true rfl) (fun _ _ _ => ⟨List.prefix_refl _, trivial⟩) (fun X hX _ => jMo_twoOf hL hX v1 v2 v3 μ)

def Mo_runs_170 (a : Nat) (kb12 : Int32 → Int32 → Mu → Option (Int32 × Mu))  (v1 : Int32) (v3 : Int32) (v4 : Int32) (v5 : Int32)  (μ : Mu) : Option (Int32 × Mu) := kb12 v4 (v5 + 1) μ
def Mo_runs_83 (a : Nat) (kb12 : Int32 → Int32 → Mu → Option (Int32 × Mu))  (v1 : Int32) (v3 : Int32) (v4 : Int32) (v5 : Int32) (s0 : Int32) (s1 : Int32) (μ : Mu) : Option (Int32 × Mu) := stA μ (a + 20) 420 s1 s0 (fun μ1 => Mo_runs_170 a kb12 v1 v3 (v4 + 1) v5 μ1)
def Mo_runs_45 (a : Nat) (kb12 : Int32 → Int32 → Mu → Option (Int32 × Mu))  (v1 : Int32) (v3 : Int32) (v4 : Int32) (v5 : Int32)  (μ : Mu) : Option (Int32 × Mu) := ldA μ (a + 12) 1200 v5 (fun x1 => (if x1 = 0 then ldA μ (a + 13) 1200 v5 (fun x4 => Mo_runs_83 a kb12 v1 v3 v4 v5 x4 v4 μ) else ldA μ (a + 13) 1200 v5 (fun x2 => ldA μ (a + 19) 10 x2 (fun x3 => Mo_runs_83 a kb12 v1 v3 v4 v5 x3 v4 μ))))
def Mo_runs_12b (a : Nat)  (kb12 : Int32 → Int32 → Mu → Option (Int32 × Mu)) (v1 : Int32) (v3 : Int32) (v4 : Int32) (v5 : Int32)  (μ : Mu) : Option (Int32 × Mu) := (if ((400 * v1) + v3) ≤ v5 then ldA μ (a + 20) 420 0 (fun x1 => some (x1, μ)) else ldA μ (a + 12) 1200 v5 (fun x2 => (if x2 = 0 then Mo_runs_45 a kb12 v1 v3 v4 v5 μ else ldA μ (a + 12) 1200 v5 (fun x3 => (if x3 = 1 then Mo_runs_45 a kb12 v1 v3 v4 v5 μ else ldA μ (a + 12) 1200 v5 (fun x4 => (if x4 = 9 then ldA μ (a + 20) 420 (v4 - 1) (fun x11 => stA μ (a + 20) 420 (v4 - 1) (1 - x11) (fun μ12 => Mo_runs_170 a kb12 v1 v3 v4 v5 μ12)) else ldA μ (a + 12) 1200 v5 (fun x5 => ldA μ (a + 20) 420 ((v4 - 1) - 1) (fun x6 => ldA μ (a + 20) 420 (v4 - 1) (fun x7 => cl (Mo_twoOf a x5 x6 x7 μ) (fun x9 μ8 => stA μ8 (a + 20) 420 ((v4 - 1) - 1) x9 (fun μ10 => Mo_runs_170 a kb12 v1 v3 (v4 - 1) v5 μ10))))))))))))
def Mo_runs_12 (a : Nat)  (v1 : Int32) (v3 : Int32) (fu : Nat) : Int32 → Int32 → Mu → Option (Int32 × Mu) := lp (fun kb => Mo_runs_12b a  kb v1 v3) (fun _ _ _ => none) fu
def Mo_runs (a : Nat) (v1 : Int32) (v2 : Int32) (v3 : Int32) (μ : Mu) : Option (Int32 × Mu) := Mo_runs_12 a v1 v3 FU 0 ((400 * v1) + v2) μ
set_option maxRecDepth 100000 in
set_option maxHeartbeats 4000000 in
theorem jMo_runs_170 {X : Cx} {l : Launch} {G : Gx} {y : Ly} {a : Nat} (hL : LyMo y a ) (hX : Ok X l G prog_13_method_62_code 6 (some .int) "SaltFiguresModel")  (v1 : Int32) (v3 : Int32) (v4 : Int32) (v5 : Int32)  {kb12 : Int32 → Int32 → Mu → Option (Int32 × Mu)} (hk12 : ∀ (v4 : Int32) (v5 : Int32) (μ : Mu), J X G 6 2 y (emy y) rvI tpT 12 [(0, .ref (G.1 + a)), (1, .int v1), (3, .int v3), (4, .int v4), (5, .int v5)] [] (μ, y) (kb12 v4 v5 μ)) (μ : Mu) : J X G 6 2 y (emy y) rvI tpT 170 [(0, .ref (G.1 + a)), (1, .int v1), (3, .int v3), (4, .int v4), (5, .int v5)] [] (μ, y) (Mo_runs_170 a kb12  v1 v3 v4 v5  μ) := by
  unfold Mo_runs_170
  refine J_iinc (pc := 170) (n := 1) 4 [(5, .int (v5 + 1)), (0, .ref (G.1 + a)), (1, .int v1), (3, .int v3), (4, .int v4)] hX (by decide +kernel) rfl rfl (by decide) rfl ?_
  refine J_goto (pc := 173) (off := -161) (tgt := 12) hX (by decide +kernel) (by decide +kernel) ?_
  exact J_sub [1, 2, 3, 4, 0] _ rfl (hk12 v4 (v5 + 1) μ)
set_option maxRecDepth 100000 in
set_option maxHeartbeats 4000000 in
theorem jMo_runs_83 {X : Cx} {l : Launch} {G : Gx} {y : Ly} {a : Nat} (hL : LyMo y a ) (hX : Ok X l G prog_13_method_62_code 6 (some .int) "SaltFiguresModel")  (v1 : Int32) (v3 : Int32) (v4 : Int32) (v5 : Int32) (s0 : Int32) (s1 : Int32) {kb12 : Int32 → Int32 → Mu → Option (Int32 × Mu)} (hk12 : ∀ (v4 : Int32) (v5 : Int32) (μ : Mu), J X G 6 2 y (emy y) rvI tpT 12 [(0, .ref (G.1 + a)), (1, .int v1), (3, .int v3), (4, .int v4), (5, .int v5)] [] (μ, y) (kb12 v4 v5 μ)) (μ : Mu) : J X G 6 2 y (emy y) rvI tpT 83 [(0, .ref (G.1 + a)), (1, .int v1), (3, .int v3), (4, .int v4), (5, .int v5)] [.int s0, .int s1, .ref (G.1 + (a + 20))] (μ, y) (Mo_runs_83 a kb12  v1 v3 v4 v5 s0 s1 μ) := by
  unfold Mo_runs_83
  refine J_stA (pc := 83) hX (by decide +kernel) hL.2.2.2.2.2.2.2.2.2.2.2.2.2.2.2.2.2.2.2.2.1.2 (fun μ1 => ?_)
  refine J_iload (pc := 84) 3 hX (by decide +kernel) rfl ?_
  refine J_iconst (pc := 86) (n := 1) (v := 1) hX (by decide +kernel) (by decide +kernel) ?_
  refine J_iadd (pc := 87) hX (by decide +kernel) ?_
  refine J_istore (pc := 88) [(4, .int (v4 + 1)), (0, .ref (G.1 + a)), (1, .int v1), (3, .int v3), (5, .int v5)] hX (by decide +kernel) (by decide) rfl ?_
  refine J_goto (pc := 90) (off := 80) (tgt := 170) hX (by decide +kernel) (by decide +kernel) ?_
  exact J_sub [1, 2, 3, 0, 4] _ rfl (jMo_runs_170 hL hX v1 v3 (v4 + 1) v5 hk12 μ1)
set_option maxRecDepth 100000 in
set_option maxHeartbeats 4000000 in
theorem jMo_runs_45 {X : Cx} {l : Launch} {G : Gx} {y : Ly} {a : Nat} (hL : LyMo y a ) (hX : Ok X l G prog_13_method_62_code 6 (some .int) "SaltFiguresModel")  (v1 : Int32) (v3 : Int32) (v4 : Int32) (v5 : Int32)  {kb12 : Int32 → Int32 → Mu → Option (Int32 × Mu)} (hk12 : ∀ (v4 : Int32) (v5 : Int32) (μ : Mu), J X G 6 2 y (emy y) rvI tpT 12 [(0, .ref (G.1 + a)), (1, .int v1), (3, .int v3), (4, .int v4), (5, .int v5)] [] (μ, y) (kb12 v4 v5 μ)) (μ : Mu) : J X G 6 2 y (emy y) rvI tpT 45 [(0, .ref (G.1 + a)), (1, .int v1), (3, .int v3), (4, .int v4), (5, .int v5)] [] (μ, y) (Mo_runs_45 a kb12  v1 v3 v4 v5  μ) := by
  unfold Mo_runs_45
  refine J_aload_n (k0 := 0) (pc := 45) 0 hX (by decide +kernel) rfl rfl ?_
  refine J_gr (pc := 46) hX (by decide +kernel) fl_Mo_71 hL.1 rfl hL.2.2.2.2.2.2.2.2.2.2.2.2.2.2.2.2.2.2.2.2.1.1 ?_
  refine J_iload (pc := 49) 3 hX (by decide +kernel) rfl ?_
  refine J_aload_n (k0 := 0) (pc := 51) 0 hX (by decide +kernel) rfl rfl ?_
  refine J_gr (pc := 52) hX (by decide +kernel) fl_Mo_43 hL.1 rfl hL.2.2.2.2.2.2.2.2.2.2.2.2.1.1 ?_
  refine J_iload (pc := 55) 4 hX (by decide +kernel) rfl ?_
  refine J_ldA (pc := 57) hX (by decide +kernel) hL.2.2.2.2.2.2.2.2.2.2.2.2.1.2 (fun x1 => ?_)
  refine J_if_ne (pc := 58) (off := 13) (tgt := 71) hX (by decide +kernel) (by decide +kernel) (fun _ => ?_) (fun _ => ?_)
  · refine J_aload_n (k0 := 0) (pc := 71) 0 hX (by decide +kernel) rfl rfl ?_
    refine J_gr (pc := 72) hX (by decide +kernel) fl_Mo_68 hL.1 rfl hL.2.2.2.2.2.2.2.2.2.2.2.2.2.2.2.2.2.2.2.1.1 ?_
    refine J_aload_n (k0 := 0) (pc := 75) 0 hX (by decide +kernel) rfl rfl ?_
    refine J_gr (pc := 76) hX (by decide +kernel) fl_Mo_46 hL.1 rfl hL.2.2.2.2.2.2.2.2.2.2.2.2.2.1.1 ?_
    refine J_iload (pc := 79) 4 hX (by decide +kernel) rfl ?_
    refine J_ldA (pc := 81) hX (by decide +kernel) hL.2.2.2.2.2.2.2.2.2.2.2.2.2.1.2 (fun x2 => ?_)
    refine J_ldA (pc := 82) hX (by decide +kernel) hL.2.2.2.2.2.2.2.2.2.2.2.2.2.2.2.2.2.2.2.1.2 (fun x3 => ?_)
    exact J_sub [0, 1, 2, 3, 4] _ rfl (jMo_runs_83 hL hX v1 v3 v4 v5 x3 v4 hk12 μ)
  · refine J_aload_n (k0 := 0) (pc := 61) 0 hX (by decide +kernel) rfl rfl ?_
    refine J_gr (pc := 62) hX (by decide +kernel) fl_Mo_46 hL.1 rfl hL.2.2.2.2.2.2.2.2.2.2.2.2.2.1.1 ?_
    refine J_iload (pc := 65) 4 hX (by decide +kernel) rfl ?_
    refine J_ldA (pc := 67) hX (by decide +kernel) hL.2.2.2.2.2.2.2.2.2.2.2.2.2.1.2 (fun x4 => ?_)
    refine J_goto (pc := 68) (off := 15) (tgt := 83) hX (by decide +kernel) (by decide +kernel) ?_
    exact J_sub [0, 1, 2, 3, 4] _ rfl (jMo_runs_83 hL hX v1 v3 v4 v5 x4 v4 hk12 μ)
set_option maxRecDepth 100000 in
set_option maxHeartbeats 4000000 in
theorem jMo_runs_12b {X : Cx} {l : Launch} {G : Gx} {y : Ly} {a : Nat} (hL : LyMo y a ) (hX : Ok X l G prog_13_method_62_code 6 (some .int) "SaltFiguresModel") (v1 : Int32) (v3 : Int32)  {kb12 : Int32 → Int32 → Mu → Option (Int32 × Mu)}  (hk12 : ∀ (v4 : Int32) (v5 : Int32) (μ : Mu), J X G 6 2 y (emy y) rvI tpT 12 [(0, .ref (G.1 + a)), (1, .int v1), (3, .int v3), (4, .int v4), (5, .int v5)] [] (μ, y) (kb12 v4 v5 μ)) (v4 : Int32) (v5 : Int32)  (μ : Mu) : J X G 6 2 y (emy y) rvI tpT 12 [(0, .ref (G.1 + a)), (1, .int v1), (3, .int v3), (4, .int v4), (5, .int v5)] [] (μ, y) (Mo_runs_12b a  kb12 v1 v3 v4 v5  μ) := by
  unfold Mo_runs_12b
  refine J_iload (pc := 12) 4 hX (by decide +kernel) rfl ?_
  refine J_sipush (pc := 14) (n := 400) (v := 400) hX (by decide +kernel) (by decide +kernel) ?_
  refine J_iload_n (k0 := 1) (pc := 17) 1 hX (by decide +kernel) rfl rfl ?_
  refine J_imul (pc := 18) hX (by decide +kernel) ?_
  refine J_iload_n (k0 := 3) (pc := 19) 2 hX (by decide +kernel) rfl rfl ?_
  refine J_iadd (pc := 20) hX (by decide +kernel) ?_
  refine J_icmp_ge (pc := 21) (off := 155) (tgt := 176) hX (by decide +kernel) (by decide +kernel) (fun _ => ?_) (fun _ => ?_)
  · refine J_aload_n (k0 := 0) (pc := 176) 0 hX (by decide +kernel) rfl rfl ?_
    refine J_gr (pc := 177) hX (by decide +kernel) fl_Mo_71 hL.1 rfl hL.2.2.2.2.2.2.2.2.2.2.2.2.2.2.2.2.2.2.2.2.1.1 ?_
    refine J_iconst (pc := 180) (n := 0) (v := 0) hX (by decide +kernel) (by decide +kernel) ?_
    refine J_ldA (pc := 181) hX (by decide +kernel) hL.2.2.2.2.2.2.2.2.2.2.2.2.2.2.2.2.2.2.2.2.1.2 (fun x1 => ?_)
    exact J_iret (pc := 182) hX (by decide +kernel) rfl trivial
  · refine J_aload_n (k0 := 0) (pc := 24) 0 hX (by decide +kernel) rfl rfl ?_
    refine J_gr (pc := 25) hX (by decide +kernel) fl_Mo_43 hL.1 rfl hL.2.2.2.2.2.2.2.2.2.2.2.2.1.1 ?_
    refine J_iload (pc := 28) 4 hX (by decide +kernel) rfl ?_
    refine J_ldA (pc := 30) hX (by decide +kernel) hL.2.2.2.2.2.2.2.2.2.2.2.2.1.2 (fun x2 => ?_)
    refine J_if_eq (pc := 31) (off := 14) (tgt := 45) hX (by decide +kernel) (by decide +kernel) (fun _ => ?_) (fun _ => ?_)
    · exact J_sub [0, 1, 2, 3, 4] _ rfl (jMo_runs_45 hL hX v1 v3 v4 v5 hk12 μ)
    · refine J_aload_n (k0 := 0) (pc := 34) 0 hX (by decide +kernel) rfl rfl ?_
      refine J_gr (pc := 35) hX (by decide +kernel) fl_Mo_43 hL.1 rfl hL.2.2.2.2.2.2.2.2.2.2.2.2.1.1 ?_
      refine J_iload (pc := 38) 4 hX (by decide +kernel) rfl ?_
      refine J_ldA (pc := 40) hX (by decide +kernel) hL.2.2.2.2.2.2.2.2.2.2.2.2.1.2 (fun x3 => ?_)
      refine J_iconst (pc := 41) (n := 1) (v := 1) hX (by decide +kernel) (by decide +kernel) ?_
      refine J_icmp_ne (pc := 42) (off := 51) (tgt := 93) hX (by decide +kernel) (by decide +kernel) (fun _ => ?_) (fun _ => ?_)
      · refine J_aload_n (k0 := 0) (pc := 93) 0 hX (by decide +kernel) rfl rfl ?_
        refine J_gr (pc := 94) hX (by decide +kernel) fl_Mo_43 hL.1 rfl hL.2.2.2.2.2.2.2.2.2.2.2.2.1.1 ?_
        refine J_iload (pc := 97) 4 hX (by decide +kernel) rfl ?_
        refine J_ldA (pc := 99) hX (by decide +kernel) hL.2.2.2.2.2.2.2.2.2.2.2.2.1.2 (fun x4 => ?_)
        refine J_bipush (pc := 100) (n := 9) (v := 9) hX (by decide +kernel) (by decide +kernel) ?_
        refine J_icmp_ne (pc := 102) (off := 26) (tgt := 128) hX (by decide +kernel) (by decide +kernel) (fun _ => ?_) (fun _ => ?_)
        · refine J_iload (pc := 128) 3 hX (by decide +kernel) rfl ?_
          refine J_iconst (pc := 130) (n := 1) (v := 1) hX (by decide +kernel) (by decide +kernel) ?_
          refine J_isub (pc := 131) hX (by decide +kernel) ?_
          refine J_istore (pc := 132) [(4, .int (v4 - 1)), (0, .ref (G.1 + a)), (1, .int v1), (3, .int v3), (5, .int v5)] hX (by decide +kernel) (by decide) rfl ?_
          refine J_aload_n (k0 := 0) (pc := 134) 1 hX (by decide +kernel) rfl rfl ?_
          refine J_gr (pc := 135) hX (by decide +kernel) fl_Mo_71 hL.1 rfl hL.2.2.2.2.2.2.2.2.2.2.2.2.2.2.2.2.2.2.2.2.1.1 ?_
          refine J_iload (pc := 138) 0 hX (by decide +kernel) rfl ?_
          refine J_iconst (pc := 140) (n := 1) (v := 1) hX (by decide +kernel) (by decide +kernel) ?_
          refine J_isub (pc := 141) hX (by decide +kernel) ?_
          refine J_aload_n (k0 := 0) (pc := 142) 1 hX (by decide +kernel) rfl rfl ?_
          refine J_aload_n (k0 := 0) (pc := 143) 1 hX (by decide +kernel) rfl rfl ?_
          refine J_gr (pc := 144) hX (by decide +kernel) fl_Mo_43 hL.1 rfl hL.2.2.2.2.2.2.2.2.2.2.2.2.1.1 ?_
          refine J_iload (pc := 147) 4 hX (by decide +kernel) rfl ?_
          refine J_ldA (pc := 149) hX (by decide +kernel) hL.2.2.2.2.2.2.2.2.2.2.2.2.1.2 (fun x5 => ?_)
          refine J_aload_n (k0 := 0) (pc := 150) 1 hX (by decide +kernel) rfl rfl ?_
          refine J_gr (pc := 151) hX (by decide +kernel) fl_Mo_71 hL.1 rfl hL.2.2.2.2.2.2.2.2.2.2.2.2.2.2.2.2.2.2.2.2.1.1 ?_
          refine J_iload (pc := 154) 0 hX (by decide +kernel) rfl ?_
          refine J_iconst (pc := 156) (n := 1) (v := 1) hX (by decide +kernel) (by decide +kernel) ?_
          refine J_isub (pc := 157) hX (by decide +kernel) ?_
          refine J_ldA (pc := 158) hX (by decide +kernel) hL.2.2.2.2.2.2.2.2.2.2.2.2.2.2.2.2.2.2.2.2.1.2 (fun x6 => ?_)
          refine J_aload_n (k0 := 0) (pc := 159) 1 hX (by decide +kernel) rfl rfl ?_
          refine J_gr (pc := 160) hX (by decide +kernel) fl_Mo_71 hL.1 rfl hL.2.2.2.2.2.2.2.2.2.2.2.2.2.2.2.2.2.2.2.2.1.1 ?_
          refine J_iload (pc := 163) 0 hX (by decide +kernel) rfl ?_
          refine J_ldA (pc := 165) hX (by decide +kernel) hL.2.2.2.2.2.2.2.2.2.2.2.2.2.2.2.2.2.2.2.2.1.2 (fun x7 => ?_)
          refine J_cVi (pc := 166) (idx := 318) [.int x5, .int x6, .int x7] hX (by decide +kernel) (mq mt_7 206 (by decide +kernel)) mv_Mo_twoOf hL.1 rfl rfl (Nat.le_of_ble_eq_true rfl) (Nat.le_of_ble_eq_true rfl) (c_Mo_twoOf hL x5 x6 x7 μ) (fun x9 μ8 => ?_)
          refine J_stA (pc := 169) hX (by decide +kernel) hL.2.2.2.2.2.2.2.2.2.2.2.2.2.2.2.2.2.2.2.2.1.2 (fun μ10 => ?_)
          exact J_sub [1, 2, 3, 0, 4] _ rfl (jMo_runs_170 hL hX v1 v3 (v4 - 1) v5 hk12 μ10)
        · refine J_aload_n (k0 := 0) (pc := 105) 0 hX (by decide +kernel) rfl rfl ?_
          refine J_gr (pc := 106) hX (by decide +kernel) fl_Mo_71 hL.1 rfl hL.2.2.2.2.2.2.2.2.2.2.2.2.2.2.2.2.2.2.2.2.1.1 ?_
          refine J_iload (pc := 109) 3 hX (by decide +kernel) rfl ?_
          refine J_iconst (pc := 111) (n := 1) (v := 1) hX (by decide +kernel) (by decide +kernel) ?_
          refine J_isub (pc := 112) hX (by decide +kernel) ?_
          refine J_iconst (pc := 113) (n := 1) (v := 1) hX (by decide +kernel) (by decide +kernel) ?_
          refine J_aload_n (k0 := 0) (pc := 114) 0 hX (by decide +kernel) rfl rfl ?_
          refine J_gr (pc := 115) hX (by decide +kernel) fl_Mo_71 hL.1 rfl hL.2.2.2.2.2.2.2.2.2.2.2.2.2.2.2.2.2.2.2.2.1.1 ?_
          refine J_iload (pc := 118) 3 hX (by decide +kernel) rfl ?_
          refine J_iconst (pc := 120) (n := 1) (v := 1) hX (by decide +kernel) (by decide +kernel) ?_
          refine J_isub (pc := 121) hX (by decide +kernel) ?_
          refine J_ldA (pc := 122) hX (by decide +kernel) hL.2.2.2.2.2.2.2.2.2.2.2.2.2.2.2.2.2.2.2.2.1.2 (fun x11 => ?_)
          refine J_isub (pc := 123) hX (by decide +kernel) ?_
          refine J_stA (pc := 124) hX (by decide +kernel) hL.2.2.2.2.2.2.2.2.2.2.2.2.2.2.2.2.2.2.2.2.1.2 (fun μ12 => ?_)
          refine J_goto (pc := 125) (off := 45) (tgt := 170) hX (by decide +kernel) (by decide +kernel) ?_
          exact J_sub [0, 1, 2, 3, 4] _ rfl (jMo_runs_170 hL hX v1 v3 v4 v5 hk12 μ12)
      · exact J_sub [0, 1, 2, 3, 4] _ rfl (jMo_runs_45 hL hX v1 v3 v4 v5 hk12 μ)
set_option maxRecDepth 100000 in
set_option maxHeartbeats 4000000 in
theorem jMo_runs_12 {X : Cx} {l : Launch} {G : Gx} {y : Ly} {a : Nat} (hL : LyMo y a ) (hX : Ok X l G prog_13_method_62_code 6 (some .int) "SaltFiguresModel") (v1 : Int32) (v3 : Int32)   : ∀ (fu : Nat) (v4 : Int32) (v5 : Int32) (μ : Mu), J X G 6 2 y (emy y) rvI tpT 12 [(0, .ref (G.1 + a)), (1, .int v1), (3, .int v3), (4, .int v4), (5, .int v5)] [] (μ, y) (Mo_runs_12 a  v1 v3 fu v4 v5 μ) := by
  intro fu
  induction fu with
  | zero => intros; exact J_none
  | succ fu ih => intro v4 v5 μ; exact jMo_runs_12b hL hX v1 v3  ih v4 v5 μ
set_option maxRecDepth 100000 in
set_option maxHeartbeats 4000000 in
theorem jMo_runs {X : Cx} {l : Launch} {G : Gx} {y : Ly} {a : Nat} (hL : LyMo y a ) (hX : Ok X l G prog_13_method_62_code 6 (some .int) "SaltFiguresModel") (v1 : Int32) (v2 : Int32) (v3 : Int32) (μ : Mu) : J X G 6 2 y (emy y) rvI tpT 0 [(0, .ref (G.1 + a)), (1, .int v1), (2, .int v2), (3, .int v3)] [] (μ, y) (Mo_runs a v1 v2 v3 μ) := by
  unfold Mo_runs
  refine J_iconst (pc := 0) (n := 0) (v := 0) hX (by decide +kernel) (by decide +kernel) ?_
  refine J_istore (pc := 1) [(4, .int 0), (0, .ref (G.1 + a)), (1, .int v1), (2, .int v2), (3, .int v3)] hX (by decide +kernel) (by decide) rfl ?_
  refine J_sipush (pc := 3) (n := 400) (v := 400) hX (by decide +kernel) (by decide +kernel) ?_
  refine J_iload_n (k0 := 1) (pc := 6) 2 hX (by decide +kernel) rfl rfl ?_
  refine J_imul (pc := 7) hX (by decide +kernel) ?_
  refine J_iload_n (k0 := 2) (pc := 8) 3 hX (by decide +kernel) rfl rfl ?_
  refine J_iadd (pc := 9) hX (by decide +kernel) ?_
  refine J_istore (pc := 10) [(5, .int ((400 * v1) + v2)), (4, .int 0), (0, .ref (G.1 + a)), (1, .int v1), (2, .int v2), (3, .int v3)] hX (by decide +kernel) (by decide) rfl ?_
  exact J_sub [2, 3, 5, 1, 0] _ rfl (jMo_runs_12 hL hX v1 v3 FU 0 ((400 * v1) + v2) μ)
set_option maxRecDepth 100000 in
set_option maxHeartbeats 4000000 in
theorem c_Mo_runs {l : Launch} {G : Gx} {y : Ly} {a : Nat} (hL : LyMo y a ) (v1 : Int32) (v2 : Int32) (v3 : Int32) (μ : Mu) : Cn l G ⟨"SaltFiguresModel", "runs", "(III)I"⟩ prog_13_method_62_code 6 (some .int) 2 [.ref (G.1 + a), .int v1, .int v2, .int v3] (μ, y) (emy y) rvI tpT (Mo_runs a v1 v2 v3 μ) := cn_of (by decide +kernel) (Nat.le_of_ble_eq_true rfl) (fun _ _ _ => ⟨List.prefix_refl _, trivial⟩) (fun X hX _ => jMo_runs hL hX v1 v2 v3 μ)

def Mo_lineOf_59 (a : Nat) (kb2 : Int32 → Mu → Option (Int32 × Mu))  (v1 : Int32) (v2 : Int32)  (μ : Mu) : Option (Int32 × Mu) := kb2 (v2 + 1) μ
def Mo_lineOf_2b (a : Nat)  (kb2 : Int32 → Mu → Option (Int32 × Mu)) (v1 : Int32) (v2 : Int32)  (μ : Mu) : Option (Int32 × Mu) := ldA μ (a + 7) 2 0 (fun x1 => (if x1 ≤ v2 then some ((-1), μ) else ldA μ (a + 8) 48 v2 (fun x2 => (if x2 = v1 then ldA μ (a + 10) 48 v2 (fun x3 => ldA μ (a + 11) 48 v2 (fun x4 => (if x3 = x4 then some (v2, μ) else ldA μ (a + 10) 48 v2 (fun x5 => ldA μ (a + 11) 48 v2 (fun x6 => cl (Mo_runs a 0 x5 x6 μ) (fun x8 μ7 => (if x8 = 0 then Mo_lineOf_59 a kb2 v1 v2 μ7 else some (v2, μ7)))))))) else Mo_lineOf_59 a kb2 v1 v2 μ))))
def Mo_lineOf_2 (a : Nat)  (v1 : Int32) (fu : Nat) : Int32 → Mu → Option (Int32 × Mu) := lp (fun kb => Mo_lineOf_2b a  kb v1) (fun _ _ => none) fu
def Mo_lineOf (a : Nat) (v1 : Int32) (μ : Mu) : Option (Int32 × Mu) := Mo_lineOf_2 a v1 FU 0 μ
set_option maxRecDepth 100000 in
set_option maxHeartbeats 4000000 in
theorem jMo_lineOf_59 {X : Cx} {l : Launch} {G : Gx} {y : Ly} {a : Nat} (hL : LyMo y a ) (hX : Ok X l G prog_13_method_63_code 3 (some .int) "SaltFiguresModel")  (v1 : Int32) (v2 : Int32)  {kb2 : Int32 → Mu → Option (Int32 × Mu)} (hk2 : ∀ (v2 : Int32) (μ : Mu), J X G 3 3 y (emy y) rvI tpT 2 [(0, .ref (G.1 + a)), (1, .int v1), (2, .int v2)] [] (μ, y) (kb2 v2 μ)) (μ : Mu) : J X G 3 3 y (emy y) rvI tpT 59 [(0, .ref (G.1 + a)), (1, .int v1), (2, .int v2)] [] (μ, y) (Mo_lineOf_59 a kb2  v1 v2  μ) := by
  unfold Mo_lineOf_59
  refine J_iinc (pc := 59) (n := 1) 2 [(2, .int (v2 + 1)), (0, .ref (G.1 + a)), (1, .int v1)] hX (by decide +kernel) rfl rfl (by decide) rfl ?_
  refine J_goto (pc := 62) (off := -60) (tgt := 2) hX (by decide +kernel) (by decide +kernel) ?_
  exact J_sub [1, 2, 0] _ rfl (hk2 (v2 + 1) μ)
set_option maxRecDepth 100000 in
set_option maxHeartbeats 4000000 in
theorem jMo_lineOf_2b {X : Cx} {l : Launch} {G : Gx} {y : Ly} {a : Nat} (hL : LyMo y a ) (hX : Ok X l G prog_13_method_63_code 3 (some .int) "SaltFiguresModel") (v1 : Int32)  {kb2 : Int32 → Mu → Option (Int32 × Mu)}  (hk2 : ∀ (v2 : Int32) (μ : Mu), J X G 3 3 y (emy y) rvI tpT 2 [(0, .ref (G.1 + a)), (1, .int v1), (2, .int v2)] [] (μ, y) (kb2 v2 μ)) (v2 : Int32)  (μ : Mu) : J X G 3 3 y (emy y) rvI tpT 2 [(0, .ref (G.1 + a)), (1, .int v1), (2, .int v2)] [] (μ, y) (Mo_lineOf_2b a  kb2 v1 v2  μ) := by
  unfold Mo_lineOf_2b
  refine J_iload_n (k0 := 2) (pc := 2) 2 hX (by decide +kernel) rfl rfl ?_
  refine J_aload_n (k0 := 0) (pc := 3) 0 hX (by decide +kernel) rfl rfl ?_
  refine J_gr (pc := 4) hX (by decide +kernel) fl_Mo_28 hL.1 rfl hL.2.2.2.2.2.2.2.1.1 ?_
  refine J_iconst (pc := 7) (n := 0) (v := 0) hX (by decide +kernel) (by decide +kernel) ?_
  refine J_ldA (pc := 8) hX (by decide +kernel) hL.2.2.2.2.2.2.2.1.2 (fun x1 => ?_)
  refine J_icmp_ge (pc := 9) (off := 56) (tgt := 65) hX (by decide +kernel) (by decide +kernel) (fun _ => ?_) (fun _ => ?_)
  · refine J_iconst (pc := 65) (n := -1) (v := (-1)) hX (by decide +kernel) (by decide +kernel) ?_
    exact J_iret (pc := 66) hX (by decide +kernel) rfl trivial
  · refine J_aload_n (k0 := 0) (pc := 12) 0 hX (by decide +kernel) rfl rfl ?_
    refine J_gr (pc := 13) hX (by decide +kernel) fl_Mo_31 hL.1 rfl hL.2.2.2.2.2.2.2.2.1.1 ?_
    refine J_iload_n (k0 := 2) (pc := 16) 2 hX (by decide +kernel) rfl rfl ?_
    refine J_ldA (pc := 17) hX (by decide +kernel) hL.2.2.2.2.2.2.2.2.1.2 (fun x2 => ?_)
    refine J_iload_n (k0 := 1) (pc := 18) 1 hX (by decide +kernel) rfl rfl ?_
    refine J_icmp_ne (pc := 19) (off := 40) (tgt := 59) hX (by decide +kernel) (by decide +kernel) (fun _ => ?_) (fun _ => ?_)
    · exact J_sub [0, 1, 2] _ rfl (jMo_lineOf_59 hL hX v1 v2 hk2 μ)
    · refine J_aload_n (k0 := 0) (pc := 22) 0 hX (by decide +kernel) rfl rfl ?_
      refine J_gr (pc := 23) hX (by decide +kernel) fl_Mo_37 hL.1 rfl hL.2.2.2.2.2.2.2.2.2.2.1.1 ?_
      refine J_iload_n (k0 := 2) (pc := 26) 2 hX (by decide +kernel) rfl rfl ?_
      refine J_ldA (pc := 27) hX (by decide +kernel) hL.2.2.2.2.2.2.2.2.2.2.1.2 (fun x3 => ?_)
      refine J_aload_n (k0 := 0) (pc := 28) 0 hX (by decide +kernel) rfl rfl ?_
      refine J_gr (pc := 29) hX (by decide +kernel) fl_Mo_40 hL.1 rfl hL.2.2.2.2.2.2.2.2.2.2.2.1.1 ?_
      refine J_iload_n (k0 := 2) (pc := 32) 2 hX (by decide +kernel) rfl rfl ?_
      refine J_ldA (pc := 33) hX (by decide +kernel) hL.2.2.2.2.2.2.2.2.2.2.2.1.2 (fun x4 => ?_)
      refine J_icmp_eq (pc := 34) (off := 23) (tgt := 57) hX (by decide +kernel) (by decide +kernel) (fun _ => ?_) (fun _ => ?_)
      · refine J_iload_n (k0 := 2) (pc := 57) 2 hX (by decide +kernel) rfl rfl ?_
        exact J_iret (pc := 58) hX (by decide +kernel) rfl trivial
      · refine J_aload_n (k0 := 0) (pc := 37) 0 hX (by decide +kernel) rfl rfl ?_
        refine J_iconst (pc := 38) (n := 0) (v := 0) hX (by decide +kernel) (by decide +kernel) ?_
        refine J_aload_n (k0 := 0) (pc := 39) 0 hX (by decide +kernel) rfl rfl ?_
        refine J_gr (pc := 40) hX (by decide +kernel) fl_Mo_37 hL.1 rfl hL.2.2.2.2.2.2.2.2.2.2.1.1 ?_
        refine J_iload_n (k0 := 2) (pc := 43) 2 hX (by decide +kernel) rfl rfl ?_
        refine J_ldA (pc := 44) hX (by decide +kernel) hL.2.2.2.2.2.2.2.2.2.2.1.2 (fun x5 => ?_)
        refine J_aload_n (k0 := 0) (pc := 45) 0 hX (by decide +kernel) rfl rfl ?_
        refine J_gr (pc := 46) hX (by decide +kernel) fl_Mo_40 hL.1 rfl hL.2.2.2.2.2.2.2.2.2.2.2.1.1 ?_
        refine J_iload_n (k0 := 2) (pc := 49) 2 hX (by decide +kernel) rfl rfl ?_
        refine J_ldA (pc := 50) hX (by decide +kernel) hL.2.2.2.2.2.2.2.2.2.2.2.1.2 (fun x6 => ?_)
        refine J_cVi (pc := 51) (idx := 321) [.int 0, .int x5, .int x6] hX (by decide +kernel) (mq mt_7 202 (by decide +kernel)) mv_Mo_runs hL.1 rfl rfl (Nat.le_of_ble_eq_true rfl) (Nat.le_of_ble_eq_true rfl) (c_Mo_runs hL 0 x5 x6 μ) (fun x8 μ7 => ?_)
        refine J_if_eq (pc := 54) (off := 5) (tgt := 59) hX (by decide +kernel) (by decide +kernel) (fun _ => ?_) (fun _ => ?_)
        · exact J_sub [0, 1, 2] _ rfl (jMo_lineOf_59 hL hX v1 v2 hk2 μ7)
        · refine J_iload_n (k0 := 2) (pc := 57) 2 hX (by decide +kernel) rfl rfl ?_
          exact J_iret (pc := 58) hX (by decide +kernel) rfl trivial
set_option maxRecDepth 100000 in
set_option maxHeartbeats 4000000 in
theorem jMo_lineOf_2 {X : Cx} {l : Launch} {G : Gx} {y : Ly} {a : Nat} (hL : LyMo y a ) (hX : Ok X l G prog_13_method_63_code 3 (some .int) "SaltFiguresModel") (v1 : Int32)   : ∀ (fu : Nat) (v2 : Int32) (μ : Mu), J X G 3 3 y (emy y) rvI tpT 2 [(0, .ref (G.1 + a)), (1, .int v1), (2, .int v2)] [] (μ, y) (Mo_lineOf_2 a  v1 fu v2 μ) := by
  intro fu
  induction fu with
  | zero => intros; exact J_none
  | succ fu ih => intro v2 μ; exact jMo_lineOf_2b hL hX v1  ih v2 μ
set_option maxRecDepth 100000 in
set_option maxHeartbeats 4000000 in
theorem jMo_lineOf {X : Cx} {l : Launch} {G : Gx} {y : Ly} {a : Nat} (hL : LyMo y a ) (hX : Ok X l G prog_13_method_63_code 3 (some .int) "SaltFiguresModel") (v1 : Int32) (μ : Mu) : J X G 3 3 y (emy y) rvI tpT 0 [(0, .ref (G.1 + a)), (1, .int v1)] [] (μ, y) (Mo_lineOf a v1 μ) := by
  unfold Mo_lineOf
  refine J_iconst (pc := 0) (n := 0) (v := 0) hX (by decide +kernel) (by decide +kernel) ?_
  refine J_istore_n (k0 := 2) (pc := 1) [(2, .int 0), (0, .ref (G.1 + a)), (1, .int v1)] hX (by decide +kernel) rfl (by decide) rfl ?_
  exact J_sub [1, 2, 0] _ rfl (jMo_lineOf_2 hL hX v1 FU 0 μ)
set_option maxRecDepth 100000 in
set_option maxHeartbeats 4000000 in
theorem c_Mo_lineOf {l : Launch} {G : Gx} {y : Ly} {a : Nat} (hL : LyMo y a ) (v1 : Int32) (μ : Mu) : Cn l G ⟨"SaltFiguresModel", "lineOf", "(I)I"⟩ prog_13_method_63_code 3 (some .int) 3 [.ref (G.1 + a), .int v1] (μ, y) (emy y) rvI tpT (Mo_lineOf a v1 μ) := cn_of (by decide +kernel) (Nat.le_of_ble_eq_true rfl) (fun _ _ _ => ⟨List.prefix_refl _, trivial⟩) (fun X hX _ => jMo_lineOf hL hX v1 μ)

def Mo_held (a : Nat) (v1 : Int32) (v2 : Int32) (v3 : Int32) (μ : Mu) : Option (Int32 × Mu) := (if v2 ≤ v1 then (if v1 ≤ v3 then some (v1, μ) else some (v3, μ)) else some (v2, μ))
set_option maxRecDepth 100000 in
set_option maxHeartbeats 4000000 in
theorem jMo_held {X : Cx} {l : Launch} {G : Gx} {y : Ly} {a : Nat} (hL : LyMo y a ) (hX : Ok X l G prog_13_method_4_code 4 (some .int) "SaltFiguresModel") (v1 : Int32) (v2 : Int32) (v3 : Int32) (μ : Mu) : J X G 4 1 y (emy y) rvI tpT 0 [(0, .ref (G.1 + a)), (1, .int v1), (2, .int v2), (3, .int v3)] [] (μ, y) (Mo_held a v1 v2 v3 μ) := by
  unfold Mo_held
  refine J_iload_n (k0 := 1) (pc := 0) 1 hX (by decide +kernel) rfl rfl ?_
  refine J_iload_n (k0 := 2) (pc := 1) 2 hX (by decide +kernel) rfl rfl ?_
  refine J_icmp_ge (pc := 2) (off := 7) (tgt := 9) hX (by decide +kernel) (by decide +kernel) (fun _ => ?_) (fun _ => ?_)
  · refine J_iload_n (k0 := 1) (pc := 9) 1 hX (by decide +kernel) rfl rfl ?_
    refine J_iload_n (k0 := 3) (pc := 10) 3 hX (by decide +kernel) rfl rfl ?_
    refine J_icmp_le (pc := 11) (off := 7) (tgt := 18) hX (by decide +kernel) (by decide +kernel) (fun _ => ?_) (fun _ => ?_)
    · refine J_iload_n (k0 := 1) (pc := 18) 1 hX (by decide +kernel) rfl rfl ?_
      exact J_iret (pc := 19) hX (by decide +kernel) rfl trivial
    · refine J_iload_n (k0 := 3) (pc := 14) 3 hX (by decide +kernel) rfl rfl ?_
      refine J_goto (pc := 15) (off := 4) (tgt := 19) hX (by decide +kernel) (by decide +kernel) ?_
      exact J_iret (pc := 19) hX (by decide +kernel) rfl trivial
  · refine J_iload_n (k0 := 2) (pc := 5) 2 hX (by decide +kernel) rfl rfl ?_
    refine J_goto (pc := 6) (off := 13) (tgt := 19) hX (by decide +kernel) (by decide +kernel) ?_
    exact J_iret (pc := 19) hX (by decide +kernel) rfl trivial
set_option maxRecDepth 100000 in
set_option maxHeartbeats 4000000 in
theorem c_Mo_held {l : Launch} {G : Gx} {y : Ly} {a : Nat} (hL : LyMo y a ) (v1 : Int32) (v2 : Int32) (v3 : Int32) (μ : Mu) : Cn l G ⟨"SaltFiguresModel", "held", "(III)I"⟩ prog_13_method_4_code 4 (some .int) 1 [.ref (G.1 + a), .int v1, .int v2, .int v3] (μ, y) (emy y) rvI tpT (Mo_held a v1 v2 v3 μ) := cn_of (by decide +kernel) (Nat.le_of_ble_eq_true rfl) (fun _ _ _ => ⟨List.prefix_refl _, trivial⟩) (fun X hX _ => jMo_held hL hX v1 v2 v3 μ)

def Mo_lawTells_37 (a : Nat)   (v3 : Int32) (s0 : Int32) (μ : Mu) : Option (Int32 × Mu) := cl (Mo_held a s0 0 v3 μ) (fun x2 μ1 => some (x2, μ1))
def Mo_lawTells (a : Nat) (v1 : Int32) (v2 : Int32) (v3 : Int32) (μ : Mu) : Option (Int32 × Mu) := cl (Mo_lineOf a v1 μ) (fun x2 μ1 => (if x2 = ((-1)) then Mo_lawTells_37 a v3 v2 μ1 else ldA μ1 (a + 9) 48 x2 (fun x3 => ldA μ1 (a + 10) 48 x2 (fun x4 => cl (Mo_runs a 0 x3 x4 μ1) (fun x6 μ5 => Mo_lawTells_37 a v3 x6 μ5)))))
set_option maxRecDepth 100000 in
set_option maxHeartbeats 4000000 in
theorem jMo_lawTells_37 {X : Cx} {l : Launch} {G : Gx} {y : Ly} {a : Nat} (hL : LyMo y a ) (hX : Ok X l G prog_13_method_66_code 5 (some .int) "SaltFiguresModel")  (v3 : Int32) (s0 : Int32)   (μ : Mu) : J X G 5 4 y (emy y) rvI tpT 37 [(3, .int v3)] [.int s0, .ref (G.1 + a)] (μ, y) (Mo_lawTells_37 a   v3 s0 μ) := by
  unfold Mo_lawTells_37
  refine J_iconst (pc := 37) (n := 0) (v := 0) hX (by decide +kernel) (by decide +kernel) ?_
  refine J_iload_n (k0 := 3) (pc := 38) 0 hX (by decide +kernel) rfl rfl ?_
  refine J_cVi (pc := 39) (idx := 333) [.int s0, .int 0, .int v3] hX (by decide +kernel) (mq mt_7 210 (by decide +kernel)) mv_Mo_held hL.1 rfl rfl (Nat.le_of_ble_eq_true rfl) (Nat.le_of_ble_eq_true rfl) (c_Mo_held hL s0 0 v3 μ) (fun x2 μ1 => ?_)
  exact J_iret (pc := 42) hX (by decide +kernel) rfl trivial
set_option maxRecDepth 100000 in
set_option maxHeartbeats 4000000 in
theorem jMo_lawTells {X : Cx} {l : Launch} {G : Gx} {y : Ly} {a : Nat} (hL : LyMo y a ) (hX : Ok X l G prog_13_method_66_code 5 (some .int) "SaltFiguresModel") (v1 : Int32) (v2 : Int32) (v3 : Int32) (μ : Mu) : J X G 5 4 y (emy y) rvI tpT 0 [(0, .ref (G.1 + a)), (1, .int v1), (2, .int v2), (3, .int v3)] [] (μ, y) (Mo_lawTells a v1 v2 v3 μ) := by
  unfold Mo_lawTells
  refine J_aload_n (k0 := 0) (pc := 0) 0 hX (by decide +kernel) rfl rfl ?_
  refine J_iload_n (k0 := 1) (pc := 1) 1 hX (by decide +kernel) rfl rfl ?_
  refine J_cVi (pc := 2) (idx := 330) [.int v1] hX (by decide +kernel) (mq mt_7 198 (by decide +kernel)) mv_Mo_lineOf hL.1 rfl rfl (Nat.le_of_ble_eq_true rfl) (Nat.le_of_ble_eq_true rfl) (c_Mo_lineOf hL v1 μ) (fun x2 μ1 => ?_)
  refine J_istore (pc := 5) [(4, .int x2), (0, .ref (G.1 + a)), (1, .int v1), (2, .int v2), (3, .int v3)] hX (by decide +kernel) (by decide) rfl ?_
  refine J_aload_n (k0 := 0) (pc := 7) 1 hX (by decide +kernel) rfl rfl ?_
  refine J_iload (pc := 8) 0 hX (by decide +kernel) rfl ?_
  refine J_iconst (pc := 10) (n := -1) (v := (-1)) hX (by decide +kernel) (by decide +kernel) ?_
  refine J_icmp_ne (pc := 11) (off := 7) (tgt := 18) hX (by decide +kernel) (by decide +kernel) (fun _ => ?_) (fun _ => ?_)
  · refine J_aload_n (k0 := 0) (pc := 18) 1 hX (by decide +kernel) rfl rfl ?_
    refine J_iconst (pc := 19) (n := 0) (v := 0) hX (by decide +kernel) (by decide +kernel) ?_
    refine J_aload_n (k0 := 0) (pc := 20) 1 hX (by decide +kernel) rfl rfl ?_
    refine J_gr (pc := 21) hX (by decide +kernel) fl_Mo_34 hL.1 rfl hL.2.2.2.2.2.2.2.2.2.1.1 ?_
    refine J_iload (pc := 24) 0 hX (by decide +kernel) rfl ?_
    refine J_ldA (pc := 26) hX (by decide +kernel) hL.2.2.2.2.2.2.2.2.2.1.2 (fun x3 => ?_)
    refine J_aload_n (k0 := 0) (pc := 27) 1 hX (by decide +kernel) rfl rfl ?_
    refine J_gr (pc := 28) hX (by decide +kernel) fl_Mo_37 hL.1 rfl hL.2.2.2.2.2.2.2.2.2.2.1.1 ?_
    refine J_iload (pc := 31) 0 hX (by decide +kernel) rfl ?_
    refine J_ldA (pc := 33) hX (by decide +kernel) hL.2.2.2.2.2.2.2.2.2.2.1.2 (fun x4 => ?_)
    refine J_cVi (pc := 34) (idx := 321) [.int 0, .int x3, .int x4] hX (by decide +kernel) (mq mt_7 202 (by decide +kernel)) mv_Mo_runs hL.1 rfl rfl (Nat.le_of_ble_eq_true rfl) (Nat.le_of_ble_eq_true rfl) (c_Mo_runs hL 0 x3 x4 μ1) (fun x6 μ5 => ?_)
    exact J_sub [4] _ rfl (jMo_lawTells_37 hL hX v3 x6 μ5)
  · refine J_iload_n (k0 := 2) (pc := 14) 3 hX (by decide +kernel) rfl rfl ?_
    refine J_goto (pc := 15) (off := 22) (tgt := 37) hX (by decide +kernel) (by decide +kernel) ?_
    exact J_sub [4] _ rfl (jMo_lawTells_37 hL hX v3 v2 μ1)
set_option maxRecDepth 100000 in
set_option maxHeartbeats 4000000 in
theorem c_Mo_lawTells {l : Launch} {G : Gx} {y : Ly} {a : Nat} (hL : LyMo y a ) (v1 : Int32) (v2 : Int32) (v3 : Int32) (μ : Mu) : Cn l G ⟨"SaltFiguresModel", "lawTells", "(III)I"⟩ prog_13_method_66_code 5 (some .int) 4 [.ref (G.1 + a), .int v1, .int v2, .int v3] (μ, y) (emy y) rvI tpT (Mo_lawTells a v1 v2 v3 μ) := cn_of (by decide +kernel) (Nat.le_of_ble_eq_true rfl) (fun _ _ _ => ⟨List.prefix_refl _, trivial⟩) (fun X hX _ => jMo_lawTells hL hX v1 v2 v3 μ)

def Mo_throwsOf (a : Nat) (v1 : Int32) (μ : Mu) : Option (Int32 × Mu) := cl (Mo_asks a v1 μ) (fun _ μ1 => ldA μ1 (a + 19) 10 0 (fun x2 => cl (Mo_lawTells a 1 (10 * x2) 999 μ1) (fun x4 μ3 => some (x4, μ3))))
set_option maxRecDepth 100000 in
set_option maxHeartbeats 4000000 in
theorem jMo_throwsOf {X : Cx} {l : Launch} {G : Gx} {y : Ly} {a : Nat} (hL : LyMo y a ) (hX : Ok X l G prog_13_method_68_code 2 (some .int) "SaltFiguresModel") (v1 : Int32) (μ : Mu) : J X G 2 5 y (emy y) rvI tpT 0 [(0, .ref (G.1 + a)), (1, .int v1)] [] (μ, y) (Mo_throwsOf a v1 μ) := by
  unfold Mo_throwsOf
  refine J_aload_n (k0 := 0) (pc := 0) 0 hX (by decide +kernel) rfl rfl ?_
  refine J_iload_n (k0 := 1) (pc := 1) 1 hX (by decide +kernel) rfl rfl ?_
  refine J_cVv (pc := 2) (idx := 336) [.int v1] hX (by decide +kernel) (mq mt_7 182 (by decide +kernel)) mv_Mo_asks hL.1 rfl rfl (Nat.le_of_ble_eq_true rfl) (Nat.le_of_ble_eq_true rfl) (c_Mo_asks hL v1 μ) (fun μ1 => ?_)
  refine J_aload_n (k0 := 0) (pc := 5) 0 hX (by decide +kernel) rfl rfl ?_
  refine J_iconst (pc := 6) (n := 1) (v := 1) hX (by decide +kernel) (by decide +kernel) ?_
  refine J_bipush (pc := 7) (n := 10) (v := 10) hX (by decide +kernel) (by decide +kernel) ?_
  refine J_aload_n (k0 := 0) (pc := 9) 0 hX (by decide +kernel) rfl rfl ?_
  refine J_gr (pc := 10) hX (by decide +kernel) fl_Mo_68 hL.1 rfl hL.2.2.2.2.2.2.2.2.2.2.2.2.2.2.2.2.2.2.2.1.1 ?_
  refine J_iconst (pc := 13) (n := 0) (v := 0) hX (by decide +kernel) (by decide +kernel) ?_
  refine J_ldA (pc := 14) hX (by decide +kernel) hL.2.2.2.2.2.2.2.2.2.2.2.2.2.2.2.2.2.2.2.1.2 (fun x2 => ?_)
  refine J_imul (pc := 15) hX (by decide +kernel) ?_
  refine J_sipush (pc := 16) (n := 999) (v := 999) hX (by decide +kernel) (by decide +kernel) ?_
  refine J_cVi (pc := 19) (idx := 339) [.int 1, .int (10 * x2), .int 999] hX (by decide +kernel) (mq mt_7 194 (by decide +kernel)) mv_Mo_lawTells hL.1 rfl rfl (Nat.le_of_ble_eq_true rfl) (Nat.le_of_ble_eq_true rfl) (c_Mo_lawTells hL 1 (10 * x2) 999 μ1) (fun x4 μ3 => ?_)
  exact J_iret (pc := 22) hX (by decide +kernel) rfl trivial
set_option maxRecDepth 100000 in
set_option maxHeartbeats 4000000 in
theorem c_Mo_throwsOf {l : Launch} {G : Gx} {y : Ly} {a : Nat} (hL : LyMo y a ) (v1 : Int32) (μ : Mu) : Cn l G ⟨"SaltFiguresModel", "throwsOf", "(I)I"⟩ prog_13_method_68_code 2 (some .int) 5 [.ref (G.1 + a), .int v1] (μ, y) (emy y) rvI tpT (Mo_throwsOf a v1 μ) := cn_of (by decide +kernel) (Nat.le_of_ble_eq_true rfl) (fun _ _ _ => ⟨List.prefix_refl _, trivial⟩) (fun X hX _ => jMo_throwsOf hL hX v1 μ)

def Mo_lesser (a : Nat) (v1 : Int32) (v2 : Int32) (μ : Mu) : Option (Int32 × Mu) := (if v2 ≤ v1 then some (v2, μ) else some (v1, μ))
set_option maxRecDepth 100000 in
set_option maxHeartbeats 4000000 in
theorem jMo_lesser {X : Cx} {l : Launch} {G : Gx} {y : Ly} {a : Nat} (hL : LyMo y a ) (hX : Ok X l G prog_13_method_6_code 3 (some .int) "SaltFiguresModel") (v1 : Int32) (v2 : Int32) (μ : Mu) : J X G 3 1 y (emy y) rvI tpT 0 [(0, .ref (G.1 + a)), (1, .int v1), (2, .int v2)] [] (μ, y) (Mo_lesser a v1 v2 μ) := by
  unfold Mo_lesser
  refine J_iload_n (k0 := 1) (pc := 0) 1 hX (by decide +kernel) rfl rfl ?_
  refine J_iload_n (k0 := 2) (pc := 1) 2 hX (by decide +kernel) rfl rfl ?_
  refine J_icmp_ge (pc := 2) (off := 7) (tgt := 9) hX (by decide +kernel) (by decide +kernel) (fun _ => ?_) (fun _ => ?_)
  · refine J_iload_n (k0 := 2) (pc := 9) 2 hX (by decide +kernel) rfl rfl ?_
    exact J_iret (pc := 10) hX (by decide +kernel) rfl trivial
  · refine J_iload_n (k0 := 1) (pc := 5) 1 hX (by decide +kernel) rfl rfl ?_
    refine J_goto (pc := 6) (off := 4) (tgt := 10) hX (by decide +kernel) (by decide +kernel) ?_
    exact J_iret (pc := 10) hX (by decide +kernel) rfl trivial
set_option maxRecDepth 100000 in
set_option maxHeartbeats 4000000 in
theorem c_Mo_lesser {l : Launch} {G : Gx} {y : Ly} {a : Nat} (hL : LyMo y a ) (v1 : Int32) (v2 : Int32) (μ : Mu) : Cn l G ⟨"SaltFiguresModel", "lesser", "(II)I"⟩ prog_13_method_6_code 3 (some .int) 1 [.ref (G.1 + a), .int v1, .int v2] (μ, y) (emy y) rvI tpT (Mo_lesser a v1 v2 μ) := cn_of (by decide +kernel) (Nat.le_of_ble_eq_true rfl) (fun _ _ _ => ⟨List.prefix_refl _, trivial⟩) (fun X hX _ => jMo_lesser hL hX v1 v2 μ)

def Mo_gets (a : Nat) (v1 : Int32) (v2 : Int32) (μ : Mu) : Option (Int32 × Mu) := ldA μ (a + 1) 118 (22 + v1) (fun x1 => cl (Mo_lesser a v2 (9999 - x1) μ) (fun x3 μ2 => ldA μ2 (a + 1) 118 (22 + v1) (fun x4 => stA μ2 (a + 1) 118 (22 + v1) (x4 + x3) (fun μ5 => ldA μ5 (a + 1) 118 5 (fun x6 => stA μ5 (a + 1) 118 5 ((x6 + v2) - x3) (fun μ7 => some (x3, μ7)))))))
set_option maxRecDepth 100000 in
set_option maxHeartbeats 4000000 in
theorem jMo_gets {X : Cx} {l : Launch} {G : Gx} {y : Ly} {a : Nat} (hL : LyMo y a ) (hX : Ok X l G prog_13_method_71_code 4 (some .int) "SaltFiguresModel") (v1 : Int32) (v2 : Int32) (μ : Mu) : J X G 4 2 y (emy y) rvI tpT 0 [(0, .ref (G.1 + a)), (1, .int v1), (2, .int v2)] [] (μ, y) (Mo_gets a v1 v2 μ) := by
  unfold Mo_gets
  refine J_aload_n (k0 := 0) (pc := 0) 0 hX (by decide +kernel) rfl rfl ?_
  refine J_iload_n (k0 := 2) (pc := 1) 2 hX (by decide +kernel) rfl rfl ?_
  refine J_sipush (pc := 2) (n := 9999) (v := 9999) hX (by decide +kernel) (by decide +kernel) ?_
  refine J_aload_n (k0 := 0) (pc := 5) 0 hX (by decide +kernel) rfl rfl ?_
  refine J_gr (pc := 6) hX (by decide +kernel) fl_Mo_7 hL.1 rfl hL.2.1.1 ?_
  refine J_bipush (pc := 9) (n := 22) (v := 22) hX (by decide +kernel) (by decide +kernel) ?_
  refine J_iload_n (k0 := 1) (pc := 11) 1 hX (by decide +kernel) rfl rfl ?_
  refine J_iadd (pc := 12) hX (by decide +kernel) ?_
  refine J_ldA (pc := 13) hX (by decide +kernel) hL.2.1.2 (fun x1 => ?_)
  refine J_isub (pc := 14) hX (by decide +kernel) ?_
  refine J_cVi (pc := 15) (idx := 342) [.int v2, .int (9999 - x1)] hX (by decide +kernel) (mq mt_7 218 (by decide +kernel)) mv_Mo_lesser hL.1 rfl rfl (Nat.le_of_ble_eq_true rfl) (Nat.le_of_ble_eq_true rfl) (c_Mo_lesser hL v2 (9999 - x1) μ) (fun x3 μ2 => ?_)
  refine J_istore_n (k0 := 3) (pc := 18) [(3, .int x3), (0, .ref (G.1 + a)), (1, .int v1), (2, .int v2)] hX (by decide +kernel) rfl (by decide) rfl ?_
  refine J_aload_n (k0 := 0) (pc := 19) 1 hX (by decide +kernel) rfl rfl ?_
  refine J_gr (pc := 20) hX (by decide +kernel) fl_Mo_7 hL.1 rfl hL.2.1.1 ?_
  refine J_bipush (pc := 23) (n := 22) (v := 22) hX (by decide +kernel) (by decide +kernel) ?_
  refine J_iload_n (k0 := 1) (pc := 25) 2 hX (by decide +kernel) rfl rfl ?_
  refine J_iadd (pc := 26) hX (by decide +kernel) ?_
  refine J_aload_n (k0 := 0) (pc := 27) 1 hX (by decide +kernel) rfl rfl ?_
  refine J_gr (pc := 28) hX (by decide +kernel) fl_Mo_7 hL.1 rfl hL.2.1.1 ?_
  refine J_bipush (pc := 31) (n := 22) (v := 22) hX (by decide +kernel) (by decide +kernel) ?_
  refine J_iload_n (k0 := 1) (pc := 33) 2 hX (by decide +kernel) rfl rfl ?_
  refine J_iadd (pc := 34) hX (by decide +kernel) ?_
  refine J_ldA (pc := 35) hX (by decide +kernel) hL.2.1.2 (fun x4 => ?_)
  refine J_iload_n (k0 := 3) (pc := 36) 0 hX (by decide +kernel) rfl rfl ?_
  refine J_iadd (pc := 37) hX (by decide +kernel) ?_
  refine J_stA (pc := 38) hX (by decide +kernel) hL.2.1.2 (fun μ5 => ?_)
  refine J_aload_n (k0 := 0) (pc := 39) 1 hX (by decide +kernel) rfl rfl ?_
  refine J_gr (pc := 40) hX (by decide +kernel) fl_Mo_7 hL.1 rfl hL.2.1.1 ?_
  refine J_iconst (pc := 43) (n := 5) (v := 5) hX (by decide +kernel) (by decide +kernel) ?_
  refine J_aload_n (k0 := 0) (pc := 44) 1 hX (by decide +kernel) rfl rfl ?_
  refine J_gr (pc := 45) hX (by decide +kernel) fl_Mo_7 hL.1 rfl hL.2.1.1 ?_
  refine J_iconst (pc := 48) (n := 5) (v := 5) hX (by decide +kernel) (by decide +kernel) ?_
  refine J_ldA (pc := 49) hX (by decide +kernel) hL.2.1.2 (fun x6 => ?_)
  refine J_iload_n (k0 := 2) (pc := 50) 3 hX (by decide +kernel) rfl rfl ?_
  refine J_iadd (pc := 51) hX (by decide +kernel) ?_
  refine J_iload_n (k0 := 3) (pc := 52) 0 hX (by decide +kernel) rfl rfl ?_
  refine J_isub (pc := 53) hX (by decide +kernel) ?_
  refine J_stA (pc := 54) hX (by decide +kernel) hL.2.1.2 (fun μ7 => ?_)
  refine J_iload_n (k0 := 3) (pc := 55) 0 hX (by decide +kernel) rfl rfl ?_
  exact J_iret (pc := 56) hX (by decide +kernel) rfl trivial
set_option maxRecDepth 100000 in
set_option maxHeartbeats 4000000 in
theorem c_Mo_gets {l : Launch} {G : Gx} {y : Ly} {a : Nat} (hL : LyMo y a ) (v1 : Int32) (v2 : Int32) (μ : Mu) : Cn l G ⟨"SaltFiguresModel", "gets", "(II)I"⟩ prog_13_method_71_code 4 (some .int) 2 [.ref (G.1 + a), .int v1, .int v2] (μ, y) (emy y) rvI tpT (Mo_gets a v1 v2 μ) := cn_of (by decide +kernel) (Nat.le_of_ble_eq_true rfl) (fun _ _ _ => ⟨List.prefix_refl _, trivial⟩) (fun X hX _ => jMo_gets hL hX v1 v2 μ)

def Mo_notes (a : Nat) (v1 : Int32) (v2 : Int32) (v3 : Int32) (μ : Mu) : Option (Unit × Mu) := gF μ a 5 (fun x1 => (if x1 = 0 then ldA μ (a + 1) 118 2 (fun x2 => (if x2 = 150 then some ((), μ) else ldA μ (a + 1) 118 2 (fun x3 => ldA μ (a + 1) 118 0 (fun x4 => stA μ (a + 4) 600 (4 * x3) x4 (fun μ5 => stA μ5 (a + 4) 600 ((4 * x3) + 1) v1 (fun μ6 => stA μ6 (a + 4) 600 ((4 * x3) + 2) v2 (fun μ7 => stA μ7 (a + 4) 600 ((4 * x3) + 3) v3 (fun μ8 => ldA μ8 (a + 1) 118 2 (fun x9 => stA μ8 (a + 1) 118 2 (x9 + 1) (fun μ10 => some ((), μ10))))))))))) else some ((), μ)))
set_option maxRecDepth 100000 in
set_option maxHeartbeats 4000000 in
theorem jMo_notes {X : Cx} {l : Launch} {G : Gx} {y : Ly} {a : Nat} (hL : LyMo y a ) (hX : Ok X l G prog_13_method_70_code 5 none "SaltFiguresModel") (v1 : Int32) (v2 : Int32) (v3 : Int32) (μ : Mu) : J X G 5 1 y (emy y) rvV tpT 0 [(0, .ref (G.1 + a)), (1, .int v1), (2, .int v2), (3, .int v3)] [] (μ, y) (Mo_notes a v1 v2 v3 μ) := by
  unfold Mo_notes
  refine J_aload_n (k0 := 0) (pc := 0) 0 hX (by decide +kernel) rfl rfl ?_
  refine J_gF (pc := 1) hX (by decide +kernel) fl_Mo_138 hL.1 rfl (fun x1 => ?_)
  refine J_if_ne (pc := 4) (off := 15) (tgt := 19) hX (by decide +kernel) (by decide +kernel) (fun _ => ?_) (fun _ => ?_)
  · exact J_vret (pc := 19) hX (by decide +kernel) rfl trivial
  · refine J_aload_n (k0 := 0) (pc := 7) 0 hX (by decide +kernel) rfl rfl ?_
    refine J_gr (pc := 8) hX (by decide +kernel) fl_Mo_7 hL.1 rfl hL.2.1.1 ?_
    refine J_iconst (pc := 11) (n := 2) (v := 2) hX (by decide +kernel) (by decide +kernel) ?_
    refine J_ldA (pc := 12) hX (by decide +kernel) hL.2.1.2 (fun x2 => ?_)
    refine J_sipush (pc := 13) (n := 150) (v := 150) hX (by decide +kernel) (by decide +kernel) ?_
    refine J_icmp_ne (pc := 16) (off := 4) (tgt := 20) hX (by decide +kernel) (by decide +kernel) (fun _ => ?_) (fun _ => ?_)
    · refine J_iconst (pc := 20) (n := 4) (v := 4) hX (by decide +kernel) (by decide +kernel) ?_
      refine J_aload_n (k0 := 0) (pc := 21) 0 hX (by decide +kernel) rfl rfl ?_
      refine J_gr (pc := 22) hX (by decide +kernel) fl_Mo_7 hL.1 rfl hL.2.1.1 ?_
      refine J_iconst (pc := 25) (n := 2) (v := 2) hX (by decide +kernel) (by decide +kernel) ?_
      refine J_ldA (pc := 26) hX (by decide +kernel) hL.2.1.2 (fun x3 => ?_)
      refine J_imul (pc := 27) hX (by decide +kernel) ?_
      refine J_istore (pc := 28) [(4, .int (4 * x3)), (0, .ref (G.1 + a)), (1, .int v1), (2, .int v2), (3, .int v3)] hX (by decide +kernel) (by decide) rfl ?_
      refine J_aload_n (k0 := 0) (pc := 30) 1 hX (by decide +kernel) rfl rfl ?_
      refine J_gr (pc := 31) hX (by decide +kernel) fl_Mo_19 hL.1 rfl hL.2.2.2.2.1.1 ?_
      refine J_iload (pc := 34) 0 hX (by decide +kernel) rfl ?_
      refine J_aload_n (k0 := 0) (pc := 36) 1 hX (by decide +kernel) rfl rfl ?_
      refine J_gr (pc := 37) hX (by decide +kernel) fl_Mo_7 hL.1 rfl hL.2.1.1 ?_
      refine J_iconst (pc := 40) (n := 0) (v := 0) hX (by decide +kernel) (by decide +kernel) ?_
      refine J_ldA (pc := 41) hX (by decide +kernel) hL.2.1.2 (fun x4 => ?_)
      refine J_stA (pc := 42) hX (by decide +kernel) hL.2.2.2.2.1.2 (fun μ5 => ?_)
      refine J_aload_n (k0 := 0) (pc := 43) 1 hX (by decide +kernel) rfl rfl ?_
      refine J_gr (pc := 44) hX (by decide +kernel) fl_Mo_19 hL.1 rfl hL.2.2.2.2.1.1 ?_
      refine J_iload (pc := 47) 0 hX (by decide +kernel) rfl ?_
      refine J_iconst (pc := 49) (n := 1) (v := 1) hX (by decide +kernel) (by decide +kernel) ?_
      refine J_iadd (pc := 50) hX (by decide +kernel) ?_
      refine J_iload_n (k0 := 1) (pc := 51) 2 hX (by decide +kernel) rfl rfl ?_
      refine J_stA (pc := 52) hX (by decide +kernel) hL.2.2.2.2.1.2 (fun μ6 => ?_)
      refine J_aload_n (k0 := 0) (pc := 53) 1 hX (by decide +kernel) rfl rfl ?_
      refine J_gr (pc := 54) hX (by decide +kernel) fl_Mo_19 hL.1 rfl hL.2.2.2.2.1.1 ?_
      refine J_iload (pc := 57) 0 hX (by decide +kernel) rfl ?_
      refine J_iconst (pc := 59) (n := 2) (v := 2) hX (by decide +kernel) (by decide +kernel) ?_
      refine J_iadd (pc := 60) hX (by decide +kernel) ?_
      refine J_iload_n (k0 := 2) (pc := 61) 3 hX (by decide +kernel) rfl rfl ?_
      refine J_stA (pc := 62) hX (by decide +kernel) hL.2.2.2.2.1.2 (fun μ7 => ?_)
      refine J_aload_n (k0 := 0) (pc := 63) 1 hX (by decide +kernel) rfl rfl ?_
      refine J_gr (pc := 64) hX (by decide +kernel) fl_Mo_19 hL.1 rfl hL.2.2.2.2.1.1 ?_
      refine J_iload (pc := 67) 0 hX (by decide +kernel) rfl ?_
      refine J_iconst (pc := 69) (n := 3) (v := 3) hX (by decide +kernel) (by decide +kernel) ?_
      refine J_iadd (pc := 70) hX (by decide +kernel) ?_
      refine J_iload_n (k0 := 3) (pc := 71) 4 hX (by decide +kernel) rfl rfl ?_
      refine J_stA (pc := 72) hX (by decide +kernel) hL.2.2.2.2.1.2 (fun μ8 => ?_)
      refine J_aload_n (k0 := 0) (pc := 73) 1 hX (by decide +kernel) rfl rfl ?_
      refine J_gr (pc := 74) hX (by decide +kernel) fl_Mo_7 hL.1 rfl hL.2.1.1 ?_
      refine J_iconst (pc := 77) (n := 2) (v := 2) hX (by decide +kernel) (by decide +kernel) ?_
      refine J_aload_n (k0 := 0) (pc := 78) 1 hX (by decide +kernel) rfl rfl ?_
      refine J_gr (pc := 79) hX (by decide +kernel) fl_Mo_7 hL.1 rfl hL.2.1.1 ?_
      refine J_iconst (pc := 82) (n := 2) (v := 2) hX (by decide +kernel) (by decide +kernel) ?_
      refine J_ldA (pc := 83) hX (by decide +kernel) hL.2.1.2 (fun x9 => ?_)
      refine J_iconst (pc := 84) (n := 1) (v := 1) hX (by decide +kernel) (by decide +kernel) ?_
      refine J_iadd (pc := 85) hX (by decide +kernel) ?_
      refine J_stA (pc := 86) hX (by decide +kernel) hL.2.1.2 (fun μ10 => ?_)
      exact J_vret (pc := 87) hX (by decide +kernel) rfl trivial
    · exact J_vret (pc := 19) hX (by decide +kernel) rfl trivial
set_option maxRecDepth 100000 in
set_option maxHeartbeats 4000000 in
theorem c_Mo_notes {l : Launch} {G : Gx} {y : Ly} {a : Nat} (hL : LyMo y a ) (v1 : Int32) (v2 : Int32) (v3 : Int32) (μ : Mu) : Cn l G ⟨"SaltFiguresModel", "notes", "(III)V"⟩ prog_13_method_70_code 5 none 1 [.ref (G.1 + a), .int v1, .int v2, .int v3] (μ, y) (emy y) rvV tpT (Mo_notes a v1 v2 v3 μ) := cn_of (by decide +kernel) (Nat.le_of_ble_eq_true rfl) (fun _ _ _ => ⟨List.prefix_refl _, trivial⟩) (fun X hX _ => jMo_notes hL hX v1 v2 v3 μ)

def Mo_isSpilt (a : Nat) (v1 : Int32) (μ : Mu) : Option (Unit × Mu) := ldA μ (a + 1) 118 (38 + v1) (fun x1 => stA μ (a + 1) 118 (38 + v1) (x1 + 1) (fun μ2 => cl (Mo_throwsOf a v1 μ2) (fun x4 μ3 => ldA μ3 (a + 1) 118 (54 + v1) (fun x5 => stA μ3 (a + 1) 118 (54 + v1) (x5 + x4) (fun μ6 => cl (Mo_gets a v1 x4 μ6) (fun x8 μ7 => cl (Mo_notes a 0 v1 x4 μ7) (fun _ μ9 => some ((), μ9))))))))
set_option maxRecDepth 100000 in
set_option maxHeartbeats 4000000 in
theorem jMo_isSpilt {X : Cx} {l : Launch} {G : Gx} {y : Ly} {a : Nat} (hL : LyMo y a ) (hX : Ok X l G prog_13_method_72_code 3 none "SaltFiguresModel") (v1 : Int32) (μ : Mu) : J X G 3 6 y (emy y) rvV tpT 0 [(0, .ref (G.1 + a)), (1, .int v1)] [] (μ, y) (Mo_isSpilt a v1 μ) := by
  unfold Mo_isSpilt
  refine J_aload_n (k0 := 0) (pc := 0) 0 hX (by decide +kernel) rfl rfl ?_
  refine J_gr (pc := 1) hX (by decide +kernel) fl_Mo_7 hL.1 rfl hL.2.1.1 ?_
  refine J_bipush (pc := 4) (n := 38) (v := 38) hX (by decide +kernel) (by decide +kernel) ?_
  refine J_iload_n (k0 := 1) (pc := 6) 1 hX (by decide +kernel) rfl rfl ?_
  refine J_iadd (pc := 7) hX (by decide +kernel) ?_
  refine J_aload_n (k0 := 0) (pc := 8) 0 hX (by decide +kernel) rfl rfl ?_
  refine J_gr (pc := 9) hX (by decide +kernel) fl_Mo_7 hL.1 rfl hL.2.1.1 ?_
  refine J_bipush (pc := 12) (n := 38) (v := 38) hX (by decide +kernel) (by decide +kernel) ?_
  refine J_iload_n (k0 := 1) (pc := 14) 1 hX (by decide +kernel) rfl rfl ?_
  refine J_iadd (pc := 15) hX (by decide +kernel) ?_
  refine J_ldA (pc := 16) hX (by decide +kernel) hL.2.1.2 (fun x1 => ?_)
  refine J_iconst (pc := 17) (n := 1) (v := 1) hX (by decide +kernel) (by decide +kernel) ?_
  refine J_iadd (pc := 18) hX (by decide +kernel) ?_
  refine J_stA (pc := 19) hX (by decide +kernel) hL.2.1.2 (fun μ2 => ?_)
  refine J_aload_n (k0 := 0) (pc := 20) 0 hX (by decide +kernel) rfl rfl ?_
  refine J_iload_n (k0 := 1) (pc := 21) 1 hX (by decide +kernel) rfl rfl ?_
  refine J_cVi (pc := 22) (idx := 345) [.int v1] hX (by decide +kernel) (mq mt_7 178 (by decide +kernel)) mv_Mo_throwsOf hL.1 rfl rfl (Nat.le_of_ble_eq_true rfl) (Nat.le_of_ble_eq_true rfl) (c_Mo_throwsOf hL v1 μ2) (fun x4 μ3 => ?_)
  refine J_istore_n (k0 := 2) (pc := 25) [(2, .int x4), (0, .ref (G.1 + a)), (1, .int v1)] hX (by decide +kernel) rfl (by decide) rfl ?_
  refine J_aload_n (k0 := 0) (pc := 26) 1 hX (by decide +kernel) rfl rfl ?_
  refine J_gr (pc := 27) hX (by decide +kernel) fl_Mo_7 hL.1 rfl hL.2.1.1 ?_
  refine J_bipush (pc := 30) (n := 54) (v := 54) hX (by decide +kernel) (by decide +kernel) ?_
  refine J_iload_n (k0 := 1) (pc := 32) 2 hX (by decide +kernel) rfl rfl ?_
  refine J_iadd (pc := 33) hX (by decide +kernel) ?_
  refine J_aload_n (k0 := 0) (pc := 34) 1 hX (by decide +kernel) rfl rfl ?_
  refine J_gr (pc := 35) hX (by decide +kernel) fl_Mo_7 hL.1 rfl hL.2.1.1 ?_
  refine J_bipush (pc := 38) (n := 54) (v := 54) hX (by decide +kernel) (by decide +kernel) ?_
  refine J_iload_n (k0 := 1) (pc := 40) 2 hX (by decide +kernel) rfl rfl ?_
  refine J_iadd (pc := 41) hX (by decide +kernel) ?_
  refine J_ldA (pc := 42) hX (by decide +kernel) hL.2.1.2 (fun x5 => ?_)
  refine J_iload_n (k0 := 2) (pc := 43) 0 hX (by decide +kernel) rfl rfl ?_
  refine J_iadd (pc := 44) hX (by decide +kernel) ?_
  refine J_stA (pc := 45) hX (by decide +kernel) hL.2.1.2 (fun μ6 => ?_)
  refine J_aload_n (k0 := 0) (pc := 46) 1 hX (by decide +kernel) rfl rfl ?_
  refine J_iload_n (k0 := 1) (pc := 47) 2 hX (by decide +kernel) rfl rfl ?_
  refine J_iload_n (k0 := 2) (pc := 48) 0 hX (by decide +kernel) rfl rfl ?_
  refine J_cVi (pc := 49) (idx := 348) [.int v1, .int x4] hX (by decide +kernel) (mq mt_7 214 (by decide +kernel)) mv_Mo_gets hL.1 rfl rfl (Nat.le_of_ble_eq_true rfl) (Nat.le_of_ble_eq_true rfl) (c_Mo_gets hL v1 x4 μ6) (fun x8 μ7 => ?_)
  refine J_pop (pc := 52) hX (by decide +kernel) rfl ?_
  refine J_aload_n (k0 := 0) (pc := 53) 1 hX (by decide +kernel) rfl rfl ?_
  refine J_iconst (pc := 54) (n := 0) (v := 0) hX (by decide +kernel) (by decide +kernel) ?_
  refine J_iload_n (k0 := 1) (pc := 55) 2 hX (by decide +kernel) rfl rfl ?_
  refine J_iload_n (k0 := 2) (pc := 56) 0 hX (by decide +kernel) rfl rfl ?_
  refine J_cVv (pc := 57) (idx := 351) [.int 0, .int v1, .int x4] hX (by decide +kernel) (mq mt_7 222 (by decide +kernel)) mv_Mo_notes hL.1 rfl rfl (Nat.le_of_ble_eq_true rfl) (Nat.le_of_ble_eq_true rfl) (c_Mo_notes hL 0 v1 x4 μ7) (fun μ9 => ?_)
  exact J_vret (pc := 60) hX (by decide +kernel) rfl trivial
set_option maxRecDepth 100000 in
set_option maxHeartbeats 4000000 in
theorem c_Mo_isSpilt {l : Launch} {G : Gx} {y : Ly} {a : Nat} (hL : LyMo y a ) (v1 : Int32) (μ : Mu) : Cn l G ⟨"SaltFiguresModel", "isSpilt", "(I)V"⟩ prog_13_method_72_code 3 none 6 [.ref (G.1 + a), .int v1] (μ, y) (emy y) rvV tpT (Mo_isSpilt a v1 μ) := cn_of (by decide +kernel) (Nat.le_of_ble_eq_true rfl) (fun _ _ _ => ⟨List.prefix_refl _, trivial⟩) (fun X hX _ => jMo_isSpilt hL hX v1 μ)

def Mo_isSwept (a : Nat) (v1 : Int32) (μ : Mu) : Option (Unit × Mu) := ldA μ (a + 1) 118 (22 + v1) (fun x1 => cl (Mo_notes a 4 v1 x1 μ) (fun _ μ2 => ldA μ2 (a + 1) 118 5 (fun x3 => ldA μ2 (a + 1) 118 (22 + v1) (fun x4 => stA μ2 (a + 1) 118 5 (x3 + x4) (fun μ5 => stA μ5 (a + 1) 118 (22 + v1) 0 (fun μ6 => some ((), μ6)))))))
set_option maxRecDepth 100000 in
set_option maxHeartbeats 4000000 in
theorem jMo_isSwept {X : Cx} {l : Launch} {G : Gx} {y : Ly} {a : Nat} (hL : LyMo y a ) (hX : Ok X l G prog_13_method_74_code 2 none "SaltFiguresModel") (v1 : Int32) (μ : Mu) : J X G 2 2 y (emy y) rvV tpT 0 [(0, .ref (G.1 + a)), (1, .int v1)] [] (μ, y) (Mo_isSwept a v1 μ) := by
  unfold Mo_isSwept
  refine J_aload_n (k0 := 0) (pc := 0) 0 hX (by decide +kernel) rfl rfl ?_
  refine J_iconst (pc := 1) (n := 4) (v := 4) hX (by decide +kernel) (by decide +kernel) ?_
  refine J_iload_n (k0 := 1) (pc := 2) 1 hX (by decide +kernel) rfl rfl ?_
  refine J_aload_n (k0 := 0) (pc := 3) 0 hX (by decide +kernel) rfl rfl ?_
  refine J_gr (pc := 4) hX (by decide +kernel) fl_Mo_7 hL.1 rfl hL.2.1.1 ?_
  refine J_bipush (pc := 7) (n := 22) (v := 22) hX (by decide +kernel) (by decide +kernel) ?_
  refine J_iload_n (k0 := 1) (pc := 9) 1 hX (by decide +kernel) rfl rfl ?_
  refine J_iadd (pc := 10) hX (by decide +kernel) ?_
  refine J_ldA (pc := 11) hX (by decide +kernel) hL.2.1.2 (fun x1 => ?_)
  refine J_cVv (pc := 12) (idx := 351) [.int 4, .int v1, .int x1] hX (by decide +kernel) (mq mt_7 222 (by decide +kernel)) mv_Mo_notes hL.1 rfl rfl (Nat.le_of_ble_eq_true rfl) (Nat.le_of_ble_eq_true rfl) (c_Mo_notes hL 4 v1 x1 μ) (fun μ2 => ?_)
  refine J_aload_n (k0 := 0) (pc := 15) 0 hX (by decide +kernel) rfl rfl ?_
  refine J_gr (pc := 16) hX (by decide +kernel) fl_Mo_7 hL.1 rfl hL.2.1.1 ?_
  refine J_iconst (pc := 19) (n := 5) (v := 5) hX (by decide +kernel) (by decide +kernel) ?_
  refine J_aload_n (k0 := 0) (pc := 20) 0 hX (by decide +kernel) rfl rfl ?_
  refine J_gr (pc := 21) hX (by decide +kernel) fl_Mo_7 hL.1 rfl hL.2.1.1 ?_
  refine J_iconst (pc := 24) (n := 5) (v := 5) hX (by decide +kernel) (by decide +kernel) ?_
  refine J_ldA (pc := 25) hX (by decide +kernel) hL.2.1.2 (fun x3 => ?_)
  refine J_aload_n (k0 := 0) (pc := 26) 0 hX (by decide +kernel) rfl rfl ?_
  refine J_gr (pc := 27) hX (by decide +kernel) fl_Mo_7 hL.1 rfl hL.2.1.1 ?_
  refine J_bipush (pc := 30) (n := 22) (v := 22) hX (by decide +kernel) (by decide +kernel) ?_
  refine J_iload_n (k0 := 1) (pc := 32) 1 hX (by decide +kernel) rfl rfl ?_
  refine J_iadd (pc := 33) hX (by decide +kernel) ?_
  refine J_ldA (pc := 34) hX (by decide +kernel) hL.2.1.2 (fun x4 => ?_)
  refine J_iadd (pc := 35) hX (by decide +kernel) ?_
  refine J_stA (pc := 36) hX (by decide +kernel) hL.2.1.2 (fun μ5 => ?_)
  refine J_aload_n (k0 := 0) (pc := 37) 0 hX (by decide +kernel) rfl rfl ?_
  refine J_gr (pc := 38) hX (by decide +kernel) fl_Mo_7 hL.1 rfl hL.2.1.1 ?_
  refine J_bipush (pc := 41) (n := 22) (v := 22) hX (by decide +kernel) (by decide +kernel) ?_
  refine J_iload_n (k0 := 1) (pc := 43) 1 hX (by decide +kernel) rfl rfl ?_
  refine J_iadd (pc := 44) hX (by decide +kernel) ?_
  refine J_iconst (pc := 45) (n := 0) (v := 0) hX (by decide +kernel) (by decide +kernel) ?_
  refine J_stA (pc := 46) hX (by decide +kernel) hL.2.1.2 (fun μ6 => ?_)
  exact J_vret (pc := 47) hX (by decide +kernel) rfl trivial
set_option maxRecDepth 100000 in
set_option maxHeartbeats 4000000 in
theorem c_Mo_isSwept {l : Launch} {G : Gx} {y : Ly} {a : Nat} (hL : LyMo y a ) (v1 : Int32) (μ : Mu) : Cn l G ⟨"SaltFiguresModel", "isSwept", "(I)V"⟩ prog_13_method_74_code 2 none 2 [.ref (G.1 + a), .int v1] (μ, y) (emy y) rvV tpT (Mo_isSwept a v1 μ) := cn_of (by decide +kernel) (Nat.le_of_ble_eq_true rfl) (fun _ _ _ => ⟨List.prefix_refl _, trivial⟩) (fun X hX _ => jMo_isSwept hL hX v1 μ)

def Mo_dies_84 (a : Nat)   (v2 : Int32)  (μ : Mu) : Option (Unit × Mu) := ldA μ (a + 1) 118 5 (fun x1 => stA μ (a + 1) 118 5 (x1 + v2) (fun μ2 => some ((), μ2)))
def Mo_dies (a : Nat) (v1 : Int32) (μ : Mu) : Option (Unit × Mu) := ldA μ (a + 1) 118 (22 + v1) (fun x1 => ldA μ (a + 18) 32 v1 (fun x2 => stA μ (a + 1) 118 (86 + v1) 1 (fun μ3 => stA μ3 (a + 1) 118 (102 + v1) 0 (fun μ4 => stA μ4 (a + 1) 118 (22 + v1) 0 (fun μ5 => cl (Mo_notes a 5 v1 x1 μ5) (fun _ μ6 => (if (x2 - 1) = ((-1)) then Mo_dies_84 a x1 μ6 else cl (Mo_isAlive a (x2 - 1) μ6) (fun x8 μ7 => (if x8 = 0 then Mo_dies_84 a x1 μ7 else cl (Mo_gets a (x2 - 1) x1 μ7) (fun x10 μ9 => cl (Mo_notes a 3 (x2 - 1) x10 μ9) (fun _ μ11 => some ((), μ11))))))))))))
set_option maxRecDepth 100000 in
set_option maxHeartbeats 4000000 in
theorem jMo_dies_84 {X : Cx} {l : Launch} {G : Gx} {y : Ly} {a : Nat} (hL : LyMo y a ) (hX : Ok X l G prog_13_method_73_code 4 none "SaltFiguresModel")  (v2 : Int32)    (μ : Mu) : J X G 4 3 y (emy y) rvV tpT 84 [(0, .ref (G.1 + a)), (2, .int v2)] [] (μ, y) (Mo_dies_84 a   v2  μ) := by
  unfold Mo_dies_84
  refine J_aload_n (k0 := 0) (pc := 84) 0 hX (by decide +kernel) rfl rfl ?_
  refine J_gr (pc := 85) hX (by decide +kernel) fl_Mo_7 hL.1 rfl hL.2.1.1 ?_
  refine J_iconst (pc := 88) (n := 5) (v := 5) hX (by decide +kernel) (by decide +kernel) ?_
  refine J_aload_n (k0 := 0) (pc := 89) 0 hX (by decide +kernel) rfl rfl ?_
  refine J_gr (pc := 90) hX (by decide +kernel) fl_Mo_7 hL.1 rfl hL.2.1.1 ?_
  refine J_iconst (pc := 93) (n := 5) (v := 5) hX (by decide +kernel) (by decide +kernel) ?_
  refine J_ldA (pc := 94) hX (by decide +kernel) hL.2.1.2 (fun x1 => ?_)
  refine J_iload_n (k0 := 2) (pc := 95) 1 hX (by decide +kernel) rfl rfl ?_
  refine J_iadd (pc := 96) hX (by decide +kernel) ?_
  refine J_stA (pc := 97) hX (by decide +kernel) hL.2.1.2 (fun μ2 => ?_)
  exact J_vret (pc := 98) hX (by decide +kernel) rfl trivial
set_option maxRecDepth 100000 in
set_option maxHeartbeats 4000000 in
theorem jMo_dies {X : Cx} {l : Launch} {G : Gx} {y : Ly} {a : Nat} (hL : LyMo y a ) (hX : Ok X l G prog_13_method_73_code 4 none "SaltFiguresModel") (v1 : Int32) (μ : Mu) : J X G 4 3 y (emy y) rvV tpT 0 [(0, .ref (G.1 + a)), (1, .int v1)] [] (μ, y) (Mo_dies a v1 μ) := by
  unfold Mo_dies
  refine J_aload_n (k0 := 0) (pc := 0) 0 hX (by decide +kernel) rfl rfl ?_
  refine J_gr (pc := 1) hX (by decide +kernel) fl_Mo_7 hL.1 rfl hL.2.1.1 ?_
  refine J_bipush (pc := 4) (n := 22) (v := 22) hX (by decide +kernel) (by decide +kernel) ?_
  refine J_iload_n (k0 := 1) (pc := 6) 1 hX (by decide +kernel) rfl rfl ?_
  refine J_iadd (pc := 7) hX (by decide +kernel) ?_
  refine J_ldA (pc := 8) hX (by decide +kernel) hL.2.1.2 (fun x1 => ?_)
  refine J_istore_n (k0 := 2) (pc := 9) [(2, .int x1), (0, .ref (G.1 + a)), (1, .int v1)] hX (by decide +kernel) rfl (by decide) rfl ?_
  refine J_aload_n (k0 := 0) (pc := 10) 1 hX (by decide +kernel) rfl rfl ?_
  refine J_gr (pc := 11) hX (by decide +kernel) fl_Mo_65 hL.1 rfl hL.2.2.2.2.2.2.2.2.2.2.2.2.2.2.2.2.2.2.1.1 ?_
  refine J_iload_n (k0 := 1) (pc := 14) 2 hX (by decide +kernel) rfl rfl ?_
  refine J_ldA (pc := 15) hX (by decide +kernel) hL.2.2.2.2.2.2.2.2.2.2.2.2.2.2.2.2.2.2.1.2 (fun x2 => ?_)
  refine J_iconst (pc := 16) (n := 1) (v := 1) hX (by decide +kernel) (by decide +kernel) ?_
  refine J_isub (pc := 17) hX (by decide +kernel) ?_
  refine J_istore_n (k0 := 3) (pc := 18) [(3, .int (x2 - 1)), (2, .int x1), (0, .ref (G.1 + a)), (1, .int v1)] hX (by decide +kernel) rfl (by decide) rfl ?_
  refine J_aload_n (k0 := 0) (pc := 19) 2 hX (by decide +kernel) rfl rfl ?_
  refine J_gr (pc := 20) hX (by decide +kernel) fl_Mo_7 hL.1 rfl hL.2.1.1 ?_
  refine J_bipush (pc := 23) (n := 86) (v := 86) hX (by decide +kernel) (by decide +kernel) ?_
  refine J_iload_n (k0 := 1) (pc := 25) 3 hX (by decide +kernel) rfl rfl ?_
  refine J_iadd (pc := 26) hX (by decide +kernel) ?_
  refine J_iconst (pc := 27) (n := 1) (v := 1) hX (by decide +kernel) (by decide +kernel) ?_
  refine J_stA (pc := 28) hX (by decide +kernel) hL.2.1.2 (fun μ3 => ?_)
  refine J_aload_n (k0 := 0) (pc := 29) 2 hX (by decide +kernel) rfl rfl ?_
  refine J_gr (pc := 30) hX (by decide +kernel) fl_Mo_7 hL.1 rfl hL.2.1.1 ?_
  refine J_bipush (pc := 33) (n := 102) (v := 102) hX (by decide +kernel) (by decide +kernel) ?_
  refine J_iload_n (k0 := 1) (pc := 35) 3 hX (by decide +kernel) rfl rfl ?_
  refine J_iadd (pc := 36) hX (by decide +kernel) ?_
  refine J_iconst (pc := 37) (n := 0) (v := 0) hX (by decide +kernel) (by decide +kernel) ?_
  refine J_stA (pc := 38) hX (by decide +kernel) hL.2.1.2 (fun μ4 => ?_)
  refine J_aload_n (k0 := 0) (pc := 39) 2 hX (by decide +kernel) rfl rfl ?_
  refine J_gr (pc := 40) hX (by decide +kernel) fl_Mo_7 hL.1 rfl hL.2.1.1 ?_
  refine J_bipush (pc := 43) (n := 22) (v := 22) hX (by decide +kernel) (by decide +kernel) ?_
  refine J_iload_n (k0 := 1) (pc := 45) 3 hX (by decide +kernel) rfl rfl ?_
  refine J_iadd (pc := 46) hX (by decide +kernel) ?_
  refine J_iconst (pc := 47) (n := 0) (v := 0) hX (by decide +kernel) (by decide +kernel) ?_
  refine J_stA (pc := 48) hX (by decide +kernel) hL.2.1.2 (fun μ5 => ?_)
  refine J_aload_n (k0 := 0) (pc := 49) 2 hX (by decide +kernel) rfl rfl ?_
  refine J_iconst (pc := 50) (n := 5) (v := 5) hX (by decide +kernel) (by decide +kernel) ?_
  refine J_iload_n (k0 := 1) (pc := 51) 3 hX (by decide +kernel) rfl rfl ?_
  refine J_iload_n (k0 := 2) (pc := 52) 1 hX (by decide +kernel) rfl rfl ?_
  refine J_cVv (pc := 53) (idx := 351) [.int 5, .int v1, .int x1] hX (by decide +kernel) (mq mt_7 222 (by decide +kernel)) mv_Mo_notes hL.1 rfl rfl (Nat.le_of_ble_eq_true rfl) (Nat.le_of_ble_eq_true rfl) (c_Mo_notes hL 5 v1 x1 μ5) (fun μ6 => ?_)
  refine J_iload_n (k0 := 3) (pc := 56) 0 hX (by decide +kernel) rfl rfl ?_
  refine J_iconst (pc := 57) (n := -1) (v := (-1)) hX (by decide +kernel) (by decide +kernel) ?_
  refine J_icmp_eq (pc := 58) (off := 26) (tgt := 84) hX (by decide +kernel) (by decide +kernel) (fun _ => ?_) (fun _ => ?_)
  · exact J_sub [2, 1] _ rfl (jMo_dies_84 hL hX x1 μ6)
  · refine J_aload_n (k0 := 0) (pc := 61) 2 hX (by decide +kernel) rfl rfl ?_
    refine J_iload_n (k0 := 3) (pc := 62) 0 hX (by decide +kernel) rfl rfl ?_
    refine J_cVi (pc := 63) (idx := 162) [.int (x2 - 1)] hX (by decide +kernel) (mq mt_6 238 (by decide +kernel)) mv_Mo_isAlive hL.1 rfl rfl (Nat.le_of_ble_eq_true rfl) (Nat.le_of_ble_eq_true rfl) (c_Mo_isAlive hL (x2 - 1) μ6) (fun x8 μ7 => ?_)
    refine J_if_eq (pc := 66) (off := 18) (tgt := 84) hX (by decide +kernel) (by decide +kernel) (fun _ => ?_) (fun _ => ?_)
    · exact J_sub [2, 1] _ rfl (jMo_dies_84 hL hX x1 μ7)
    · refine J_aload_n (k0 := 0) (pc := 69) 2 hX (by decide +kernel) rfl rfl ?_
      refine J_iconst (pc := 70) (n := 3) (v := 3) hX (by decide +kernel) (by decide +kernel) ?_
      refine J_iload_n (k0 := 3) (pc := 71) 0 hX (by decide +kernel) rfl rfl ?_
      refine J_aload_n (k0 := 0) (pc := 72) 2 hX (by decide +kernel) rfl rfl ?_
      refine J_iload_n (k0 := 3) (pc := 73) 0 hX (by decide +kernel) rfl rfl ?_
      refine J_iload_n (k0 := 2) (pc := 74) 1 hX (by decide +kernel) rfl rfl ?_
      refine J_cVi (pc := 75) (idx := 348) [.int (x2 - 1), .int x1] hX (by decide +kernel) (mq mt_7 214 (by decide +kernel)) mv_Mo_gets hL.1 rfl rfl (Nat.le_of_ble_eq_true rfl) (Nat.le_of_ble_eq_true rfl) (c_Mo_gets hL (x2 - 1) x1 μ7) (fun x10 μ9 => ?_)
      refine J_cVv (pc := 78) (idx := 351) [.int 3, .int (x2 - 1), .int x10] hX (by decide +kernel) (mq mt_7 222 (by decide +kernel)) mv_Mo_notes hL.1 rfl rfl (Nat.le_of_ble_eq_true rfl) (Nat.le_of_ble_eq_true rfl) (c_Mo_notes hL 3 (x2 - 1) x10 μ9) (fun μ11 => ?_)
      refine J_goto (pc := 81) (off := 17) (tgt := 98) hX (by decide +kernel) (by decide +kernel) ?_
      exact J_vret (pc := 98) hX (by decide +kernel) rfl trivial
set_option maxRecDepth 100000 in
set_option maxHeartbeats 4000000 in
theorem c_Mo_dies {l : Launch} {G : Gx} {y : Ly} {a : Nat} (hL : LyMo y a ) (v1 : Int32) (μ : Mu) : Cn l G ⟨"SaltFiguresModel", "dies", "(I)V"⟩ prog_13_method_73_code 4 none 3 [.ref (G.1 + a), .int v1] (μ, y) (emy y) rvV tpT (Mo_dies a v1 μ) := cn_of (by decide +kernel) (Nat.le_of_ble_eq_true rfl) (fun _ _ _ => ⟨List.prefix_refl _, trivial⟩) (fun X hX _ => jMo_dies hL hX v1 μ)

def Mo_act_72 (a : Nat)   (v1 : Int32) (v2 : Int32)  (μ : Mu) : Option (Int32 × Mu) := (if v1 = 4 then cl (Mo_dies a v2 μ) (fun _ μ1 => some (1, μ1)) else some (1, μ))
def Mo_act_62 (a : Nat)   (v1 : Int32) (v2 : Int32)  (μ : Mu) : Option (Int32 × Mu) := (if v1 = 3 then cl (Mo_isSwept a v2 μ) (fun _ μ1 => Mo_act_72 a v1 v2 μ1) else Mo_act_72 a v1 v2 μ)
def Mo_act_47 (a : Nat)   (v1 : Int32) (v2 : Int32)  (μ : Mu) : Option (Int32 × Mu) := (if v1 = 2 then stA μ (a + 1) 118 (102 + v2) 0 (fun μ1 => Mo_act_62 a v1 v2 μ1) else Mo_act_62 a v1 v2 μ)
def Mo_act_30 (a : Nat)   (v1 : Int32) (v2 : Int32) (v3 : Int32)  (μ : Mu) : Option (Int32 × Mu) := (if v1 = 1 then stA μ (a + 1) 118 (102 + v2) (v3 + 1) (fun μ1 => Mo_act_47 a v1 v2 μ1) else Mo_act_47 a v1 v2 μ)
def Mo_act (a : Nat) (v1 : Int32) (v2 : Int32) (v3 : Int32) (μ : Mu) : Option (Int32 × Mu) := pF μ a 0 0 (fun μ1 => cl (Mo_canAct a v1 v2 v3 μ1) (fun x3 μ2 => (if x3 = 0 then some (0, μ2) else cl (Mo_keepsAhead a μ2) (fun _ μ4 => (if v1 = 0 then cl (Mo_isSpilt a v2 μ4) (fun _ μ5 => Mo_act_30 a v1 v2 v3 μ5) else Mo_act_30 a v1 v2 v3 μ4)))))
set_option maxRecDepth 100000 in
set_option maxHeartbeats 4000000 in
theorem jMo_act_72 {X : Cx} {l : Launch} {G : Gx} {y : Ly} {a : Nat} (hL : LyMo y a ) (hX : Ok X l G prog_13_method_76_code 4 (some .boolean) "SaltFiguresModel")  (v1 : Int32) (v2 : Int32)    (μ : Mu) : J X G 4 7 y (emy y) rvI tpT 72 [(0, .ref (G.1 + a)), (1, .int v1), (2, .int v2)] [] (μ, y) (Mo_act_72 a   v1 v2  μ) := by
  unfold Mo_act_72
  refine J_iload_n (k0 := 1) (pc := 72) 1 hX (by decide +kernel) rfl rfl ?_
  refine J_iconst (pc := 73) (n := 4) (v := 4) hX (by decide +kernel) (by decide +kernel) ?_
  refine J_icmp_ne (pc := 74) (off := 8) (tgt := 82) hX (by decide +kernel) (by decide +kernel) (fun _ => ?_) (fun _ => ?_)
  · refine J_iconst (pc := 82) (n := 1) (v := 1) hX (by decide +kernel) (by decide +kernel) ?_
    exact J_zret (pc := 83) hX (by decide +kernel) rfl (by decide +kernel) trivial
  · refine J_aload_n (k0 := 0) (pc := 77) 0 hX (by decide +kernel) rfl rfl ?_
    refine J_iload_n (k0 := 2) (pc := 78) 2 hX (by decide +kernel) rfl rfl ?_
    refine J_cVv (pc := 79) (idx := 367) [.int v2] hX (by decide +kernel) (mq mt_7 230 (by decide +kernel)) mv_Mo_dies hL.1 rfl rfl (Nat.le_of_ble_eq_true rfl) (Nat.le_of_ble_eq_true rfl) (c_Mo_dies hL v2 μ) (fun μ1 => ?_)
    refine J_iconst (pc := 82) (n := 1) (v := 1) hX (by decide +kernel) (by decide +kernel) ?_
    exact J_zret (pc := 83) hX (by decide +kernel) rfl (by decide +kernel) trivial
set_option maxRecDepth 100000 in
set_option maxHeartbeats 4000000 in
theorem jMo_act_62 {X : Cx} {l : Launch} {G : Gx} {y : Ly} {a : Nat} (hL : LyMo y a ) (hX : Ok X l G prog_13_method_76_code 4 (some .boolean) "SaltFiguresModel")  (v1 : Int32) (v2 : Int32)    (μ : Mu) : J X G 4 7 y (emy y) rvI tpT 62 [(0, .ref (G.1 + a)), (1, .int v1), (2, .int v2)] [] (μ, y) (Mo_act_62 a   v1 v2  μ) := by
  unfold Mo_act_62
  refine J_iload_n (k0 := 1) (pc := 62) 1 hX (by decide +kernel) rfl rfl ?_
  refine J_iconst (pc := 63) (n := 3) (v := 3) hX (by decide +kernel) (by decide +kernel) ?_
  refine J_icmp_ne (pc := 64) (off := 8) (tgt := 72) hX (by decide +kernel) (by decide +kernel) (fun _ => ?_) (fun _ => ?_)
  · exact J_sub [0, 1, 2] _ rfl (jMo_act_72 hL hX v1 v2 μ)
  · refine J_aload_n (k0 := 0) (pc := 67) 0 hX (by decide +kernel) rfl rfl ?_
    refine J_iload_n (k0 := 2) (pc := 68) 2 hX (by decide +kernel) rfl rfl ?_
    refine J_cVv (pc := 69) (idx := 364) [.int v2] hX (by decide +kernel) (mq mt_7 226 (by decide +kernel)) mv_Mo_isSwept hL.1 rfl rfl (Nat.le_of_ble_eq_true rfl) (Nat.le_of_ble_eq_true rfl) (c_Mo_isSwept hL v2 μ) (fun μ1 => ?_)
    exact J_sub [0, 1, 2] _ rfl (jMo_act_72 hL hX v1 v2 μ1)
set_option maxRecDepth 100000 in
set_option maxHeartbeats 4000000 in
theorem jMo_act_47 {X : Cx} {l : Launch} {G : Gx} {y : Ly} {a : Nat} (hL : LyMo y a ) (hX : Ok X l G prog_13_method_76_code 4 (some .boolean) "SaltFiguresModel")  (v1 : Int32) (v2 : Int32)    (μ : Mu) : J X G 4 7 y (emy y) rvI tpT 47 [(0, .ref (G.1 + a)), (1, .int v1), (2, .int v2)] [] (μ, y) (Mo_act_47 a   v1 v2  μ) := by
  unfold Mo_act_47
  refine J_iload_n (k0 := 1) (pc := 47) 1 hX (by decide +kernel) rfl rfl ?_
  refine J_iconst (pc := 48) (n := 2) (v := 2) hX (by decide +kernel) (by decide +kernel) ?_
  refine J_icmp_ne (pc := 49) (off := 13) (tgt := 62) hX (by decide +kernel) (by decide +kernel) (fun _ => ?_) (fun _ => ?_)
  · exact J_sub [0, 1, 2] _ rfl (jMo_act_62 hL hX v1 v2 μ)
  · refine J_aload_n (k0 := 0) (pc := 52) 0 hX (by decide +kernel) rfl rfl ?_
    refine J_gr (pc := 53) hX (by decide +kernel) fl_Mo_7 hL.1 rfl hL.2.1.1 ?_
    refine J_bipush (pc := 56) (n := 102) (v := 102) hX (by decide +kernel) (by decide +kernel) ?_
    refine J_iload_n (k0 := 2) (pc := 58) 2 hX (by decide +kernel) rfl rfl ?_
    refine J_iadd (pc := 59) hX (by decide +kernel) ?_
    refine J_iconst (pc := 60) (n := 0) (v := 0) hX (by decide +kernel) (by decide +kernel) ?_
    refine J_stA (pc := 61) hX (by decide +kernel) hL.2.1.2 (fun μ1 => ?_)
    exact J_sub [0, 1, 2] _ rfl (jMo_act_62 hL hX v1 v2 μ1)
set_option maxRecDepth 100000 in
set_option maxHeartbeats 4000000 in
theorem jMo_act_30 {X : Cx} {l : Launch} {G : Gx} {y : Ly} {a : Nat} (hL : LyMo y a ) (hX : Ok X l G prog_13_method_76_code 4 (some .boolean) "SaltFiguresModel")  (v1 : Int32) (v2 : Int32) (v3 : Int32)    (μ : Mu) : J X G 4 7 y (emy y) rvI tpT 30 [(0, .ref (G.1 + a)), (1, .int v1), (2, .int v2), (3, .int v3)] [] (μ, y) (Mo_act_30 a   v1 v2 v3  μ) := by
  unfold Mo_act_30
  refine J_iload_n (k0 := 1) (pc := 30) 1 hX (by decide +kernel) rfl rfl ?_
  refine J_iconst (pc := 31) (n := 1) (v := 1) hX (by decide +kernel) (by decide +kernel) ?_
  refine J_icmp_ne (pc := 32) (off := 15) (tgt := 47) hX (by decide +kernel) (by decide +kernel) (fun _ => ?_) (fun _ => ?_)
  · exact J_sub [0, 1, 2] _ rfl (jMo_act_47 hL hX v1 v2 μ)
  · refine J_aload_n (k0 := 0) (pc := 35) 0 hX (by decide +kernel) rfl rfl ?_
    refine J_gr (pc := 36) hX (by decide +kernel) fl_Mo_7 hL.1 rfl hL.2.1.1 ?_
    refine J_bipush (pc := 39) (n := 102) (v := 102) hX (by decide +kernel) (by decide +kernel) ?_
    refine J_iload_n (k0 := 2) (pc := 41) 2 hX (by decide +kernel) rfl rfl ?_
    refine J_iadd (pc := 42) hX (by decide +kernel) ?_
    refine J_iload_n (k0 := 3) (pc := 43) 3 hX (by decide +kernel) rfl rfl ?_
    refine J_iconst (pc := 44) (n := 1) (v := 1) hX (by decide +kernel) (by decide +kernel) ?_
    refine J_iadd (pc := 45) hX (by decide +kernel) ?_
    refine J_stA (pc := 46) hX (by decide +kernel) hL.2.1.2 (fun μ1 => ?_)
    exact J_sub [0, 1, 2] _ rfl (jMo_act_47 hL hX v1 v2 μ1)
set_option maxRecDepth 100000 in
set_option maxHeartbeats 4000000 in
theorem jMo_act {X : Cx} {l : Launch} {G : Gx} {y : Ly} {a : Nat} (hL : LyMo y a ) (hX : Ok X l G prog_13_method_76_code 4 (some .boolean) "SaltFiguresModel") (v1 : Int32) (v2 : Int32) (v3 : Int32) (μ : Mu) : J X G 4 7 y (emy y) rvI tpT 0 [(0, .ref (G.1 + a)), (1, .int v1), (2, .int v2), (3, .int v3)] [] (μ, y) (Mo_act a v1 v2 v3 μ) := by
  unfold Mo_act
  refine J_aload_n (k0 := 0) (pc := 0) 0 hX (by decide +kernel) rfl rfl ?_
  refine J_iconst (pc := 1) (n := 0) (v := 0) hX (by decide +kernel) (by decide +kernel) ?_
  refine J_pF (pc := 2) hX (by decide +kernel) fl_Mo_131 hL.1 rfl (fun μ1 => ?_)
  refine J_aload_n (k0 := 0) (pc := 5) 0 hX (by decide +kernel) rfl rfl ?_
  refine J_iload_n (k0 := 1) (pc := 6) 1 hX (by decide +kernel) rfl rfl ?_
  refine J_iload_n (k0 := 2) (pc := 7) 2 hX (by decide +kernel) rfl rfl ?_
  refine J_iload_n (k0 := 3) (pc := 8) 3 hX (by decide +kernel) rfl rfl ?_
  refine J_cVi (pc := 9) (idx := 355) [.int v1, .int v2, .int v3] hX (by decide +kernel) (mq mt_7 166 (by decide +kernel)) mv_Mo_canAct hL.1 rfl rfl (Nat.le_of_ble_eq_true rfl) (Nat.le_of_ble_eq_true rfl) (c_Mo_canAct hL v1 v2 v3 μ1) (fun x3 μ2 => ?_)
  refine J_if_ne (pc := 12) (off := 5) (tgt := 17) hX (by decide +kernel) (by decide +kernel) (fun _ => ?_) (fun _ => ?_)
  · refine J_aload_n (k0 := 0) (pc := 17) 0 hX (by decide +kernel) rfl rfl ?_
    refine J_cVv (pc := 18) (idx := 358) [] hX (by decide +kernel) (mq mt_7 170 (by decide +kernel)) mv_Mo_keepsAhead hL.1 rfl rfl (Nat.le_of_ble_eq_true rfl) (Nat.le_of_ble_eq_true rfl) (c_Mo_keepsAhead hL μ2) (fun μ4 => ?_)
    refine J_iload_n (k0 := 1) (pc := 21) 1 hX (by decide +kernel) rfl rfl ?_
    refine J_if_ne (pc := 22) (off := 8) (tgt := 30) hX (by decide +kernel) (by decide +kernel) (fun _ => ?_) (fun _ => ?_)
    · exact J_sub [0, 1, 2, 3] _ rfl (jMo_act_30 hL hX v1 v2 v3 μ4)
    · refine J_aload_n (k0 := 0) (pc := 25) 0 hX (by decide +kernel) rfl rfl ?_
      refine J_iload_n (k0 := 2) (pc := 26) 2 hX (by decide +kernel) rfl rfl ?_
      refine J_cVv (pc := 27) (idx := 361) [.int v2] hX (by decide +kernel) (mq mt_7 174 (by decide +kernel)) mv_Mo_isSpilt hL.1 rfl rfl (Nat.le_of_ble_eq_true rfl) (Nat.le_of_ble_eq_true rfl) (c_Mo_isSpilt hL v2 μ4) (fun μ5 => ?_)
      exact J_sub [0, 1, 2, 3] _ rfl (jMo_act_30 hL hX v1 v2 v3 μ5)
  · refine J_iconst (pc := 15) (n := 0) (v := 0) hX (by decide +kernel) (by decide +kernel) ?_
    exact J_zret (pc := 16) hX (by decide +kernel) rfl (by decide +kernel) trivial
set_option maxRecDepth 100000 in
set_option maxHeartbeats 4000000 in
theorem c_Mo_act {l : Launch} {G : Gx} {y : Ly} {a : Nat} (hL : LyMo y a ) (v1 : Int32) (v2 : Int32) (v3 : Int32) (μ : Mu) : Cn l G ⟨"SaltFiguresModel", "act", "(III)Z"⟩ prog_13_method_76_code 4 (some .boolean) 7 [.ref (G.1 + a), .int v1, .int v2, .int v3] (μ, y) (emy y) rvI tpT (Mo_act a v1 v2 v3 μ) := cn_of (by decide +kernel) (Nat.le_of_ble_eq_true rfl) (fun _ _ _ => ⟨List.prefix_refl _, trivial⟩) (fun X hX _ => jMo_act hL hX v1 v2 v3 μ)

def Mo_added (a : Nat) (v1 : Int32) (v2 : Int32) (μ : Mu) : Option (Int32 × Mu) := (if v1 < (1000000007 - v2) then some (v1 + v2, μ) else some (v1 - (1000000007 - v2), μ))
set_option maxRecDepth 100000 in
set_option maxHeartbeats 4000000 in
theorem jMo_added {X : Cx} {l : Launch} {G : Gx} {y : Ly} {a : Nat} (hL : LyMo y a ) (hX : Ok X l G prog_13_method_7_code 3 (some .int) "SaltFiguresModel") (v1 : Int32) (v2 : Int32) (μ : Mu) : J X G 3 1 y (emy y) rvI tpT 0 [(0, .ref (G.1 + a)), (1, .int v1), (2, .int v2)] [] (μ, y) (Mo_added a v1 v2 μ) := by
  unfold Mo_added
  refine J_iload_n (k0 := 1) (pc := 0) 1 hX (by decide +kernel) rfl rfl ?_
  refine J_ldc (pc := 1) (idx := 134) (v := 1000000007) hX (by decide +kernel) (mq mt_8 164 (by decide +kernel)) ?_
  refine J_iload_n (k0 := 2) (pc := 3) 2 hX (by decide +kernel) rfl rfl ?_
  refine J_isub (pc := 4) hX (by decide +kernel) ?_
  refine J_icmp_lt (pc := 5) (off := 12) (tgt := 17) hX (by decide +kernel) (by decide +kernel) (fun _ => ?_) (fun _ => ?_)
  · refine J_iload_n (k0 := 1) (pc := 17) 1 hX (by decide +kernel) rfl rfl ?_
    refine J_iload_n (k0 := 2) (pc := 18) 2 hX (by decide +kernel) rfl rfl ?_
    refine J_iadd (pc := 19) hX (by decide +kernel) ?_
    exact J_iret (pc := 20) hX (by decide +kernel) rfl trivial
  · refine J_iload_n (k0 := 1) (pc := 8) 1 hX (by decide +kernel) rfl rfl ?_
    refine J_ldc (pc := 9) (idx := 134) (v := 1000000007) hX (by decide +kernel) (mq mt_8 164 (by decide +kernel)) ?_
    refine J_iload_n (k0 := 2) (pc := 11) 2 hX (by decide +kernel) rfl rfl ?_
    refine J_isub (pc := 12) hX (by decide +kernel) ?_
    refine J_isub (pc := 13) hX (by decide +kernel) ?_
    refine J_goto (pc := 14) (off := 6) (tgt := 20) hX (by decide +kernel) (by decide +kernel) ?_
    exact J_iret (pc := 20) hX (by decide +kernel) rfl trivial
set_option maxRecDepth 100000 in
set_option maxHeartbeats 4000000 in
theorem c_Mo_added {l : Launch} {G : Gx} {y : Ly} {a : Nat} (hL : LyMo y a ) (v1 : Int32) (v2 : Int32) (μ : Mu) : Cn l G ⟨"SaltFiguresModel", "added", "(II)I"⟩ prog_13_method_7_code 3 (some .int) 1 [.ref (G.1 + a), .int v1, .int v2] (μ, y) (emy y) rvI tpT (Mo_added a v1 v2 μ) := cn_of (by decide +kernel) (Nat.le_of_ble_eq_true rfl) (fun _ _ _ => ⟨List.prefix_refl _, trivial⟩) (fun X hX _ => jMo_added hL hX v1 v2 μ)

def Mo_aliveSet_26 (a : Nat) (kb4 : Int32 → Int32 → Mu → Option (Int32 × Mu))  (v1 : Int32) (v2 : Int32)  (μ : Mu) : Option (Int32 × Mu) := kb4 v1 (v2 + 1) μ
def Mo_aliveSet_4b (a : Nat)  (kb4 : Int32 → Int32 → Mu → Option (Int32 × Mu))  (v1 : Int32) (v2 : Int32)  (μ : Mu) : Option (Int32 × Mu) := gF μ a 6 (fun x1 => (if x1 ≤ v2 then some (v1, μ) else cl (Mo_isAlive a v2 μ) (fun x3 μ2 => (if x3 = 0 then Mo_aliveSet_26 a kb4 v1 v2 μ2 else Mo_aliveSet_26 a kb4 (v1 ||| (jshl 1 v2)) v2 μ2))))
def Mo_aliveSet_4 (a : Nat)   (fu : Nat) : Int32 → Int32 → Mu → Option (Int32 × Mu) := lp (fun kb => Mo_aliveSet_4b a  kb ) (fun _ _ _ => none) fu
def Mo_aliveSet (a : Nat)  (μ : Mu) : Option (Int32 × Mu) := Mo_aliveSet_4 a FU 0 0 μ
set_option maxRecDepth 100000 in
set_option maxHeartbeats 4000000 in
theorem jMo_aliveSet_26 {X : Cx} {l : Launch} {G : Gx} {y : Ly} {a : Nat} (hL : LyMo y a ) (hX : Ok X l G prog_13_method_135_code 3 (some .int) "SaltFiguresModel")  (v1 : Int32) (v2 : Int32)  {kb4 : Int32 → Int32 → Mu → Option (Int32 × Mu)} (hk4 : ∀ (v1 : Int32) (v2 : Int32) (μ : Mu), J X G 3 2 y (emy y) rvI tpT 4 [(0, .ref (G.1 + a)), (1, .int v1), (2, .int v2)] [] (μ, y) (kb4 v1 v2 μ)) (μ : Mu) : J X G 3 2 y (emy y) rvI tpT 26 [(0, .ref (G.1 + a)), (1, .int v1), (2, .int v2)] [] (μ, y) (Mo_aliveSet_26 a kb4  v1 v2  μ) := by
  unfold Mo_aliveSet_26
  refine J_iinc (pc := 26) (n := 1) 2 [(2, .int (v2 + 1)), (0, .ref (G.1 + a)), (1, .int v1)] hX (by decide +kernel) rfl rfl (by decide) rfl ?_
  refine J_goto (pc := 29) (off := -25) (tgt := 4) hX (by decide +kernel) (by decide +kernel) ?_
  exact J_sub [1, 2, 0] _ rfl (hk4 v1 (v2 + 1) μ)
set_option maxRecDepth 100000 in
set_option maxHeartbeats 4000000 in
theorem jMo_aliveSet_4b {X : Cx} {l : Launch} {G : Gx} {y : Ly} {a : Nat} (hL : LyMo y a ) (hX : Ok X l G prog_13_method_135_code 3 (some .int) "SaltFiguresModel")   {kb4 : Int32 → Int32 → Mu → Option (Int32 × Mu)}  (hk4 : ∀ (v1 : Int32) (v2 : Int32) (μ : Mu), J X G 3 2 y (emy y) rvI tpT 4 [(0, .ref (G.1 + a)), (1, .int v1), (2, .int v2)] [] (μ, y) (kb4 v1 v2 μ)) (v1 : Int32) (v2 : Int32)  (μ : Mu) : J X G 3 2 y (emy y) rvI tpT 4 [(0, .ref (G.1 + a)), (1, .int v1), (2, .int v2)] [] (μ, y) (Mo_aliveSet_4b a  kb4  v1 v2  μ) := by
  unfold Mo_aliveSet_4b
  refine J_iload_n (k0 := 2) (pc := 4) 2 hX (by decide +kernel) rfl rfl ?_
  refine J_aload_n (k0 := 0) (pc := 5) 0 hX (by decide +kernel) rfl rfl ?_
  refine J_gF (pc := 6) hX (by decide +kernel) fl_Mo_144 hL.1 rfl (fun x1 => ?_)
  refine J_icmp_ge (pc := 9) (off := 23) (tgt := 32) hX (by decide +kernel) (by decide +kernel) (fun _ => ?_) (fun _ => ?_)
  · refine J_iload_n (k0 := 1) (pc := 32) 1 hX (by decide +kernel) rfl rfl ?_
    exact J_iret (pc := 33) hX (by decide +kernel) rfl trivial
  · refine J_aload_n (k0 := 0) (pc := 12) 0 hX (by decide +kernel) rfl rfl ?_
    refine J_iload_n (k0 := 2) (pc := 13) 2 hX (by decide +kernel) rfl rfl ?_
    refine J_cVi (pc := 14) (idx := 162) [.int v2] hX (by decide +kernel) (mq mt_6 238 (by decide +kernel)) mv_Mo_isAlive hL.1 rfl rfl (Nat.le_of_ble_eq_true rfl) (Nat.le_of_ble_eq_true rfl) (c_Mo_isAlive hL v2 μ) (fun x3 μ2 => ?_)
    refine J_if_eq (pc := 17) (off := 9) (tgt := 26) hX (by decide +kernel) (by decide +kernel) (fun _ => ?_) (fun _ => ?_)
    · exact J_sub [0, 1, 2] _ rfl (jMo_aliveSet_26 hL hX v1 v2 hk4 μ2)
    · refine J_iload_n (k0 := 1) (pc := 20) 1 hX (by decide +kernel) rfl rfl ?_
      refine J_iconst (pc := 21) (n := 1) (v := 1) hX (by decide +kernel) (by decide +kernel) ?_
      refine J_iload_n (k0 := 2) (pc := 22) 2 hX (by decide +kernel) rfl rfl ?_
      refine J_ishl (pc := 23) hX (by decide +kernel) ?_
      refine J_ior (pc := 24) hX (by decide +kernel) ?_
      refine J_istore_n (k0 := 1) (pc := 25) [(1, .int (v1 ||| (jshl 1 v2))), (0, .ref (G.1 + a)), (2, .int v2)] hX (by decide +kernel) rfl (by decide) rfl ?_
      exact J_sub [1, 0, 2] _ rfl (jMo_aliveSet_26 hL hX (v1 ||| (jshl 1 v2)) v2 hk4 μ2)
set_option maxRecDepth 100000 in
set_option maxHeartbeats 4000000 in
theorem jMo_aliveSet_4 {X : Cx} {l : Launch} {G : Gx} {y : Ly} {a : Nat} (hL : LyMo y a ) (hX : Ok X l G prog_13_method_135_code 3 (some .int) "SaltFiguresModel")    : ∀ (fu : Nat) (v1 : Int32) (v2 : Int32) (μ : Mu), J X G 3 2 y (emy y) rvI tpT 4 [(0, .ref (G.1 + a)), (1, .int v1), (2, .int v2)] [] (μ, y) (Mo_aliveSet_4 a   fu v1 v2 μ) := by
  intro fu
  induction fu with
  | zero => intros; exact J_none
  | succ fu ih => intro v1 v2 μ; exact jMo_aliveSet_4b hL hX   ih v1 v2 μ
set_option maxRecDepth 100000 in
set_option maxHeartbeats 4000000 in
theorem jMo_aliveSet {X : Cx} {l : Launch} {G : Gx} {y : Ly} {a : Nat} (hL : LyMo y a ) (hX : Ok X l G prog_13_method_135_code 3 (some .int) "SaltFiguresModel")  (μ : Mu) : J X G 3 2 y (emy y) rvI tpT 0 [(0, .ref (G.1 + a))] [] (μ, y) (Mo_aliveSet a  μ) := by
  unfold Mo_aliveSet
  refine J_iconst (pc := 0) (n := 0) (v := 0) hX (by decide +kernel) (by decide +kernel) ?_
  refine J_istore_n (k0 := 1) (pc := 1) [(1, .int 0), (0, .ref (G.1 + a))] hX (by decide +kernel) rfl (by decide) rfl ?_
  refine J_iconst (pc := 2) (n := 0) (v := 0) hX (by decide +kernel) (by decide +kernel) ?_
  refine J_istore_n (k0 := 2) (pc := 3) [(2, .int 0), (1, .int 0), (0, .ref (G.1 + a))] hX (by decide +kernel) rfl (by decide) rfl ?_
  exact J_sub [2, 1, 0] _ rfl (jMo_aliveSet_4 hL hX FU 0 0 μ)
set_option maxRecDepth 100000 in
set_option maxHeartbeats 4000000 in
theorem c_Mo_aliveSet {l : Launch} {G : Gx} {y : Ly} {a : Nat} (hL : LyMo y a )  (μ : Mu) : Cn l G ⟨"SaltFiguresModel", "aliveSet", "()I"⟩ prog_13_method_135_code 3 (some .int) 2 [.ref (G.1 + a)] (μ, y) (emy y) rvI tpT (Mo_aliveSet a  μ) := cn_of (by decide +kernel) (Nat.le_of_ble_eq_true rfl) (fun _ _ _ => ⟨List.prefix_refl _, trivial⟩) (fun X hX _ => jMo_aliveSet hL hX  μ)

def Mo_areaOf (a : Nat) (v1 : Int32) (v2 : Int32) (v3 : Int32) (μ : Mu) : Option (Int32 × Mu) := ldA μ (a + 22) 8 v2 (fun x1 => ldA μ (a + 22) 8 v1 (fun x2 => ldA μ (a + 23) 8 v3 (fun x3 => ldA μ (a + 23) 8 v1 (fun x4 => ldA μ (a + 23) 8 v2 (fun x5 => ldA μ (a + 23) 8 v1 (fun x6 => ldA μ (a + 22) 8 v3 (fun x7 => ldA μ (a + 22) 8 v1 (fun x8 => some (((x1 - x2) * (x3 - x4)) - ((x5 - x6) * (x7 - x8)), μ)))))))))
set_option maxRecDepth 100000 in
set_option maxHeartbeats 4000000 in
theorem jMo_areaOf {X : Cx} {l : Launch} {G : Gx} {y : Ly} {a : Nat} (hL : LyMo y a ) (hX : Ok X l G prog_13_method_100_code 4 (some .int) "SaltFiguresModel") (v1 : Int32) (v2 : Int32) (v3 : Int32) (μ : Mu) : J X G 4 1 y (emy y) rvI tpT 0 [(0, .ref (G.1 + a)), (1, .int v1), (2, .int v2), (3, .int v3)] [] (μ, y) (Mo_areaOf a v1 v2 v3 μ) := by
  unfold Mo_areaOf
  refine J_aload_n (k0 := 0) (pc := 0) 0 hX (by decide +kernel) rfl rfl ?_
  refine J_gr (pc := 1) hX (by decide +kernel) fl_Mo_77 hL.1 rfl hL.2.2.2.2.2.2.2.2.2.2.2.2.2.2.2.2.2.2.2.2.2.2.1.1 ?_
  refine J_iload_n (k0 := 2) (pc := 4) 2 hX (by decide +kernel) rfl rfl ?_
  refine J_ldA (pc := 5) hX (by decide +kernel) hL.2.2.2.2.2.2.2.2.2.2.2.2.2.2.2.2.2.2.2.2.2.2.1.2 (fun x1 => ?_)
  refine J_aload_n (k0 := 0) (pc := 6) 0 hX (by decide +kernel) rfl rfl ?_
  refine J_gr (pc := 7) hX (by decide +kernel) fl_Mo_77 hL.1 rfl hL.2.2.2.2.2.2.2.2.2.2.2.2.2.2.2.2.2.2.2.2.2.2.1.1 ?_
  refine J_iload_n (k0 := 1) (pc := 10) 1 hX (by decide +kernel) rfl rfl ?_
  refine J_ldA (pc := 11) hX (by decide +kernel) hL.2.2.2.2.2.2.2.2.2.2.2.2.2.2.2.2.2.2.2.2.2.2.1.2 (fun x2 => ?_)
  refine J_isub (pc := 12) hX (by decide +kernel) ?_
  refine J_aload_n (k0 := 0) (pc := 13) 0 hX (by decide +kernel) rfl rfl ?_
  refine J_gr (pc := 14) hX (by decide +kernel) fl_Mo_80 hL.1 rfl hL.2.2.2.2.2.2.2.2.2.2.2.2.2.2.2.2.2.2.2.2.2.2.2.1.1 ?_
  refine J_iload_n (k0 := 3) (pc := 17) 3 hX (by decide +kernel) rfl rfl ?_
  refine J_ldA (pc := 18) hX (by decide +kernel) hL.2.2.2.2.2.2.2.2.2.2.2.2.2.2.2.2.2.2.2.2.2.2.2.1.2 (fun x3 => ?_)
  refine J_aload_n (k0 := 0) (pc := 19) 0 hX (by decide +kernel) rfl rfl ?_
  refine J_gr (pc := 20) hX (by decide +kernel) fl_Mo_80 hL.1 rfl hL.2.2.2.2.2.2.2.2.2.2.2.2.2.2.2.2.2.2.2.2.2.2.2.1.1 ?_
  refine J_iload_n (k0 := 1) (pc := 23) 1 hX (by decide +kernel) rfl rfl ?_
  refine J_ldA (pc := 24) hX (by decide +kernel) hL.2.2.2.2.2.2.2.2.2.2.2.2.2.2.2.2.2.2.2.2.2.2.2.1.2 (fun x4 => ?_)
  refine J_isub (pc := 25) hX (by decide +kernel) ?_
  refine J_imul (pc := 26) hX (by decide +kernel) ?_
  refine J_aload_n (k0 := 0) (pc := 27) 0 hX (by decide +kernel) rfl rfl ?_
  refine J_gr (pc := 28) hX (by decide +kernel) fl_Mo_80 hL.1 rfl hL.2.2.2.2.2.2.2.2.2.2.2.2.2.2.2.2.2.2.2.2.2.2.2.1.1 ?_
  refine J_iload_n (k0 := 2) (pc := 31) 2 hX (by decide +kernel) rfl rfl ?_
  refine J_ldA (pc := 32) hX (by decide +kernel) hL.2.2.2.2.2.2.2.2.2.2.2.2.2.2.2.2.2.2.2.2.2.2.2.1.2 (fun x5 => ?_)
  refine J_aload_n (k0 := 0) (pc := 33) 0 hX (by decide +kernel) rfl rfl ?_
  refine J_gr (pc := 34) hX (by decide +kernel) fl_Mo_80 hL.1 rfl hL.2.2.2.2.2.2.2.2.2.2.2.2.2.2.2.2.2.2.2.2.2.2.2.1.1 ?_
  refine J_iload_n (k0 := 1) (pc := 37) 1 hX (by decide +kernel) rfl rfl ?_
  refine J_ldA (pc := 38) hX (by decide +kernel) hL.2.2.2.2.2.2.2.2.2.2.2.2.2.2.2.2.2.2.2.2.2.2.2.1.2 (fun x6 => ?_)
  refine J_isub (pc := 39) hX (by decide +kernel) ?_
  refine J_aload_n (k0 := 0) (pc := 40) 0 hX (by decide +kernel) rfl rfl ?_
  refine J_gr (pc := 41) hX (by decide +kernel) fl_Mo_77 hL.1 rfl hL.2.2.2.2.2.2.2.2.2.2.2.2.2.2.2.2.2.2.2.2.2.2.1.1 ?_
  refine J_iload_n (k0 := 3) (pc := 44) 3 hX (by decide +kernel) rfl rfl ?_
  refine J_ldA (pc := 45) hX (by decide +kernel) hL.2.2.2.2.2.2.2.2.2.2.2.2.2.2.2.2.2.2.2.2.2.2.1.2 (fun x7 => ?_)
  refine J_aload_n (k0 := 0) (pc := 46) 0 hX (by decide +kernel) rfl rfl ?_
  refine J_gr (pc := 47) hX (by decide +kernel) fl_Mo_77 hL.1 rfl hL.2.2.2.2.2.2.2.2.2.2.2.2.2.2.2.2.2.2.2.2.2.2.1.1 ?_
  refine J_iload_n (k0 := 1) (pc := 50) 1 hX (by decide +kernel) rfl rfl ?_
  refine J_ldA (pc := 51) hX (by decide +kernel) hL.2.2.2.2.2.2.2.2.2.2.2.2.2.2.2.2.2.2.2.2.2.2.1.2 (fun x8 => ?_)
  refine J_isub (pc := 52) hX (by decide +kernel) ?_
  refine J_imul (pc := 53) hX (by decide +kernel) ?_
  refine J_isub (pc := 54) hX (by decide +kernel) ?_
  exact J_iret (pc := 55) hX (by decide +kernel) rfl trivial
set_option maxRecDepth 100000 in
set_option maxHeartbeats 4000000 in
theorem c_Mo_areaOf {l : Launch} {G : Gx} {y : Ly} {a : Nat} (hL : LyMo y a ) (v1 : Int32) (v2 : Int32) (v3 : Int32) (μ : Mu) : Cn l G ⟨"SaltFiguresModel", "areaOf", "(III)I"⟩ prog_13_method_100_code 4 (some .int) 1 [.ref (G.1 + a), .int v1, .int v2, .int v3] (μ, y) (emy y) rvI tpT (Mo_areaOf a v1 v2 v3 μ) := cn_of (by decide +kernel) (Nat.le_of_ble_eq_true rfl) (fun _ _ _ => ⟨List.prefix_refl _, trivial⟩) (fun X hX _ => jMo_areaOf hL hX v1 v2 v3 μ)

def Mo_book (a : Nat) (v1 : Int32) (v2 : Int32) (μ : Mu) : Option (Int32 × Mu) := pF μ a 0 0 (fun μ1 => ldA μ1 (a + 1) 118 2 (fun x2 => cl (Mo_isIn a v1 0 (x2 - 1) μ1) (fun x4 μ3 => (if x4 = 0 then some ((-1), μ3) else cl (Mo_isIn a v2 0 3 μ3) (fun x6 μ5 => (if x6 = 0 then some ((-1), μ5) else ldA μ5 (a + 4) 600 ((4 * v1) + v2) (fun x7 => some (x7, μ5))))))))
set_option maxRecDepth 100000 in
set_option maxHeartbeats 4000000 in
theorem jMo_book {X : Cx} {l : Launch} {G : Gx} {y : Ly} {a : Nat} (hL : LyMo y a ) (hX : Ok X l G prog_13_method_86_code 3 (some .int) "SaltFiguresModel") (v1 : Int32) (v2 : Int32) (μ : Mu) : J X G 3 2 y (emy y) rvI tpT 0 [(0, .ref (G.1 + a)), (1, .int v1), (2, .int v2)] [] (μ, y) (Mo_book a v1 v2 μ) := by
  unfold Mo_book
  refine J_aload_n (k0 := 0) (pc := 0) 0 hX (by decide +kernel) rfl rfl ?_
  refine J_iconst (pc := 1) (n := 0) (v := 0) hX (by decide +kernel) (by decide +kernel) ?_
  refine J_pF (pc := 2) hX (by decide +kernel) fl_Mo_131 hL.1 rfl (fun μ1 => ?_)
  refine J_aload_n (k0 := 0) (pc := 5) 0 hX (by decide +kernel) rfl rfl ?_
  refine J_iload_n (k0 := 1) (pc := 6) 1 hX (by decide +kernel) rfl rfl ?_
  refine J_iconst (pc := 7) (n := 0) (v := 0) hX (by decide +kernel) (by decide +kernel) ?_
  refine J_aload_n (k0 := 0) (pc := 8) 0 hX (by decide +kernel) rfl rfl ?_
  refine J_gr (pc := 9) hX (by decide +kernel) fl_Mo_7 hL.1 rfl hL.2.1.1 ?_
  refine J_iconst (pc := 12) (n := 2) (v := 2) hX (by decide +kernel) (by decide +kernel) ?_
  refine J_ldA (pc := 13) hX (by decide +kernel) hL.2.1.2 (fun x2 => ?_)
  refine J_iconst (pc := 14) (n := 1) (v := 1) hX (by decide +kernel) (by decide +kernel) ?_
  refine J_isub (pc := 15) hX (by decide +kernel) ?_
  refine J_cVi (pc := 16) (idx := 154) [.int v1, .int 0, .int (x2 - 1)] hX (by decide +kernel) (mq mt_6 226 (by decide +kernel)) mv_Mo_isIn hL.1 rfl rfl (Nat.le_of_ble_eq_true rfl) (Nat.le_of_ble_eq_true rfl) (c_Mo_isIn hL v1 0 (x2 - 1) μ1) (fun x4 μ3 => ?_)
  refine J_if_eq (pc := 19) (off := 26) (tgt := 45) hX (by decide +kernel) (by decide +kernel) (fun _ => ?_) (fun _ => ?_)
  · refine J_iconst (pc := 45) (n := -1) (v := (-1)) hX (by decide +kernel) (by decide +kernel) ?_
    exact J_iret (pc := 46) hX (by decide +kernel) rfl trivial
  · refine J_aload_n (k0 := 0) (pc := 22) 0 hX (by decide +kernel) rfl rfl ?_
    refine J_iload_n (k0 := 2) (pc := 23) 2 hX (by decide +kernel) rfl rfl ?_
    refine J_iconst (pc := 24) (n := 0) (v := 0) hX (by decide +kernel) (by decide +kernel) ?_
    refine J_iconst (pc := 25) (n := 3) (v := 3) hX (by decide +kernel) (by decide +kernel) ?_
    refine J_cVi (pc := 26) (idx := 154) [.int v2, .int 0, .int 3] hX (by decide +kernel) (mq mt_6 226 (by decide +kernel)) mv_Mo_isIn hL.1 rfl rfl (Nat.le_of_ble_eq_true rfl) (Nat.le_of_ble_eq_true rfl) (c_Mo_isIn hL v2 0 3 μ3) (fun x6 μ5 => ?_)
    refine J_if_eq (pc := 29) (off := 16) (tgt := 45) hX (by decide +kernel) (by decide +kernel) (fun _ => ?_) (fun _ => ?_)
    · refine J_iconst (pc := 45) (n := -1) (v := (-1)) hX (by decide +kernel) (by decide +kernel) ?_
      exact J_iret (pc := 46) hX (by decide +kernel) rfl trivial
    · refine J_aload_n (k0 := 0) (pc := 32) 0 hX (by decide +kernel) rfl rfl ?_
      refine J_gr (pc := 33) hX (by decide +kernel) fl_Mo_19 hL.1 rfl hL.2.2.2.2.1.1 ?_
      refine J_iconst (pc := 36) (n := 4) (v := 4) hX (by decide +kernel) (by decide +kernel) ?_
      refine J_iload_n (k0 := 1) (pc := 37) 1 hX (by decide +kernel) rfl rfl ?_
      refine J_imul (pc := 38) hX (by decide +kernel) ?_
      refine J_iload_n (k0 := 2) (pc := 39) 2 hX (by decide +kernel) rfl rfl ?_
      refine J_iadd (pc := 40) hX (by decide +kernel) ?_
      refine J_ldA (pc := 41) hX (by decide +kernel) hL.2.2.2.2.1.2 (fun x7 => ?_)
      refine J_goto (pc := 42) (off := 4) (tgt := 46) hX (by decide +kernel) (by decide +kernel) ?_
      exact J_iret (pc := 46) hX (by decide +kernel) rfl trivial
set_option maxRecDepth 100000 in
set_option maxHeartbeats 4000000 in
theorem c_Mo_book {l : Launch} {G : Gx} {y : Ly} {a : Nat} (hL : LyMo y a ) (v1 : Int32) (v2 : Int32) (μ : Mu) : Cn l G ⟨"SaltFiguresModel", "book", "(II)I"⟩ prog_13_method_86_code 3 (some .int) 2 [.ref (G.1 + a), .int v1, .int v2] (μ, y) (emy y) rvI tpT (Mo_book a v1 v2 μ) := cn_of (by decide +kernel) (Nat.le_of_ble_eq_true rfl) (fun _ _ _ => ⟨List.prefix_refl _, trivial⟩) (fun X hX _ => jMo_book hL hX v1 v2 μ)

def Mo_canAsk (a : Nat) (v1 : Int32) (μ : Mu) : Option (Int32 × Mu) := cl (Mo_isIn a v1 7 16 μ) (fun x2 μ1 => zg x2 (some (x2, μ1)))
set_option maxRecDepth 100000 in
set_option maxHeartbeats 4000000 in
theorem jMo_canAsk {X : Cx} {l : Launch} {G : Gx} {y : Ly} {a : Nat} (hL : LyMo y a ) (hX : Ok X l G prog_13_method_36_code 2 (some .boolean) "SaltFiguresModel") (v1 : Int32) (μ : Mu) : J X G 2 2 y (emy y) rvI tpT 0 [(0, .ref (G.1 + a)), (1, .int v1)] [] (μ, y) (Mo_canAsk a v1 μ) := by
  unfold Mo_canAsk
  refine J_aload_n (k0 := 0) (pc := 0) 0 hX (by decide +kernel) rfl rfl ?_
  refine J_iload_n (k0 := 1) (pc := 1) 1 hX (by decide +kernel) rfl rfl ?_
  refine J_bipush (pc := 2) (n := 7) (v := 7) hX (by decide +kernel) (by decide +kernel) ?_
  refine J_bipush (pc := 4) (n := 16) (v := 16) hX (by decide +kernel) (by decide +kernel) ?_
  refine J_cVi (pc := 6) (idx := 154) [.int v1, .int 7, .int 16] hX (by decide +kernel) (mq mt_6 226 (by decide +kernel)) mv_Mo_isIn hL.1 rfl rfl (Nat.le_of_ble_eq_true rfl) (Nat.le_of_ble_eq_true rfl) (c_Mo_isIn hL v1 7 16 μ) (fun x2 μ1 => ?_)
  exact J_zgr (pc := 9) hX (by decide +kernel) rfl trivial
set_option maxRecDepth 100000 in
set_option maxHeartbeats 4000000 in
theorem c_Mo_canAsk {l : Launch} {G : Gx} {y : Ly} {a : Nat} (hL : LyMo y a ) (v1 : Int32) (μ : Mu) : Cn l G ⟨"SaltFiguresModel", "canAsk", "(I)Z"⟩ prog_13_method_36_code 2 (some .boolean) 2 [.ref (G.1 + a), .int v1] (μ, y) (emy y) rvI tpT (Mo_canAsk a v1 μ) := cn_of (by decide +kernel) (Nat.le_of_ble_eq_true rfl) (fun _ _ _ => ⟨List.prefix_refl _, trivial⟩) (fun X hX _ => jMo_canAsk hL hX v1 μ)

def Mo_tallest_44 (a : Nat) (kb4 : Int32 → Int32 → Mu → Option (Int32 × Mu))  (v1 : Int32) (v2 : Int32)  (μ : Mu) : Option (Int32 × Mu) := kb4 v1 (v2 + 1) μ
def Mo_tallest_39 (a : Nat) (kb4 : Int32 → Int32 → Mu → Option (Int32 × Mu))  (v1 : Int32) (v2 : Int32) (s0 : Int32) (s1 : Int32) (μ : Mu) : Option (Int32 × Mu) := (if s1 ≤ s0 then Mo_tallest_44 a kb4 v1 v2 μ else Mo_tallest_44 a kb4 v2 v2 μ)
def Mo_tallest_4b (a : Nat)  (kb4 : Int32 → Int32 → Mu → Option (Int32 × Mu))  (v1 : Int32) (v2 : Int32)  (μ : Mu) : Option (Int32 × Mu) := gF μ a 6 (fun x1 => (if x1 ≤ v2 then some (v1, μ) else ldA μ (a + 1) 118 (22 + v2) (fun x2 => (if v1 = ((-1)) then Mo_tallest_39 a kb4 v1 v2 0 x2 μ else ldA μ (a + 1) 118 (22 + v1) (fun x3 => Mo_tallest_39 a kb4 v1 v2 x3 x2 μ)))))
def Mo_tallest_4 (a : Nat)   (fu : Nat) : Int32 → Int32 → Mu → Option (Int32 × Mu) := lp (fun kb => Mo_tallest_4b a  kb ) (fun _ _ _ => none) fu
def Mo_tallest (a : Nat)  (μ : Mu) : Option (Int32 × Mu) := Mo_tallest_4 a FU ((-1)) 0 μ
set_option maxRecDepth 100000 in
set_option maxHeartbeats 4000000 in
theorem jMo_tallest_44 {X : Cx} {l : Launch} {G : Gx} {y : Ly} {a : Nat} (hL : LyMo y a ) (hX : Ok X l G prog_13_method_78_code 3 (some .int) "SaltFiguresModel")  (v1 : Int32) (v2 : Int32)  {kb4 : Int32 → Int32 → Mu → Option (Int32 × Mu)} (hk4 : ∀ (v1 : Int32) (v2 : Int32) (μ : Mu), J X G 3 1 y (emy y) rvI tpT 4 [(0, .ref (G.1 + a)), (1, .int v1), (2, .int v2)] [] (μ, y) (kb4 v1 v2 μ)) (μ : Mu) : J X G 3 1 y (emy y) rvI tpT 44 [(0, .ref (G.1 + a)), (1, .int v1), (2, .int v2)] [] (μ, y) (Mo_tallest_44 a kb4  v1 v2  μ) := by
  unfold Mo_tallest_44
  refine J_iinc (pc := 44) (n := 1) 2 [(2, .int (v2 + 1)), (0, .ref (G.1 + a)), (1, .int v1)] hX (by decide +kernel) rfl rfl (by decide) rfl ?_
  refine J_goto (pc := 47) (off := -43) (tgt := 4) hX (by decide +kernel) (by decide +kernel) ?_
  exact J_sub [1, 2, 0] _ rfl (hk4 v1 (v2 + 1) μ)
set_option maxRecDepth 100000 in
set_option maxHeartbeats 4000000 in
theorem jMo_tallest_39 {X : Cx} {l : Launch} {G : Gx} {y : Ly} {a : Nat} (hL : LyMo y a ) (hX : Ok X l G prog_13_method_78_code 3 (some .int) "SaltFiguresModel")  (v1 : Int32) (v2 : Int32) (s0 : Int32) (s1 : Int32) {kb4 : Int32 → Int32 → Mu → Option (Int32 × Mu)} (hk4 : ∀ (v1 : Int32) (v2 : Int32) (μ : Mu), J X G 3 1 y (emy y) rvI tpT 4 [(0, .ref (G.1 + a)), (1, .int v1), (2, .int v2)] [] (μ, y) (kb4 v1 v2 μ)) (μ : Mu) : J X G 3 1 y (emy y) rvI tpT 39 [(0, .ref (G.1 + a)), (1, .int v1), (2, .int v2)] [.int s0, .int s1] (μ, y) (Mo_tallest_39 a kb4  v1 v2 s0 s1 μ) := by
  unfold Mo_tallest_39
  refine J_icmp_le (pc := 39) (off := 5) (tgt := 44) hX (by decide +kernel) (by decide +kernel) (fun _ => ?_) (fun _ => ?_)
  · exact J_sub [0, 1, 2] _ rfl (jMo_tallest_44 hL hX v1 v2 hk4 μ)
  · refine J_iload_n (k0 := 2) (pc := 42) 2 hX (by decide +kernel) rfl rfl ?_
    refine J_istore_n (k0 := 1) (pc := 43) [(1, .int v2), (0, .ref (G.1 + a)), (2, .int v2)] hX (by decide +kernel) rfl (by decide) rfl ?_
    exact J_sub [1, 0, 2] _ rfl (jMo_tallest_44 hL hX v2 v2 hk4 μ)
set_option maxRecDepth 100000 in
set_option maxHeartbeats 4000000 in
theorem jMo_tallest_4b {X : Cx} {l : Launch} {G : Gx} {y : Ly} {a : Nat} (hL : LyMo y a ) (hX : Ok X l G prog_13_method_78_code 3 (some .int) "SaltFiguresModel")   {kb4 : Int32 → Int32 → Mu → Option (Int32 × Mu)}  (hk4 : ∀ (v1 : Int32) (v2 : Int32) (μ : Mu), J X G 3 1 y (emy y) rvI tpT 4 [(0, .ref (G.1 + a)), (1, .int v1), (2, .int v2)] [] (μ, y) (kb4 v1 v2 μ)) (v1 : Int32) (v2 : Int32)  (μ : Mu) : J X G 3 1 y (emy y) rvI tpT 4 [(0, .ref (G.1 + a)), (1, .int v1), (2, .int v2)] [] (μ, y) (Mo_tallest_4b a  kb4  v1 v2  μ) := by
  unfold Mo_tallest_4b
  refine J_iload_n (k0 := 2) (pc := 4) 2 hX (by decide +kernel) rfl rfl ?_
  refine J_aload_n (k0 := 0) (pc := 5) 0 hX (by decide +kernel) rfl rfl ?_
  refine J_gF (pc := 6) hX (by decide +kernel) fl_Mo_144 hL.1 rfl (fun x1 => ?_)
  refine J_icmp_ge (pc := 9) (off := 41) (tgt := 50) hX (by decide +kernel) (by decide +kernel) (fun _ => ?_) (fun _ => ?_)
  · refine J_iload_n (k0 := 1) (pc := 50) 1 hX (by decide +kernel) rfl rfl ?_
    exact J_iret (pc := 51) hX (by decide +kernel) rfl trivial
  · refine J_aload_n (k0 := 0) (pc := 12) 0 hX (by decide +kernel) rfl rfl ?_
    refine J_gr (pc := 13) hX (by decide +kernel) fl_Mo_7 hL.1 rfl hL.2.1.1 ?_
    refine J_bipush (pc := 16) (n := 22) (v := 22) hX (by decide +kernel) (by decide +kernel) ?_
    refine J_iload_n (k0 := 2) (pc := 18) 2 hX (by decide +kernel) rfl rfl ?_
    refine J_iadd (pc := 19) hX (by decide +kernel) ?_
    refine J_ldA (pc := 20) hX (by decide +kernel) hL.2.1.2 (fun x2 => ?_)
    refine J_iload_n (k0 := 1) (pc := 21) 1 hX (by decide +kernel) rfl rfl ?_
    refine J_iconst (pc := 22) (n := -1) (v := (-1)) hX (by decide +kernel) (by decide +kernel) ?_
    refine J_icmp_ne (pc := 23) (off := 7) (tgt := 30) hX (by decide +kernel) (by decide +kernel) (fun _ => ?_) (fun _ => ?_)
    · refine J_aload_n (k0 := 0) (pc := 30) 0 hX (by decide +kernel) rfl rfl ?_
      refine J_gr (pc := 31) hX (by decide +kernel) fl_Mo_7 hL.1 rfl hL.2.1.1 ?_
      refine J_bipush (pc := 34) (n := 22) (v := 22) hX (by decide +kernel) (by decide +kernel) ?_
      refine J_iload_n (k0 := 1) (pc := 36) 1 hX (by decide +kernel) rfl rfl ?_
      refine J_iadd (pc := 37) hX (by decide +kernel) ?_
      refine J_ldA (pc := 38) hX (by decide +kernel) hL.2.1.2 (fun x3 => ?_)
      exact J_sub [0, 1, 2] _ rfl (jMo_tallest_39 hL hX v1 v2 x3 x2 hk4 μ)
    · refine J_iconst (pc := 26) (n := 0) (v := 0) hX (by decide +kernel) (by decide +kernel) ?_
      refine J_goto (pc := 27) (off := 12) (tgt := 39) hX (by decide +kernel) (by decide +kernel) ?_
      exact J_sub [0, 1, 2] _ rfl (jMo_tallest_39 hL hX v1 v2 0 x2 hk4 μ)
set_option maxRecDepth 100000 in
set_option maxHeartbeats 4000000 in
theorem jMo_tallest_4 {X : Cx} {l : Launch} {G : Gx} {y : Ly} {a : Nat} (hL : LyMo y a ) (hX : Ok X l G prog_13_method_78_code 3 (some .int) "SaltFiguresModel")    : ∀ (fu : Nat) (v1 : Int32) (v2 : Int32) (μ : Mu), J X G 3 1 y (emy y) rvI tpT 4 [(0, .ref (G.1 + a)), (1, .int v1), (2, .int v2)] [] (μ, y) (Mo_tallest_4 a   fu v1 v2 μ) := by
  intro fu
  induction fu with
  | zero => intros; exact J_none
  | succ fu ih => intro v1 v2 μ; exact jMo_tallest_4b hL hX   ih v1 v2 μ
set_option maxRecDepth 100000 in
set_option maxHeartbeats 4000000 in
theorem jMo_tallest {X : Cx} {l : Launch} {G : Gx} {y : Ly} {a : Nat} (hL : LyMo y a ) (hX : Ok X l G prog_13_method_78_code 3 (some .int) "SaltFiguresModel")  (μ : Mu) : J X G 3 1 y (emy y) rvI tpT 0 [(0, .ref (G.1 + a))] [] (μ, y) (Mo_tallest a  μ) := by
  unfold Mo_tallest
  refine J_iconst (pc := 0) (n := -1) (v := (-1)) hX (by decide +kernel) (by decide +kernel) ?_
  refine J_istore_n (k0 := 1) (pc := 1) [(1, .int ((-1))), (0, .ref (G.1 + a))] hX (by decide +kernel) rfl (by decide) rfl ?_
  refine J_iconst (pc := 2) (n := 0) (v := 0) hX (by decide +kernel) (by decide +kernel) ?_
  refine J_istore_n (k0 := 2) (pc := 3) [(2, .int 0), (1, .int ((-1))), (0, .ref (G.1 + a))] hX (by decide +kernel) rfl (by decide) rfl ?_
  exact J_sub [2, 1, 0] _ rfl (jMo_tallest_4 hL hX FU ((-1)) 0 μ)
set_option maxRecDepth 100000 in
set_option maxHeartbeats 4000000 in
theorem c_Mo_tallest {l : Launch} {G : Gx} {y : Ly} {a : Nat} (hL : LyMo y a )  (μ : Mu) : Cn l G ⟨"SaltFiguresModel", "tallest", "()I"⟩ prog_13_method_78_code 3 (some .int) 1 [.ref (G.1 + a)] (μ, y) (emy y) rvI tpT (Mo_tallest a  μ) := cn_of (by decide +kernel) (Nat.le_of_ble_eq_true rfl) (fun _ _ _ => ⟨List.prefix_refl _, trivial⟩) (fun X hX _ => jMo_tallest hL hX  μ)

def Mo_cattleLick_132 (a : Nat) (kb103 : Int32 → Mu → Option (Unit × Mu))  (v2 : Int32)  (μ : Mu) : Option (Unit × Mu) := kb103 (v2 + 1) μ
def Mo_cattleLick_103b (a : Nat)  (kb103 : Int32 → Mu → Option (Unit × Mu))  (v2 : Int32)  (μ : Mu) : Option (Unit × Mu) := gF μ a 6 (fun x1 => (if x1 ≤ v2 then some ((), μ) else ldA μ (a + 21) 16 v2 (fun x2 => (if x2 ≤ 0 then Mo_cattleLick_132 a kb103 v2 μ else ldA μ (a + 21) 16 v2 (fun x3 => cl (Mo_notes a 2 v2 x3 μ) (fun _ μ4 => Mo_cattleLick_132 a kb103 v2 μ4))))))
def Mo_cattleLick_103 (a : Nat)   (fu : Nat) : Int32 → Mu → Option (Unit × Mu) := lp (fun kb => Mo_cattleLick_103b a  kb ) (fun _ _ => none) fu
def Mo_cattleLick_95 (a : Nat) (kb23 : Int32 → Mu → Option (Unit × Mu))  (v1 : Int32) (v2 : Int32)  (μ : Mu) : Option (Unit × Mu) := kb23 (v2 + 1) μ
def Mo_cattleLick_23b (a : Nat)  (kb23 : Int32 → Mu → Option (Unit × Mu)) (v1 : Int32) (v2 : Int32)  (μ : Mu) : Option (Unit × Mu) := (if v1 ≤ v2 then Mo_cattleLick_103 a FU 0 μ else cl (Mo_tallest a μ) (fun x2 μ1 => (if x2 = ((-1)) then Mo_cattleLick_95 a kb23 v1 v2 μ1 else ldA μ1 (a + 1) 118 (22 + x2) (fun x3 => stA μ1 (a + 1) 118 (22 + x2) (x3 - 1) (fun μ4 => ldA μ4 (a + 1) 118 (70 + x2) (fun x5 => stA μ4 (a + 1) 118 (70 + x2) (x5 + 1) (fun μ6 => ldA μ6 (a + 21) 16 x2 (fun x7 => stA μ6 (a + 21) 16 x2 (x7 + 1) (fun μ8 => Mo_cattleLick_95 a kb23 v1 v2 μ8)))))))))
def Mo_cattleLick_23 (a : Nat)  (v1 : Int32) (fu : Nat) : Int32 → Mu → Option (Unit × Mu) := lp (fun kb => Mo_cattleLick_23b a  kb v1) (fun _ _ => none) fu
def Mo_cattleLick_2b (a : Nat)  (kb2 : Int32 → Mu → Option (Unit × Mu)) (v1 : Int32) (v2 : Int32)  (μ : Mu) : Option (Unit × Mu) := (if 16 ≤ v2 then Mo_cattleLick_23 a v1 FU 0 μ else stA μ (a + 21) 16 v2 0 (fun μ1 => kb2 (v2 + 1) μ1))
def Mo_cattleLick_2 (a : Nat)  (v1 : Int32) (fu : Nat) : Int32 → Mu → Option (Unit × Mu) := lp (fun kb => Mo_cattleLick_2b a  kb v1) (fun _ _ => none) fu
def Mo_cattleLick (a : Nat) (v1 : Int32) (μ : Mu) : Option (Unit × Mu) := Mo_cattleLick_2 a v1 FU 0 μ
set_option maxRecDepth 100000 in
set_option maxHeartbeats 4000000 in
theorem jMo_cattleLick_132 {X : Cx} {l : Launch} {G : Gx} {y : Ly} {a : Nat} (hL : LyMo y a ) (hX : Ok X l G prog_13_method_79_code 4 none "SaltFiguresModel")  (v2 : Int32)  {kb103 : Int32 → Mu → Option (Unit × Mu)} (hk103 : ∀ (v2 : Int32) (μ : Mu), J X G 4 2 y (emy y) rvV tpT 103 [(0, .ref (G.1 + a)), (2, .int v2)] [] (μ, y) (kb103 v2 μ)) (μ : Mu) : J X G 4 2 y (emy y) rvV tpT 132 [(0, .ref (G.1 + a)), (2, .int v2)] [] (μ, y) (Mo_cattleLick_132 a kb103  v2  μ) := by
  unfold Mo_cattleLick_132
  refine J_iinc (pc := 132) (n := 1) 1 [(2, .int (v2 + 1)), (0, .ref (G.1 + a))] hX (by decide +kernel) rfl rfl (by decide) rfl ?_
  refine J_goto (pc := 135) (off := -32) (tgt := 103) hX (by decide +kernel) (by decide +kernel) ?_
  exact J_sub [1, 0] _ rfl (hk103 (v2 + 1) μ)
set_option maxRecDepth 100000 in
set_option maxHeartbeats 4000000 in
theorem jMo_cattleLick_103b {X : Cx} {l : Launch} {G : Gx} {y : Ly} {a : Nat} (hL : LyMo y a ) (hX : Ok X l G prog_13_method_79_code 4 none "SaltFiguresModel")   {kb103 : Int32 → Mu → Option (Unit × Mu)}  (hk103 : ∀ (v2 : Int32) (μ : Mu), J X G 4 2 y (emy y) rvV tpT 103 [(0, .ref (G.1 + a)), (2, .int v2)] [] (μ, y) (kb103 v2 μ)) (v2 : Int32)  (μ : Mu) : J X G 4 2 y (emy y) rvV tpT 103 [(0, .ref (G.1 + a)), (2, .int v2)] [] (μ, y) (Mo_cattleLick_103b a  kb103  v2  μ) := by
  unfold Mo_cattleLick_103b
  refine J_iload_n (k0 := 2) (pc := 103) 1 hX (by decide +kernel) rfl rfl ?_
  refine J_aload_n (k0 := 0) (pc := 104) 0 hX (by decide +kernel) rfl rfl ?_
  refine J_gF (pc := 105) hX (by decide +kernel) fl_Mo_144 hL.1 rfl (fun x1 => ?_)
  refine J_icmp_ge (pc := 108) (off := 30) (tgt := 138) hX (by decide +kernel) (by decide +kernel) (fun _ => ?_) (fun _ => ?_)
  · exact J_vret (pc := 138) hX (by decide +kernel) rfl trivial
  · refine J_aload_n (k0 := 0) (pc := 111) 0 hX (by decide +kernel) rfl rfl ?_
    refine J_gr (pc := 112) hX (by decide +kernel) fl_Mo_74 hL.1 rfl hL.2.2.2.2.2.2.2.2.2.2.2.2.2.2.2.2.2.2.2.2.2.1.1 ?_
    refine J_iload_n (k0 := 2) (pc := 115) 1 hX (by decide +kernel) rfl rfl ?_
    refine J_ldA (pc := 116) hX (by decide +kernel) hL.2.2.2.2.2.2.2.2.2.2.2.2.2.2.2.2.2.2.2.2.2.1.2 (fun x2 => ?_)
    refine J_if_le (pc := 117) (off := 15) (tgt := 132) hX (by decide +kernel) (by decide +kernel) (fun _ => ?_) (fun _ => ?_)
    · exact J_sub [0, 1] _ rfl (jMo_cattleLick_132 hL hX v2 hk103 μ)
    · refine J_aload_n (k0 := 0) (pc := 120) 0 hX (by decide +kernel) rfl rfl ?_
      refine J_iconst (pc := 121) (n := 2) (v := 2) hX (by decide +kernel) (by decide +kernel) ?_
      refine J_iload_n (k0 := 2) (pc := 122) 1 hX (by decide +kernel) rfl rfl ?_
      refine J_aload_n (k0 := 0) (pc := 123) 0 hX (by decide +kernel) rfl rfl ?_
      refine J_gr (pc := 124) hX (by decide +kernel) fl_Mo_74 hL.1 rfl hL.2.2.2.2.2.2.2.2.2.2.2.2.2.2.2.2.2.2.2.2.2.1.1 ?_
      refine J_iload_n (k0 := 2) (pc := 127) 1 hX (by decide +kernel) rfl rfl ?_
      refine J_ldA (pc := 128) hX (by decide +kernel) hL.2.2.2.2.2.2.2.2.2.2.2.2.2.2.2.2.2.2.2.2.2.1.2 (fun x3 => ?_)
      refine J_cVv (pc := 129) (idx := 351) [.int 2, .int v2, .int x3] hX (by decide +kernel) (mq mt_7 222 (by decide +kernel)) mv_Mo_notes hL.1 rfl rfl (Nat.le_of_ble_eq_true rfl) (Nat.le_of_ble_eq_true rfl) (c_Mo_notes hL 2 v2 x3 μ) (fun μ4 => ?_)
      exact J_sub [0, 1] _ rfl (jMo_cattleLick_132 hL hX v2 hk103 μ4)
set_option maxRecDepth 100000 in
set_option maxHeartbeats 4000000 in
theorem jMo_cattleLick_103 {X : Cx} {l : Launch} {G : Gx} {y : Ly} {a : Nat} (hL : LyMo y a ) (hX : Ok X l G prog_13_method_79_code 4 none "SaltFiguresModel")    : ∀ (fu : Nat) (v2 : Int32) (μ : Mu), J X G 4 2 y (emy y) rvV tpT 103 [(0, .ref (G.1 + a)), (2, .int v2)] [] (μ, y) (Mo_cattleLick_103 a   fu v2 μ) := by
  intro fu
  induction fu with
  | zero => intros; exact J_none
  | succ fu ih => intro v2 μ; exact jMo_cattleLick_103b hL hX   ih v2 μ
set_option maxRecDepth 100000 in
set_option maxHeartbeats 4000000 in
theorem jMo_cattleLick_95 {X : Cx} {l : Launch} {G : Gx} {y : Ly} {a : Nat} (hL : LyMo y a ) (hX : Ok X l G prog_13_method_79_code 4 none "SaltFiguresModel")  (v1 : Int32) (v2 : Int32)  {kb23 : Int32 → Mu → Option (Unit × Mu)} (hk23 : ∀ (v2 : Int32) (μ : Mu), J X G 4 2 y (emy y) rvV tpT 23 [(0, .ref (G.1 + a)), (1, .int v1), (2, .int v2)] [] (μ, y) (kb23 v2 μ)) (μ : Mu) : J X G 4 2 y (emy y) rvV tpT 95 [(0, .ref (G.1 + a)), (1, .int v1), (2, .int v2)] [] (μ, y) (Mo_cattleLick_95 a kb23  v1 v2  μ) := by
  unfold Mo_cattleLick_95
  refine J_iinc (pc := 95) (n := 1) 2 [(2, .int (v2 + 1)), (0, .ref (G.1 + a)), (1, .int v1)] hX (by decide +kernel) rfl rfl (by decide) rfl ?_
  refine J_goto (pc := 98) (off := -75) (tgt := 23) hX (by decide +kernel) (by decide +kernel) ?_
  exact J_sub [1, 2, 0] _ rfl (hk23 (v2 + 1) μ)
set_option maxRecDepth 100000 in
set_option maxHeartbeats 4000000 in
theorem jMo_cattleLick_23b {X : Cx} {l : Launch} {G : Gx} {y : Ly} {a : Nat} (hL : LyMo y a ) (hX : Ok X l G prog_13_method_79_code 4 none "SaltFiguresModel") (v1 : Int32)  {kb23 : Int32 → Mu → Option (Unit × Mu)}  (hk23 : ∀ (v2 : Int32) (μ : Mu), J X G 4 2 y (emy y) rvV tpT 23 [(0, .ref (G.1 + a)), (1, .int v1), (2, .int v2)] [] (μ, y) (kb23 v2 μ)) (v2 : Int32)  (μ : Mu) : J X G 4 2 y (emy y) rvV tpT 23 [(0, .ref (G.1 + a)), (1, .int v1), (2, .int v2)] [] (μ, y) (Mo_cattleLick_23b a  kb23 v1 v2  μ) := by
  unfold Mo_cattleLick_23b
  refine J_iload_n (k0 := 2) (pc := 23) 2 hX (by decide +kernel) rfl rfl ?_
  refine J_iload_n (k0 := 1) (pc := 24) 1 hX (by decide +kernel) rfl rfl ?_
  refine J_icmp_ge (pc := 25) (off := 76) (tgt := 101) hX (by decide +kernel) (by decide +kernel) (fun _ => ?_) (fun _ => ?_)
  · refine J_iconst (pc := 101) (n := 0) (v := 0) hX (by decide +kernel) (by decide +kernel) ?_
    refine J_istore_n (k0 := 2) (pc := 102) [(2, .int 0), (0, .ref (G.1 + a)), (1, .int v1)] hX (by decide +kernel) rfl (by decide) rfl ?_
    exact J_sub [1, 0] _ rfl (jMo_cattleLick_103 hL hX FU 0 μ)
  · refine J_aload_n (k0 := 0) (pc := 28) 0 hX (by decide +kernel) rfl rfl ?_
    refine J_cVi (pc := 29) (idx := 373) [] hX (by decide +kernel) (mq mt_8 10 (by decide +kernel)) mv_Mo_tallest hL.1 rfl rfl (Nat.le_of_ble_eq_true rfl) (Nat.le_of_ble_eq_true rfl) (c_Mo_tallest hL μ) (fun x2 μ1 => ?_)
    refine J_istore_n (k0 := 3) (pc := 32) [(3, .int x2), (0, .ref (G.1 + a)), (1, .int v1), (2, .int v2)] hX (by decide +kernel) rfl (by decide) rfl ?_
    refine J_iload_n (k0 := 3) (pc := 33) 0 hX (by decide +kernel) rfl rfl ?_
    refine J_iconst (pc := 34) (n := -1) (v := (-1)) hX (by decide +kernel) (by decide +kernel) ?_
    refine J_icmp_ne (pc := 35) (off := 6) (tgt := 41) hX (by decide +kernel) (by decide +kernel) (fun _ => ?_) (fun _ => ?_)
    · refine J_aload_n (k0 := 0) (pc := 41) 1 hX (by decide +kernel) rfl rfl ?_
      refine J_gr (pc := 42) hX (by decide +kernel) fl_Mo_7 hL.1 rfl hL.2.1.1 ?_
      refine J_bipush (pc := 45) (n := 22) (v := 22) hX (by decide +kernel) (by decide +kernel) ?_
      refine J_iload_n (k0 := 3) (pc := 47) 0 hX (by decide +kernel) rfl rfl ?_
      refine J_iadd (pc := 48) hX (by decide +kernel) ?_
      refine J_aload_n (k0 := 0) (pc := 49) 1 hX (by decide +kernel) rfl rfl ?_
      refine J_gr (pc := 50) hX (by decide +kernel) fl_Mo_7 hL.1 rfl hL.2.1.1 ?_
      refine J_bipush (pc := 53) (n := 22) (v := 22) hX (by decide +kernel) (by decide +kernel) ?_
      refine J_iload_n (k0 := 3) (pc := 55) 0 hX (by decide +kernel) rfl rfl ?_
      refine J_iadd (pc := 56) hX (by decide +kernel) ?_
      refine J_ldA (pc := 57) hX (by decide +kernel) hL.2.1.2 (fun x3 => ?_)
      refine J_iconst (pc := 58) (n := 1) (v := 1) hX (by decide +kernel) (by decide +kernel) ?_
      refine J_isub (pc := 59) hX (by decide +kernel) ?_
      refine J_stA (pc := 60) hX (by decide +kernel) hL.2.1.2 (fun μ4 => ?_)
      refine J_aload_n (k0 := 0) (pc := 61) 1 hX (by decide +kernel) rfl rfl ?_
      refine J_gr (pc := 62) hX (by decide +kernel) fl_Mo_7 hL.1 rfl hL.2.1.1 ?_
      refine J_bipush (pc := 65) (n := 70) (v := 70) hX (by decide +kernel) (by decide +kernel) ?_
      refine J_iload_n (k0 := 3) (pc := 67) 0 hX (by decide +kernel) rfl rfl ?_
      refine J_iadd (pc := 68) hX (by decide +kernel) ?_
      refine J_aload_n (k0 := 0) (pc := 69) 1 hX (by decide +kernel) rfl rfl ?_
      refine J_gr (pc := 70) hX (by decide +kernel) fl_Mo_7 hL.1 rfl hL.2.1.1 ?_
      refine J_bipush (pc := 73) (n := 70) (v := 70) hX (by decide +kernel) (by decide +kernel) ?_
      refine J_iload_n (k0 := 3) (pc := 75) 0 hX (by decide +kernel) rfl rfl ?_
      refine J_iadd (pc := 76) hX (by decide +kernel) ?_
      refine J_ldA (pc := 77) hX (by decide +kernel) hL.2.1.2 (fun x5 => ?_)
      refine J_iconst (pc := 78) (n := 1) (v := 1) hX (by decide +kernel) (by decide +kernel) ?_
      refine J_iadd (pc := 79) hX (by decide +kernel) ?_
      refine J_stA (pc := 80) hX (by decide +kernel) hL.2.1.2 (fun μ6 => ?_)
      refine J_aload_n (k0 := 0) (pc := 81) 1 hX (by decide +kernel) rfl rfl ?_
      refine J_gr (pc := 82) hX (by decide +kernel) fl_Mo_74 hL.1 rfl hL.2.2.2.2.2.2.2.2.2.2.2.2.2.2.2.2.2.2.2.2.2.1.1 ?_
      refine J_iload_n (k0 := 3) (pc := 85) 0 hX (by decide +kernel) rfl rfl ?_
      refine J_aload_n (k0 := 0) (pc := 86) 1 hX (by decide +kernel) rfl rfl ?_
      refine J_gr (pc := 87) hX (by decide +kernel) fl_Mo_74 hL.1 rfl hL.2.2.2.2.2.2.2.2.2.2.2.2.2.2.2.2.2.2.2.2.2.1.1 ?_
      refine J_iload_n (k0 := 3) (pc := 90) 0 hX (by decide +kernel) rfl rfl ?_
      refine J_ldA (pc := 91) hX (by decide +kernel) hL.2.2.2.2.2.2.2.2.2.2.2.2.2.2.2.2.2.2.2.2.2.1.2 (fun x7 => ?_)
      refine J_iconst (pc := 92) (n := 1) (v := 1) hX (by decide +kernel) (by decide +kernel) ?_
      refine J_iadd (pc := 93) hX (by decide +kernel) ?_
      refine J_stA (pc := 94) hX (by decide +kernel) hL.2.2.2.2.2.2.2.2.2.2.2.2.2.2.2.2.2.2.2.2.2.1.2 (fun μ8 => ?_)
      exact J_sub [1, 2, 3] _ rfl (jMo_cattleLick_95 hL hX v1 v2 hk23 μ8)
    · refine J_goto (pc := 38) (off := 57) (tgt := 95) hX (by decide +kernel) (by decide +kernel) ?_
      exact J_sub [1, 2, 3] _ rfl (jMo_cattleLick_95 hL hX v1 v2 hk23 μ1)
set_option maxRecDepth 100000 in
set_option maxHeartbeats 4000000 in
theorem jMo_cattleLick_23 {X : Cx} {l : Launch} {G : Gx} {y : Ly} {a : Nat} (hL : LyMo y a ) (hX : Ok X l G prog_13_method_79_code 4 none "SaltFiguresModel") (v1 : Int32)   : ∀ (fu : Nat) (v2 : Int32) (μ : Mu), J X G 4 2 y (emy y) rvV tpT 23 [(0, .ref (G.1 + a)), (1, .int v1), (2, .int v2)] [] (μ, y) (Mo_cattleLick_23 a  v1 fu v2 μ) := by
  intro fu
  induction fu with
  | zero => intros; exact J_none
  | succ fu ih => intro v2 μ; exact jMo_cattleLick_23b hL hX v1  ih v2 μ
set_option maxRecDepth 100000 in
set_option maxHeartbeats 4000000 in
theorem jMo_cattleLick_2b {X : Cx} {l : Launch} {G : Gx} {y : Ly} {a : Nat} (hL : LyMo y a ) (hX : Ok X l G prog_13_method_79_code 4 none "SaltFiguresModel") (v1 : Int32)  {kb2 : Int32 → Mu → Option (Unit × Mu)}  (hk2 : ∀ (v2 : Int32) (μ : Mu), J X G 4 2 y (emy y) rvV tpT 2 [(0, .ref (G.1 + a)), (1, .int v1), (2, .int v2)] [] (μ, y) (kb2 v2 μ)) (v2 : Int32)  (μ : Mu) : J X G 4 2 y (emy y) rvV tpT 2 [(0, .ref (G.1 + a)), (1, .int v1), (2, .int v2)] [] (μ, y) (Mo_cattleLick_2b a  kb2 v1 v2  μ) := by
  unfold Mo_cattleLick_2b
  refine J_iload_n (k0 := 2) (pc := 2) 2 hX (by decide +kernel) rfl rfl ?_
  refine J_bipush (pc := 3) (n := 16) (v := 16) hX (by decide +kernel) (by decide +kernel) ?_
  refine J_icmp_ge (pc := 5) (off := 16) (tgt := 21) hX (by decide +kernel) (by decide +kernel) (fun _ => ?_) (fun _ => ?_)
  · refine J_iconst (pc := 21) (n := 0) (v := 0) hX (by decide +kernel) (by decide +kernel) ?_
    refine J_istore_n (k0 := 2) (pc := 22) [(2, .int 0), (0, .ref (G.1 + a)), (1, .int v1)] hX (by decide +kernel) rfl (by decide) rfl ?_
    exact J_sub [1, 2, 0] _ rfl (jMo_cattleLick_23 hL hX v1 FU 0 μ)
  · refine J_aload_n (k0 := 0) (pc := 8) 0 hX (by decide +kernel) rfl rfl ?_
    refine J_gr (pc := 9) hX (by decide +kernel) fl_Mo_74 hL.1 rfl hL.2.2.2.2.2.2.2.2.2.2.2.2.2.2.2.2.2.2.2.2.2.1.1 ?_
    refine J_iload_n (k0 := 2) (pc := 12) 2 hX (by decide +kernel) rfl rfl ?_
    refine J_iconst (pc := 13) (n := 0) (v := 0) hX (by decide +kernel) (by decide +kernel) ?_
    refine J_stA (pc := 14) hX (by decide +kernel) hL.2.2.2.2.2.2.2.2.2.2.2.2.2.2.2.2.2.2.2.2.2.1.2 (fun μ1 => ?_)
    refine J_iinc (pc := 15) (n := 1) 2 [(2, .int (v2 + 1)), (0, .ref (G.1 + a)), (1, .int v1)] hX (by decide +kernel) rfl rfl (by decide) rfl ?_
    refine J_goto (pc := 18) (off := -16) (tgt := 2) hX (by decide +kernel) (by decide +kernel) ?_
    exact J_sub [1, 2, 0] _ rfl (hk2 (v2 + 1) μ1)
set_option maxRecDepth 100000 in
set_option maxHeartbeats 4000000 in
theorem jMo_cattleLick_2 {X : Cx} {l : Launch} {G : Gx} {y : Ly} {a : Nat} (hL : LyMo y a ) (hX : Ok X l G prog_13_method_79_code 4 none "SaltFiguresModel") (v1 : Int32)   : ∀ (fu : Nat) (v2 : Int32) (μ : Mu), J X G 4 2 y (emy y) rvV tpT 2 [(0, .ref (G.1 + a)), (1, .int v1), (2, .int v2)] [] (μ, y) (Mo_cattleLick_2 a  v1 fu v2 μ) := by
  intro fu
  induction fu with
  | zero => intros; exact J_none
  | succ fu ih => intro v2 μ; exact jMo_cattleLick_2b hL hX v1  ih v2 μ
set_option maxRecDepth 100000 in
set_option maxHeartbeats 4000000 in
theorem jMo_cattleLick {X : Cx} {l : Launch} {G : Gx} {y : Ly} {a : Nat} (hL : LyMo y a ) (hX : Ok X l G prog_13_method_79_code 4 none "SaltFiguresModel") (v1 : Int32) (μ : Mu) : J X G 4 2 y (emy y) rvV tpT 0 [(0, .ref (G.1 + a)), (1, .int v1)] [] (μ, y) (Mo_cattleLick a v1 μ) := by
  unfold Mo_cattleLick
  refine J_iconst (pc := 0) (n := 0) (v := 0) hX (by decide +kernel) (by decide +kernel) ?_
  refine J_istore_n (k0 := 2) (pc := 1) [(2, .int 0), (0, .ref (G.1 + a)), (1, .int v1)] hX (by decide +kernel) rfl (by decide) rfl ?_
  exact J_sub [1, 2, 0] _ rfl (jMo_cattleLick_2 hL hX v1 FU 0 μ)
set_option maxRecDepth 100000 in
set_option maxHeartbeats 4000000 in
theorem c_Mo_cattleLick {l : Launch} {G : Gx} {y : Ly} {a : Nat} (hL : LyMo y a ) (v1 : Int32) (μ : Mu) : Cn l G ⟨"SaltFiguresModel", "cattleLick", "(I)V"⟩ prog_13_method_79_code 4 none 2 [.ref (G.1 + a), .int v1] (μ, y) (emy y) rvV tpT (Mo_cattleLick a v1 μ) := cn_of (by decide +kernel) (Nat.le_of_ble_eq_true rfl) (fun _ _ _ => ⟨List.prefix_refl _, trivial⟩) (fun X hX _ => jMo_cattleLick hL hX v1 μ)

def Mo_coins_65 (a : Nat) (kb49 : Int32 → Int32 → Mu → Option (Int32 × Mu))  (v1 : Int32) (v2 : Int32) (v3 : Int32) (v4 : Int32) (s0 : Int32) (μ : Mu) : Option (Int32 × Mu) := (if v1 ≤ s0 then some (v3, μ) else kb49 (v3 + 1) (v4 * 3) μ)
def Mo_coins_49b (a : Nat)  (kb49 : Int32 → Int32 → Mu → Option (Int32 × Mu)) (v1 : Int32) (v2 : Int32) (v3 : Int32) (v4 : Int32)  (μ : Mu) : Option (Int32 × Mu) := (if v2 = 1 then Mo_coins_65 a kb49 v1 v2 v3 v4 v4 μ else Mo_coins_65 a kb49 v1 v2 v3 v4 ((v4 - 1) / 2) μ)
def Mo_coins_49 (a : Nat)  (v1 : Int32) (v2 : Int32) (fu : Nat) : Int32 → Int32 → Mu → Option (Int32 × Mu) := lp (fun kb => Mo_coins_49b a  kb v1 v2) (fun _ _ _ => none) fu
def Mo_coins_37 (a : Nat)   (v1 : Int32) (v2 : Int32)  (μ : Mu) : Option (Int32 × Mu) := (if v1 = 1 then some (0, μ) else Mo_coins_49 a v1 v2 FU 0 1 μ)
def Mo_coins (a : Nat) (v1 : Int32) (v2 : Int32) (μ : Mu) : Option (Int32 × Mu) := pF μ a 0 0 (fun μ1 => cl (Mo_isIn a v1 1 100 μ1) (fun x3 μ2 => (if x3 = 0 then some ((-1), μ2) else cl (Mo_isIn a v2 0 1 μ2) (fun x5 μ4 => (if x5 = 0 then some ((-1), μ4) else (if v2 = 0 then (if v1 = 2 then some ((-1), μ4) else Mo_coins_37 a v1 v2 μ4) else Mo_coins_37 a v1 v2 μ4))))))
set_option maxRecDepth 100000 in
set_option maxHeartbeats 4000000 in
theorem jMo_coins_65 {X : Cx} {l : Launch} {G : Gx} {y : Ly} {a : Nat} (hL : LyMo y a ) (hX : Ok X l G prog_13_method_110_code 5 (some .int) "SaltFiguresModel")  (v1 : Int32) (v2 : Int32) (v3 : Int32) (v4 : Int32) (s0 : Int32) {kb49 : Int32 → Int32 → Mu → Option (Int32 × Mu)} (hk49 : ∀ (v3 : Int32) (v4 : Int32) (μ : Mu), J X G 5 2 y (emy y) rvI tpT 49 [(1, .int v1), (2, .int v2), (3, .int v3), (4, .int v4)] [] (μ, y) (kb49 v3 v4 μ)) (μ : Mu) : J X G 5 2 y (emy y) rvI tpT 65 [(1, .int v1), (2, .int v2), (3, .int v3), (4, .int v4)] [.int s0] (μ, y) (Mo_coins_65 a kb49  v1 v2 v3 v4 s0 μ) := by
  unfold Mo_coins_65
  refine J_iload_n (k0 := 1) (pc := 65) 0 hX (by decide +kernel) rfl rfl ?_
  refine J_icmp_ge (pc := 66) (off := 16) (tgt := 82) hX (by decide +kernel) (by decide +kernel) (fun _ => ?_) (fun _ => ?_)
  · refine J_iload_n (k0 := 3) (pc := 82) 2 hX (by decide +kernel) rfl rfl ?_
    exact J_iret (pc := 83) hX (by decide +kernel) rfl trivial
  · refine J_iload (pc := 69) 3 hX (by decide +kernel) rfl ?_
    refine J_iconst (pc := 71) (n := 3) (v := 3) hX (by decide +kernel) (by decide +kernel) ?_
    refine J_imul (pc := 72) hX (by decide +kernel) ?_
    refine J_istore (pc := 73) [(4, .int (v4 * 3)), (1, .int v1), (2, .int v2), (3, .int v3)] hX (by decide +kernel) (by decide) rfl ?_
    refine J_iload_n (k0 := 3) (pc := 75) 3 hX (by decide +kernel) rfl rfl ?_
    refine J_iconst (pc := 76) (n := 1) (v := 1) hX (by decide +kernel) (by decide +kernel) ?_
    refine J_iadd (pc := 77) hX (by decide +kernel) ?_
    refine J_istore_n (k0 := 3) (pc := 78) [(3, .int (v3 + 1)), (4, .int (v4 * 3)), (1, .int v1), (2, .int v2)] hX (by decide +kernel) rfl (by decide) rfl ?_
    refine J_goto (pc := 79) (off := -30) (tgt := 49) hX (by decide +kernel) (by decide +kernel) ?_
    exact J_sub [2, 3, 0, 1] _ rfl (hk49 (v3 + 1) (v4 * 3) μ)
set_option maxRecDepth 100000 in
set_option maxHeartbeats 4000000 in
theorem jMo_coins_49b {X : Cx} {l : Launch} {G : Gx} {y : Ly} {a : Nat} (hL : LyMo y a ) (hX : Ok X l G prog_13_method_110_code 5 (some .int) "SaltFiguresModel") (v1 : Int32) (v2 : Int32)  {kb49 : Int32 → Int32 → Mu → Option (Int32 × Mu)}  (hk49 : ∀ (v3 : Int32) (v4 : Int32) (μ : Mu), J X G 5 2 y (emy y) rvI tpT 49 [(1, .int v1), (2, .int v2), (3, .int v3), (4, .int v4)] [] (μ, y) (kb49 v3 v4 μ)) (v3 : Int32) (v4 : Int32)  (μ : Mu) : J X G 5 2 y (emy y) rvI tpT 49 [(1, .int v1), (2, .int v2), (3, .int v3), (4, .int v4)] [] (μ, y) (Mo_coins_49b a  kb49 v1 v2 v3 v4  μ) := by
  unfold Mo_coins_49b
  refine J_iload_n (k0 := 2) (pc := 49) 1 hX (by decide +kernel) rfl rfl ?_
  refine J_iconst (pc := 50) (n := 1) (v := 1) hX (by decide +kernel) (by decide +kernel) ?_
  refine J_icmp_ne (pc := 51) (off := 8) (tgt := 59) hX (by decide +kernel) (by decide +kernel) (fun _ => ?_) (fun _ => ?_)
  · refine J_iload (pc := 59) 3 hX (by decide +kernel) rfl ?_
    refine J_iconst (pc := 61) (n := 1) (v := 1) hX (by decide +kernel) (by decide +kernel) ?_
    refine J_isub (pc := 62) hX (by decide +kernel) ?_
    refine J_iconst (pc := 63) (n := 2) (v := 2) hX (by decide +kernel) (by decide +kernel) ?_
    refine J_idivK (pc := 64) hX (by decide +kernel) (by decide +kernel) ?_
    exact J_sub [0, 1, 2, 3] _ rfl (jMo_coins_65 hL hX v1 v2 v3 v4 ((v4 - 1) / 2) hk49 μ)
  · refine J_iload (pc := 54) 3 hX (by decide +kernel) rfl ?_
    refine J_goto (pc := 56) (off := 9) (tgt := 65) hX (by decide +kernel) (by decide +kernel) ?_
    exact J_sub [0, 1, 2, 3] _ rfl (jMo_coins_65 hL hX v1 v2 v3 v4 v4 hk49 μ)
set_option maxRecDepth 100000 in
set_option maxHeartbeats 4000000 in
theorem jMo_coins_49 {X : Cx} {l : Launch} {G : Gx} {y : Ly} {a : Nat} (hL : LyMo y a ) (hX : Ok X l G prog_13_method_110_code 5 (some .int) "SaltFiguresModel") (v1 : Int32) (v2 : Int32)   : ∀ (fu : Nat) (v3 : Int32) (v4 : Int32) (μ : Mu), J X G 5 2 y (emy y) rvI tpT 49 [(1, .int v1), (2, .int v2), (3, .int v3), (4, .int v4)] [] (μ, y) (Mo_coins_49 a  v1 v2 fu v3 v4 μ) := by
  intro fu
  induction fu with
  | zero => intros; exact J_none
  | succ fu ih => intro v3 v4 μ; exact jMo_coins_49b hL hX v1 v2  ih v3 v4 μ
set_option maxRecDepth 100000 in
set_option maxHeartbeats 4000000 in
theorem jMo_coins_37 {X : Cx} {l : Launch} {G : Gx} {y : Ly} {a : Nat} (hL : LyMo y a ) (hX : Ok X l G prog_13_method_110_code 5 (some .int) "SaltFiguresModel")  (v1 : Int32) (v2 : Int32)    (μ : Mu) : J X G 5 2 y (emy y) rvI tpT 37 [(1, .int v1), (2, .int v2)] [] (μ, y) (Mo_coins_37 a   v1 v2  μ) := by
  unfold Mo_coins_37
  refine J_iload_n (k0 := 1) (pc := 37) 0 hX (by decide +kernel) rfl rfl ?_
  refine J_iconst (pc := 38) (n := 1) (v := 1) hX (by decide +kernel) (by decide +kernel) ?_
  refine J_icmp_ne (pc := 39) (off := 5) (tgt := 44) hX (by decide +kernel) (by decide +kernel) (fun _ => ?_) (fun _ => ?_)
  · refine J_iconst (pc := 44) (n := 0) (v := 0) hX (by decide +kernel) (by decide +kernel) ?_
    refine J_istore_n (k0 := 3) (pc := 45) [(3, .int 0), (1, .int v1), (2, .int v2)] hX (by decide +kernel) rfl (by decide) rfl ?_
    refine J_iconst (pc := 46) (n := 1) (v := 1) hX (by decide +kernel) (by decide +kernel) ?_
    refine J_istore (pc := 47) [(4, .int 1), (3, .int 0), (1, .int v1), (2, .int v2)] hX (by decide +kernel) (by decide) rfl ?_
    exact J_sub [2, 3, 1, 0] _ rfl (jMo_coins_49 hL hX v1 v2 FU 0 1 μ)
  · refine J_iconst (pc := 42) (n := 0) (v := 0) hX (by decide +kernel) (by decide +kernel) ?_
    exact J_iret (pc := 43) hX (by decide +kernel) rfl trivial
set_option maxRecDepth 100000 in
set_option maxHeartbeats 4000000 in
theorem jMo_coins {X : Cx} {l : Launch} {G : Gx} {y : Ly} {a : Nat} (hL : LyMo y a ) (hX : Ok X l G prog_13_method_110_code 5 (some .int) "SaltFiguresModel") (v1 : Int32) (v2 : Int32) (μ : Mu) : J X G 5 2 y (emy y) rvI tpT 0 [(0, .ref (G.1 + a)), (1, .int v1), (2, .int v2)] [] (μ, y) (Mo_coins a v1 v2 μ) := by
  unfold Mo_coins
  refine J_aload_n (k0 := 0) (pc := 0) 0 hX (by decide +kernel) rfl rfl ?_
  refine J_iconst (pc := 1) (n := 0) (v := 0) hX (by decide +kernel) (by decide +kernel) ?_
  refine J_pF (pc := 2) hX (by decide +kernel) fl_Mo_131 hL.1 rfl (fun μ1 => ?_)
  refine J_aload_n (k0 := 0) (pc := 5) 0 hX (by decide +kernel) rfl rfl ?_
  refine J_iload_n (k0 := 1) (pc := 6) 1 hX (by decide +kernel) rfl rfl ?_
  refine J_iconst (pc := 7) (n := 1) (v := 1) hX (by decide +kernel) (by decide +kernel) ?_
  refine J_bipush (pc := 8) (n := 100) (v := 100) hX (by decide +kernel) (by decide +kernel) ?_
  refine J_cVi (pc := 10) (idx := 154) [.int v1, .int 1, .int 100] hX (by decide +kernel) (mq mt_6 226 (by decide +kernel)) mv_Mo_isIn hL.1 rfl rfl (Nat.le_of_ble_eq_true rfl) (Nat.le_of_ble_eq_true rfl) (c_Mo_isIn hL v1 1 100 μ1) (fun x3 μ2 => ?_)
  refine J_if_eq (pc := 13) (off := 22) (tgt := 35) hX (by decide +kernel) (by decide +kernel) (fun _ => ?_) (fun _ => ?_)
  · refine J_iconst (pc := 35) (n := -1) (v := (-1)) hX (by decide +kernel) (by decide +kernel) ?_
    exact J_iret (pc := 36) hX (by decide +kernel) rfl trivial
  · refine J_aload_n (k0 := 0) (pc := 16) 0 hX (by decide +kernel) rfl rfl ?_
    refine J_iload_n (k0 := 2) (pc := 17) 2 hX (by decide +kernel) rfl rfl ?_
    refine J_iconst (pc := 18) (n := 0) (v := 0) hX (by decide +kernel) (by decide +kernel) ?_
    refine J_iconst (pc := 19) (n := 1) (v := 1) hX (by decide +kernel) (by decide +kernel) ?_
    refine J_cVi (pc := 20) (idx := 154) [.int v2, .int 0, .int 1] hX (by decide +kernel) (mq mt_6 226 (by decide +kernel)) mv_Mo_isIn hL.1 rfl rfl (Nat.le_of_ble_eq_true rfl) (Nat.le_of_ble_eq_true rfl) (c_Mo_isIn hL v2 0 1 μ2) (fun x5 μ4 => ?_)
    refine J_if_eq (pc := 23) (off := 12) (tgt := 35) hX (by decide +kernel) (by decide +kernel) (fun _ => ?_) (fun _ => ?_)
    · refine J_iconst (pc := 35) (n := -1) (v := (-1)) hX (by decide +kernel) (by decide +kernel) ?_
      exact J_iret (pc := 36) hX (by decide +kernel) rfl trivial
    · refine J_iload_n (k0 := 2) (pc := 26) 2 hX (by decide +kernel) rfl rfl ?_
      refine J_if_ne (pc := 27) (off := 10) (tgt := 37) hX (by decide +kernel) (by decide +kernel) (fun _ => ?_) (fun _ => ?_)
      · exact J_sub [1, 2] _ rfl (jMo_coins_37 hL hX v1 v2 μ4)
      · refine J_iload_n (k0 := 1) (pc := 30) 1 hX (by decide +kernel) rfl rfl ?_
        refine J_iconst (pc := 31) (n := 2) (v := 2) hX (by decide +kernel) (by decide +kernel) ?_
        refine J_icmp_ne (pc := 32) (off := 5) (tgt := 37) hX (by decide +kernel) (by decide +kernel) (fun _ => ?_) (fun _ => ?_)
        · exact J_sub [1, 2] _ rfl (jMo_coins_37 hL hX v1 v2 μ4)
        · refine J_iconst (pc := 35) (n := -1) (v := (-1)) hX (by decide +kernel) (by decide +kernel) ?_
          exact J_iret (pc := 36) hX (by decide +kernel) rfl trivial
set_option maxRecDepth 100000 in
set_option maxHeartbeats 4000000 in
theorem c_Mo_coins {l : Launch} {G : Gx} {y : Ly} {a : Nat} (hL : LyMo y a ) (v1 : Int32) (v2 : Int32) (μ : Mu) : Cn l G ⟨"SaltFiguresModel", "coins", "(II)I"⟩ prog_13_method_110_code 5 (some .int) 2 [.ref (G.1 + a), .int v1, .int v2] (μ, y) (emy y) rvI tpT (Mo_coins a v1 v2 μ) := cn_of (by decide +kernel) (Nat.le_of_ble_eq_true rfl) (fun _ _ _ => ⟨List.prefix_refl _, trivial⟩) (fun X hX _ => jMo_coins hL hX v1 v2 μ)

def Mo_feast_41 (a : Nat) (kb4 : Int32 → Int32 → Mu → Option (Int32 × Mu))  (v1 : Int32) (v2 : Int32)  (μ : Mu) : Option (Int32 × Mu) := kb4 v1 (v2 + 1) μ
def Mo_feast_4b (a : Nat)  (kb4 : Int32 → Int32 → Mu → Option (Int32 × Mu))  (v1 : Int32) (v2 : Int32)  (μ : Mu) : Option (Int32 × Mu) := gF μ a 6 (fun x1 => (if x1 ≤ v2 then some (v1, μ) else cl (Mo_isAlive a v2 μ) (fun x3 μ2 => (if x3 = 0 then Mo_feast_41 a kb4 v1 v2 μ2 else cl (Mo_seatOf a v2 μ2) (fun x5 μ4 => (if x5 = ((-1)) then Mo_feast_41 a kb4 v1 v2 μ4 else cl (Mo_isSpilt a v2 μ4) (fun _ μ6 => Mo_feast_41 a kb4 (v1 + 1) v2 μ6)))))))
def Mo_feast_4 (a : Nat)   (fu : Nat) : Int32 → Int32 → Mu → Option (Int32 × Mu) := lp (fun kb => Mo_feast_4b a  kb ) (fun _ _ _ => none) fu
def Mo_feast (a : Nat)  (μ : Mu) : Option (Int32 × Mu) := Mo_feast_4 a FU 0 0 μ
set_option maxRecDepth 100000 in
set_option maxHeartbeats 4000000 in
theorem jMo_feast_41 {X : Cx} {l : Launch} {G : Gx} {y : Ly} {a : Nat} (hL : LyMo y a ) (hX : Ok X l G prog_13_method_80_code 3 (some .int) "SaltFiguresModel")  (v1 : Int32) (v2 : Int32)  {kb4 : Int32 → Int32 → Mu → Option (Int32 × Mu)} (hk4 : ∀ (v1 : Int32) (v2 : Int32) (μ : Mu), J X G 3 7 y (emy y) rvI tpT 4 [(0, .ref (G.1 + a)), (1, .int v1), (2, .int v2)] [] (μ, y) (kb4 v1 v2 μ)) (μ : Mu) : J X G 3 7 y (emy y) rvI tpT 41 [(0, .ref (G.1 + a)), (1, .int v1), (2, .int v2)] [] (μ, y) (Mo_feast_41 a kb4  v1 v2  μ) := by
  unfold Mo_feast_41
  refine J_iinc (pc := 41) (n := 1) 2 [(2, .int (v2 + 1)), (0, .ref (G.1 + a)), (1, .int v1)] hX (by decide +kernel) rfl rfl (by decide) rfl ?_
  refine J_goto (pc := 44) (off := -40) (tgt := 4) hX (by decide +kernel) (by decide +kernel) ?_
  exact J_sub [1, 2, 0] _ rfl (hk4 v1 (v2 + 1) μ)
set_option maxRecDepth 100000 in
set_option maxHeartbeats 4000000 in
theorem jMo_feast_4b {X : Cx} {l : Launch} {G : Gx} {y : Ly} {a : Nat} (hL : LyMo y a ) (hX : Ok X l G prog_13_method_80_code 3 (some .int) "SaltFiguresModel")   {kb4 : Int32 → Int32 → Mu → Option (Int32 × Mu)}  (hk4 : ∀ (v1 : Int32) (v2 : Int32) (μ : Mu), J X G 3 7 y (emy y) rvI tpT 4 [(0, .ref (G.1 + a)), (1, .int v1), (2, .int v2)] [] (μ, y) (kb4 v1 v2 μ)) (v1 : Int32) (v2 : Int32)  (μ : Mu) : J X G 3 7 y (emy y) rvI tpT 4 [(0, .ref (G.1 + a)), (1, .int v1), (2, .int v2)] [] (μ, y) (Mo_feast_4b a  kb4  v1 v2  μ) := by
  unfold Mo_feast_4b
  refine J_iload_n (k0 := 2) (pc := 4) 2 hX (by decide +kernel) rfl rfl ?_
  refine J_aload_n (k0 := 0) (pc := 5) 0 hX (by decide +kernel) rfl rfl ?_
  refine J_gF (pc := 6) hX (by decide +kernel) fl_Mo_144 hL.1 rfl (fun x1 => ?_)
  refine J_icmp_ge (pc := 9) (off := 38) (tgt := 47) hX (by decide +kernel) (by decide +kernel) (fun _ => ?_) (fun _ => ?_)
  · refine J_iload_n (k0 := 1) (pc := 47) 1 hX (by decide +kernel) rfl rfl ?_
    exact J_iret (pc := 48) hX (by decide +kernel) rfl trivial
  · refine J_aload_n (k0 := 0) (pc := 12) 0 hX (by decide +kernel) rfl rfl ?_
    refine J_iload_n (k0 := 2) (pc := 13) 2 hX (by decide +kernel) rfl rfl ?_
    refine J_cVi (pc := 14) (idx := 162) [.int v2] hX (by decide +kernel) (mq mt_6 238 (by decide +kernel)) mv_Mo_isAlive hL.1 rfl rfl (Nat.le_of_ble_eq_true rfl) (Nat.le_of_ble_eq_true rfl) (c_Mo_isAlive hL v2 μ) (fun x3 μ2 => ?_)
    refine J_if_eq (pc := 17) (off := 24) (tgt := 41) hX (by decide +kernel) (by decide +kernel) (fun _ => ?_) (fun _ => ?_)
    · exact J_sub [0, 1, 2] _ rfl (jMo_feast_41 hL hX v1 v2 hk4 μ2)
    · refine J_aload_n (k0 := 0) (pc := 20) 0 hX (by decide +kernel) rfl rfl ?_
      refine J_iload_n (k0 := 2) (pc := 21) 2 hX (by decide +kernel) rfl rfl ?_
      refine J_cVi (pc := 22) (idx := 147) [.int v2] hX (by decide +kernel) (mq mt_7 154 (by decide +kernel)) mv_Mo_seatOf hL.1 rfl rfl (Nat.le_of_ble_eq_true rfl) (Nat.le_of_ble_eq_true rfl) (c_Mo_seatOf hL v2 μ2) (fun x5 μ4 => ?_)
      refine J_iconst (pc := 25) (n := -1) (v := (-1)) hX (by decide +kernel) (by decide +kernel) ?_
      refine J_icmp_ne (pc := 26) (off := 6) (tgt := 32) hX (by decide +kernel) (by decide +kernel) (fun _ => ?_) (fun _ => ?_)
      · refine J_aload_n (k0 := 0) (pc := 32) 0 hX (by decide +kernel) rfl rfl ?_
        refine J_iload_n (k0 := 2) (pc := 33) 2 hX (by decide +kernel) rfl rfl ?_
        refine J_cVv (pc := 34) (idx := 361) [.int v2] hX (by decide +kernel) (mq mt_7 174 (by decide +kernel)) mv_Mo_isSpilt hL.1 rfl rfl (Nat.le_of_ble_eq_true rfl) (Nat.le_of_ble_eq_true rfl) (c_Mo_isSpilt hL v2 μ4) (fun μ6 => ?_)
        refine J_iload_n (k0 := 1) (pc := 37) 1 hX (by decide +kernel) rfl rfl ?_
        refine J_iconst (pc := 38) (n := 1) (v := 1) hX (by decide +kernel) (by decide +kernel) ?_
        refine J_iadd (pc := 39) hX (by decide +kernel) ?_
        refine J_istore_n (k0 := 1) (pc := 40) [(1, .int (v1 + 1)), (0, .ref (G.1 + a)), (2, .int v2)] hX (by decide +kernel) rfl (by decide) rfl ?_
        exact J_sub [1, 0, 2] _ rfl (jMo_feast_41 hL hX (v1 + 1) v2 hk4 μ6)
      · refine J_goto (pc := 29) (off := 12) (tgt := 41) hX (by decide +kernel) (by decide +kernel) ?_
        exact J_sub [0, 1, 2] _ rfl (jMo_feast_41 hL hX v1 v2 hk4 μ4)
set_option maxRecDepth 100000 in
set_option maxHeartbeats 4000000 in
theorem jMo_feast_4 {X : Cx} {l : Launch} {G : Gx} {y : Ly} {a : Nat} (hL : LyMo y a ) (hX : Ok X l G prog_13_method_80_code 3 (some .int) "SaltFiguresModel")    : ∀ (fu : Nat) (v1 : Int32) (v2 : Int32) (μ : Mu), J X G 3 7 y (emy y) rvI tpT 4 [(0, .ref (G.1 + a)), (1, .int v1), (2, .int v2)] [] (μ, y) (Mo_feast_4 a   fu v1 v2 μ) := by
  intro fu
  induction fu with
  | zero => intros; exact J_none
  | succ fu ih => intro v1 v2 μ; exact jMo_feast_4b hL hX   ih v1 v2 μ
set_option maxRecDepth 100000 in
set_option maxHeartbeats 4000000 in
theorem jMo_feast {X : Cx} {l : Launch} {G : Gx} {y : Ly} {a : Nat} (hL : LyMo y a ) (hX : Ok X l G prog_13_method_80_code 3 (some .int) "SaltFiguresModel")  (μ : Mu) : J X G 3 7 y (emy y) rvI tpT 0 [(0, .ref (G.1 + a))] [] (μ, y) (Mo_feast a  μ) := by
  unfold Mo_feast
  refine J_iconst (pc := 0) (n := 0) (v := 0) hX (by decide +kernel) (by decide +kernel) ?_
  refine J_istore_n (k0 := 1) (pc := 1) [(1, .int 0), (0, .ref (G.1 + a))] hX (by decide +kernel) rfl (by decide) rfl ?_
  refine J_iconst (pc := 2) (n := 0) (v := 0) hX (by decide +kernel) (by decide +kernel) ?_
  refine J_istore_n (k0 := 2) (pc := 3) [(2, .int 0), (1, .int 0), (0, .ref (G.1 + a))] hX (by decide +kernel) rfl (by decide) rfl ?_
  exact J_sub [2, 1, 0] _ rfl (jMo_feast_4 hL hX FU 0 0 μ)
set_option maxRecDepth 100000 in
set_option maxHeartbeats 4000000 in
theorem c_Mo_feast {l : Launch} {G : Gx} {y : Ly} {a : Nat} (hL : LyMo y a )  (μ : Mu) : Cn l G ⟨"SaltFiguresModel", "feast", "()I"⟩ prog_13_method_80_code 3 (some .int) 7 [.ref (G.1 + a)] (μ, y) (emy y) rvI tpT (Mo_feast a  μ) := cn_of (by decide +kernel) (Nat.le_of_ble_eq_true rfl) (fun _ _ _ => ⟨List.prefix_refl _, trivial⟩) (fun X hX _ => jMo_feast hL hX  μ)

def Mo_comes_79 (a : Nat)   (v2 : Int32)  (μ : Mu) : Option (Int32 × Mu) := (if v2 = 2 then cl (Mo_feast a μ) (fun x2 μ1 => some (x2, μ1)) else some (0, μ))
def Mo_comes_69 (a : Nat)   (v2 : Int32) (v3 : Int32)  (μ : Mu) : Option (Int32 × Mu) := (if v2 = 1 then cl (Mo_cattleLick a v3 μ) (fun _ μ1 => Mo_comes_79 a v2 μ1) else Mo_comes_79 a v2 μ)
def Mo_comes_51 (a : Nat)   (v2 : Int32) (v3 : Int32)  (μ : Mu) : Option (Int32 × Mu) := (if v2 = 4 then cl (Mo_isAlive a v3 μ) (fun x2 μ1 => (if x2 = 0 then Mo_comes_69 a v2 v3 μ1 else cl (Mo_dies a v3 μ1) (fun _ μ3 => Mo_comes_69 a v2 v3 μ3))) else Mo_comes_69 a v2 v3 μ)
def Mo_comes_29 (a : Nat)   (v1 : Int32) (v2 : Int32) (v3 : Int32)  (μ : Mu) : Option (Int32 × Mu) := (if v2 = 3 then ldA μ (a + 17) 128 (v1 + 3) (fun x1 => stA μ (a + 1) 118 (6 + v3) x1 (fun μ2 => Mo_comes_51 a v2 v3 μ2)) else Mo_comes_51 a v2 v3 μ)
def Mo_comes (a : Nat) (v1 : Int32) (μ : Mu) : Option (Int32 × Mu) := ldA μ (a + 17) 128 (v1 + 1) (fun x1 => ldA μ (a + 17) 128 (v1 + 2) (fun x2 => (if x1 = 0 then stA μ (a + 1) 118 3 x2 (fun μ3 => Mo_comes_29 a v1 x1 x2 μ3) else Mo_comes_29 a v1 x1 x2 μ)))
set_option maxRecDepth 100000 in
set_option maxHeartbeats 4000000 in
theorem jMo_comes_79 {X : Cx} {l : Launch} {G : Gx} {y : Ly} {a : Nat} (hL : LyMo y a ) (hX : Ok X l G prog_13_method_81_code 4 (some .int) "SaltFiguresModel")  (v2 : Int32)    (μ : Mu) : J X G 4 8 y (emy y) rvI tpT 79 [(0, .ref (G.1 + a)), (2, .int v2)] [] (μ, y) (Mo_comes_79 a   v2  μ) := by
  unfold Mo_comes_79
  refine J_iload_n (k0 := 2) (pc := 79) 1 hX (by decide +kernel) rfl rfl ?_
  refine J_iconst (pc := 80) (n := 2) (v := 2) hX (by decide +kernel) (by decide +kernel) ?_
  refine J_icmp_ne (pc := 81) (off := 10) (tgt := 91) hX (by decide +kernel) (by decide +kernel) (fun _ => ?_) (fun _ => ?_)
  · refine J_iconst (pc := 91) (n := 0) (v := 0) hX (by decide +kernel) (by decide +kernel) ?_
    exact J_iret (pc := 92) hX (by decide +kernel) rfl trivial
  · refine J_aload_n (k0 := 0) (pc := 84) 0 hX (by decide +kernel) rfl rfl ?_
    refine J_cVi (pc := 85) (idx := 379) [] hX (by decide +kernel) (mq mt_8 14 (by decide +kernel)) mv_Mo_feast hL.1 rfl rfl (Nat.le_of_ble_eq_true rfl) (Nat.le_of_ble_eq_true rfl) (c_Mo_feast hL μ) (fun x2 μ1 => ?_)
    refine J_goto (pc := 88) (off := 4) (tgt := 92) hX (by decide +kernel) (by decide +kernel) ?_
    exact J_iret (pc := 92) hX (by decide +kernel) rfl trivial
set_option maxRecDepth 100000 in
set_option maxHeartbeats 4000000 in
theorem jMo_comes_69 {X : Cx} {l : Launch} {G : Gx} {y : Ly} {a : Nat} (hL : LyMo y a ) (hX : Ok X l G prog_13_method_81_code 4 (some .int) "SaltFiguresModel")  (v2 : Int32) (v3 : Int32)    (μ : Mu) : J X G 4 8 y (emy y) rvI tpT 69 [(0, .ref (G.1 + a)), (2, .int v2), (3, .int v3)] [] (μ, y) (Mo_comes_69 a   v2 v3  μ) := by
  unfold Mo_comes_69
  refine J_iload_n (k0 := 2) (pc := 69) 1 hX (by decide +kernel) rfl rfl ?_
  refine J_iconst (pc := 70) (n := 1) (v := 1) hX (by decide +kernel) (by decide +kernel) ?_
  refine J_icmp_ne (pc := 71) (off := 8) (tgt := 79) hX (by decide +kernel) (by decide +kernel) (fun _ => ?_) (fun _ => ?_)
  · exact J_sub [0, 1] _ rfl (jMo_comes_79 hL hX v2 μ)
  · refine J_aload_n (k0 := 0) (pc := 74) 0 hX (by decide +kernel) rfl rfl ?_
    refine J_iload_n (k0 := 3) (pc := 75) 2 hX (by decide +kernel) rfl rfl ?_
    refine J_cVv (pc := 76) (idx := 376) [.int v3] hX (by decide +kernel) (mq mt_8 6 (by decide +kernel)) mv_Mo_cattleLick hL.1 rfl rfl (Nat.le_of_ble_eq_true rfl) (Nat.le_of_ble_eq_true rfl) (c_Mo_cattleLick hL v3 μ) (fun μ1 => ?_)
    exact J_sub [0, 1] _ rfl (jMo_comes_79 hL hX v2 μ1)
set_option maxRecDepth 100000 in
set_option maxHeartbeats 4000000 in
theorem jMo_comes_51 {X : Cx} {l : Launch} {G : Gx} {y : Ly} {a : Nat} (hL : LyMo y a ) (hX : Ok X l G prog_13_method_81_code 4 (some .int) "SaltFiguresModel")  (v2 : Int32) (v3 : Int32)    (μ : Mu) : J X G 4 8 y (emy y) rvI tpT 51 [(0, .ref (G.1 + a)), (2, .int v2), (3, .int v3)] [] (μ, y) (Mo_comes_51 a   v2 v3  μ) := by
  unfold Mo_comes_51
  refine J_iload_n (k0 := 2) (pc := 51) 1 hX (by decide +kernel) rfl rfl ?_
  refine J_iconst (pc := 52) (n := 4) (v := 4) hX (by decide +kernel) (by decide +kernel) ?_
  refine J_icmp_ne (pc := 53) (off := 16) (tgt := 69) hX (by decide +kernel) (by decide +kernel) (fun _ => ?_) (fun _ => ?_)
  · exact J_sub [0, 1, 2] _ rfl (jMo_comes_69 hL hX v2 v3 μ)
  · refine J_aload_n (k0 := 0) (pc := 56) 0 hX (by decide +kernel) rfl rfl ?_
    refine J_iload_n (k0 := 3) (pc := 57) 2 hX (by decide +kernel) rfl rfl ?_
    refine J_cVi (pc := 58) (idx := 162) [.int v3] hX (by decide +kernel) (mq mt_6 238 (by decide +kernel)) mv_Mo_isAlive hL.1 rfl rfl (Nat.le_of_ble_eq_true rfl) (Nat.le_of_ble_eq_true rfl) (c_Mo_isAlive hL v3 μ) (fun x2 μ1 => ?_)
    refine J_if_eq (pc := 61) (off := 8) (tgt := 69) hX (by decide +kernel) (by decide +kernel) (fun _ => ?_) (fun _ => ?_)
    · exact J_sub [0, 1, 2] _ rfl (jMo_comes_69 hL hX v2 v3 μ1)
    · refine J_aload_n (k0 := 0) (pc := 64) 0 hX (by decide +kernel) rfl rfl ?_
      refine J_iload_n (k0 := 3) (pc := 65) 2 hX (by decide +kernel) rfl rfl ?_
      refine J_cVv (pc := 66) (idx := 367) [.int v3] hX (by decide +kernel) (mq mt_7 230 (by decide +kernel)) mv_Mo_dies hL.1 rfl rfl (Nat.le_of_ble_eq_true rfl) (Nat.le_of_ble_eq_true rfl) (c_Mo_dies hL v3 μ1) (fun μ3 => ?_)
      exact J_sub [0, 1, 2] _ rfl (jMo_comes_69 hL hX v2 v3 μ3)
set_option maxRecDepth 100000 in
set_option maxHeartbeats 4000000 in
theorem jMo_comes_29 {X : Cx} {l : Launch} {G : Gx} {y : Ly} {a : Nat} (hL : LyMo y a ) (hX : Ok X l G prog_13_method_81_code 4 (some .int) "SaltFiguresModel")  (v1 : Int32) (v2 : Int32) (v3 : Int32)    (μ : Mu) : J X G 4 8 y (emy y) rvI tpT 29 [(0, .ref (G.1 + a)), (1, .int v1), (2, .int v2), (3, .int v3)] [] (μ, y) (Mo_comes_29 a   v1 v2 v3  μ) := by
  unfold Mo_comes_29
  refine J_iload_n (k0 := 2) (pc := 29) 2 hX (by decide +kernel) rfl rfl ?_
  refine J_iconst (pc := 30) (n := 3) (v := 3) hX (by decide +kernel) (by decide +kernel) ?_
  refine J_icmp_ne (pc := 31) (off := 20) (tgt := 51) hX (by decide +kernel) (by decide +kernel) (fun _ => ?_) (fun _ => ?_)
  · exact J_sub [0, 2, 3] _ rfl (jMo_comes_51 hL hX v2 v3 μ)
  · refine J_aload_n (k0 := 0) (pc := 34) 0 hX (by decide +kernel) rfl rfl ?_
    refine J_gr (pc := 35) hX (by decide +kernel) fl_Mo_7 hL.1 rfl hL.2.1.1 ?_
    refine J_bipush (pc := 38) (n := 6) (v := 6) hX (by decide +kernel) (by decide +kernel) ?_
    refine J_iload_n (k0 := 3) (pc := 40) 3 hX (by decide +kernel) rfl rfl ?_
    refine J_iadd (pc := 41) hX (by decide +kernel) ?_
    refine J_aload_n (k0 := 0) (pc := 42) 0 hX (by decide +kernel) rfl rfl ?_
    refine J_gr (pc := 43) hX (by decide +kernel) fl_Mo_62 hL.1 rfl hL.2.2.2.2.2.2.2.2.2.2.2.2.2.2.2.2.2.1.1 ?_
    refine J_iload_n (k0 := 1) (pc := 46) 1 hX (by decide +kernel) rfl rfl ?_
    refine J_iconst (pc := 47) (n := 3) (v := 3) hX (by decide +kernel) (by decide +kernel) ?_
    refine J_iadd (pc := 48) hX (by decide +kernel) ?_
    refine J_ldA (pc := 49) hX (by decide +kernel) hL.2.2.2.2.2.2.2.2.2.2.2.2.2.2.2.2.2.1.2 (fun x1 => ?_)
    refine J_stA (pc := 50) hX (by decide +kernel) hL.2.1.2 (fun μ2 => ?_)
    exact J_sub [0, 2, 3] _ rfl (jMo_comes_51 hL hX v2 v3 μ2)
set_option maxRecDepth 100000 in
set_option maxHeartbeats 4000000 in
theorem jMo_comes {X : Cx} {l : Launch} {G : Gx} {y : Ly} {a : Nat} (hL : LyMo y a ) (hX : Ok X l G prog_13_method_81_code 4 (some .int) "SaltFiguresModel") (v1 : Int32) (μ : Mu) : J X G 4 8 y (emy y) rvI tpT 0 [(0, .ref (G.1 + a)), (1, .int v1)] [] (μ, y) (Mo_comes a v1 μ) := by
  unfold Mo_comes
  refine J_aload_n (k0 := 0) (pc := 0) 0 hX (by decide +kernel) rfl rfl ?_
  refine J_gr (pc := 1) hX (by decide +kernel) fl_Mo_62 hL.1 rfl hL.2.2.2.2.2.2.2.2.2.2.2.2.2.2.2.2.2.1.1 ?_
  refine J_iload_n (k0 := 1) (pc := 4) 1 hX (by decide +kernel) rfl rfl ?_
  refine J_iconst (pc := 5) (n := 1) (v := 1) hX (by decide +kernel) (by decide +kernel) ?_
  refine J_iadd (pc := 6) hX (by decide +kernel) ?_
  refine J_ldA (pc := 7) hX (by decide +kernel) hL.2.2.2.2.2.2.2.2.2.2.2.2.2.2.2.2.2.1.2 (fun x1 => ?_)
  refine J_istore_n (k0 := 2) (pc := 8) [(2, .int x1), (0, .ref (G.1 + a)), (1, .int v1)] hX (by decide +kernel) rfl (by decide) rfl ?_
  refine J_aload_n (k0 := 0) (pc := 9) 1 hX (by decide +kernel) rfl rfl ?_
  refine J_gr (pc := 10) hX (by decide +kernel) fl_Mo_62 hL.1 rfl hL.2.2.2.2.2.2.2.2.2.2.2.2.2.2.2.2.2.1.1 ?_
  refine J_iload_n (k0 := 1) (pc := 13) 2 hX (by decide +kernel) rfl rfl ?_
  refine J_iconst (pc := 14) (n := 2) (v := 2) hX (by decide +kernel) (by decide +kernel) ?_
  refine J_iadd (pc := 15) hX (by decide +kernel) ?_
  refine J_ldA (pc := 16) hX (by decide +kernel) hL.2.2.2.2.2.2.2.2.2.2.2.2.2.2.2.2.2.1.2 (fun x2 => ?_)
  refine J_istore_n (k0 := 3) (pc := 17) [(3, .int x2), (2, .int x1), (0, .ref (G.1 + a)), (1, .int v1)] hX (by decide +kernel) rfl (by decide) rfl ?_
  refine J_iload_n (k0 := 2) (pc := 18) 1 hX (by decide +kernel) rfl rfl ?_
  refine J_if_ne (pc := 19) (off := 10) (tgt := 29) hX (by decide +kernel) (by decide +kernel) (fun _ => ?_) (fun _ => ?_)
  · exact J_sub [2, 3, 1, 0] _ rfl (jMo_comes_29 hL hX v1 x1 x2 μ)
  · refine J_aload_n (k0 := 0) (pc := 22) 2 hX (by decide +kernel) rfl rfl ?_
    refine J_gr (pc := 23) hX (by decide +kernel) fl_Mo_7 hL.1 rfl hL.2.1.1 ?_
    refine J_iconst (pc := 26) (n := 3) (v := 3) hX (by decide +kernel) (by decide +kernel) ?_
    refine J_iload_n (k0 := 3) (pc := 27) 0 hX (by decide +kernel) rfl rfl ?_
    refine J_stA (pc := 28) hX (by decide +kernel) hL.2.1.2 (fun μ3 => ?_)
    exact J_sub [2, 3, 1, 0] _ rfl (jMo_comes_29 hL hX v1 x1 x2 μ3)
set_option maxRecDepth 100000 in
set_option maxHeartbeats 4000000 in
theorem c_Mo_comes {l : Launch} {G : Gx} {y : Ly} {a : Nat} (hL : LyMo y a ) (v1 : Int32) (μ : Mu) : Cn l G ⟨"SaltFiguresModel", "comes", "(I)I"⟩ prog_13_method_81_code 4 (some .int) 8 [.ref (G.1 + a), .int v1] (μ, y) (emy y) rvI tpT (Mo_comes a v1 μ) := cn_of (by decide +kernel) (Nat.le_of_ble_eq_true rfl) (fun _ _ _ => ⟨List.prefix_refl _, trivial⟩) (fun X hX _ => jMo_comes hL hX v1 μ)

def Mo_common_5b (a : Nat)  (kb5 : Int32 → Int32 → Mu → Option (Int32 × Mu))  (v3 : Int32) (v4 : Int32)  (μ : Mu) : Option (Int32 × Mu) := (if v4 = 0 then some (v3, μ) else nz v4 (kb5 v4 (jrem v3 v4) μ))
def Mo_common_5 (a : Nat)   (fu : Nat) : Int32 → Int32 → Mu → Option (Int32 × Mu) := lp (fun kb => Mo_common_5b a  kb ) (fun _ _ _ => none) fu
def Mo_common (a : Nat) (v1 : Int32) (v2 : Int32) (μ : Mu) : Option (Int32 × Mu) := Mo_common_5 a FU v1 v2 μ
set_option maxRecDepth 100000 in
set_option maxHeartbeats 4000000 in
theorem jMo_common_5b {X : Cx} {l : Launch} {G : Gx} {y : Ly} {a : Nat} (hL : LyMo y a ) (hX : Ok X l G prog_13_method_8_code 6 (some .int) "SaltFiguresModel")   {kb5 : Int32 → Int32 → Mu → Option (Int32 × Mu)}  (hk5 : ∀ (v3 : Int32) (v4 : Int32) (μ : Mu), J X G 6 1 y (emy y) rvI tpT 5 [(3, .int v3), (4, .int v4)] [] (μ, y) (kb5 v3 v4 μ)) (v3 : Int32) (v4 : Int32)  (μ : Mu) : J X G 6 1 y (emy y) rvI tpT 5 [(3, .int v3), (4, .int v4)] [] (μ, y) (Mo_common_5b a  kb5  v3 v4  μ) := by
  unfold Mo_common_5b
  refine J_iload (pc := 5) 1 hX (by decide +kernel) rfl ?_
  refine J_if_eq (pc := 7) (off := 19) (tgt := 26) hX (by decide +kernel) (by decide +kernel) (fun _ => ?_) (fun _ => ?_)
  · refine J_iload_n (k0 := 3) (pc := 26) 0 hX (by decide +kernel) rfl rfl ?_
    exact J_iret (pc := 27) hX (by decide +kernel) rfl trivial
  · refine J_iload_n (k0 := 3) (pc := 10) 0 hX (by decide +kernel) rfl rfl ?_
    refine J_iload (pc := 11) 1 hX (by decide +kernel) rfl ?_
    refine J_irem (pc := 13) hX (by decide +kernel) (fun _ => ?_)
    refine J_istore (pc := 14) [(5, .int (jrem v3 v4)), (3, .int v3), (4, .int v4)] hX (by decide +kernel) (by decide) rfl ?_
    refine J_iload (pc := 16) 2 hX (by decide +kernel) rfl ?_
    refine J_istore_n (k0 := 3) (pc := 18) [(3, .int v4), (5, .int (jrem v3 v4)), (4, .int v4)] hX (by decide +kernel) rfl (by decide) rfl ?_
    refine J_iload (pc := 19) 1 hX (by decide +kernel) rfl ?_
    refine J_istore (pc := 21) [(4, .int (jrem v3 v4)), (3, .int v4), (5, .int (jrem v3 v4))] hX (by decide +kernel) (by decide) rfl ?_
    refine J_goto (pc := 23) (off := -18) (tgt := 5) hX (by decide +kernel) (by decide +kernel) ?_
    exact J_sub [1, 0] _ rfl (hk5 v4 (jrem v3 v4) μ)
set_option maxRecDepth 100000 in
set_option maxHeartbeats 4000000 in
theorem jMo_common_5 {X : Cx} {l : Launch} {G : Gx} {y : Ly} {a : Nat} (hL : LyMo y a ) (hX : Ok X l G prog_13_method_8_code 6 (some .int) "SaltFiguresModel")    : ∀ (fu : Nat) (v3 : Int32) (v4 : Int32) (μ : Mu), J X G 6 1 y (emy y) rvI tpT 5 [(3, .int v3), (4, .int v4)] [] (μ, y) (Mo_common_5 a   fu v3 v4 μ) := by
  intro fu
  induction fu with
  | zero => intros; exact J_none
  | succ fu ih => intro v3 v4 μ; exact jMo_common_5b hL hX   ih v3 v4 μ
set_option maxRecDepth 100000 in
set_option maxHeartbeats 4000000 in
theorem jMo_common {X : Cx} {l : Launch} {G : Gx} {y : Ly} {a : Nat} (hL : LyMo y a ) (hX : Ok X l G prog_13_method_8_code 6 (some .int) "SaltFiguresModel") (v1 : Int32) (v2 : Int32) (μ : Mu) : J X G 6 1 y (emy y) rvI tpT 0 [(0, .ref (G.1 + a)), (1, .int v1), (2, .int v2)] [] (μ, y) (Mo_common a v1 v2 μ) := by
  unfold Mo_common
  refine J_iload_n (k0 := 1) (pc := 0) 1 hX (by decide +kernel) rfl rfl ?_
  refine J_istore_n (k0 := 3) (pc := 1) [(3, .int v1), (0, .ref (G.1 + a)), (1, .int v1), (2, .int v2)] hX (by decide +kernel) rfl (by decide) rfl ?_
  refine J_iload_n (k0 := 2) (pc := 2) 3 hX (by decide +kernel) rfl rfl ?_
  refine J_istore (pc := 3) [(4, .int v2), (3, .int v1), (0, .ref (G.1 + a)), (1, .int v1), (2, .int v2)] hX (by decide +kernel) (by decide) rfl ?_
  exact J_sub [1, 0] _ rfl (jMo_common_5 hL hX FU v1 v2 μ)
set_option maxRecDepth 100000 in
set_option maxHeartbeats 4000000 in
theorem c_Mo_common {l : Launch} {G : Gx} {y : Ly} {a : Nat} (hL : LyMo y a ) (v1 : Int32) (v2 : Int32) (μ : Mu) : Cn l G ⟨"SaltFiguresModel", "common", "(II)I"⟩ prog_13_method_8_code 6 (some .int) 1 [.ref (G.1 + a), .int v1, .int v2] (μ, y) (emy y) rvI tpT (Mo_common a v1 v2 μ) := cn_of (by decide +kernel) (Nat.le_of_ble_eq_true rfl) (fun _ _ _ => ⟨List.prefix_refl _, trivial⟩) (fun X hX _ => jMo_common hL hX v1 v2 μ)

def Mo_isLeap_21 (a : Nat)     (μ : Mu) : Option (Int32 × Mu) := some (1, μ)
def Mo_isLeap (a : Nat) (v1 : Int32) (μ : Mu) : Option (Int32 × Mu) := (if (jrem v1 4) = 0 then (if (jrem v1 100) = 0 then (if (jrem v1 400) = 0 then Mo_isLeap_21 a μ else some (0, μ)) else Mo_isLeap_21 a μ) else some (0, μ))
set_option maxRecDepth 100000 in
set_option maxHeartbeats 4000000 in
theorem jMo_isLeap_21 {X : Cx} {l : Launch} {G : Gx} {y : Ly} {a : Nat} (hL : LyMo y a ) (hX : Ok X l G prog_13_method_92_code 2 (some .boolean) "SaltFiguresModel")      (μ : Mu) : J X G 2 1 y (emy y) rvI tpT 21 [] [] (μ, y) (Mo_isLeap_21 a     μ) := by
  unfold Mo_isLeap_21
  refine J_iconst (pc := 21) (n := 1) (v := 1) hX (by decide +kernel) (by decide +kernel) ?_
  refine J_goto (pc := 22) (off := 4) (tgt := 26) hX (by decide +kernel) (by decide +kernel) ?_
  exact J_zret (pc := 26) hX (by decide +kernel) rfl (by decide +kernel) trivial
set_option maxRecDepth 100000 in
set_option maxHeartbeats 4000000 in
theorem jMo_isLeap {X : Cx} {l : Launch} {G : Gx} {y : Ly} {a : Nat} (hL : LyMo y a ) (hX : Ok X l G prog_13_method_92_code 2 (some .boolean) "SaltFiguresModel") (v1 : Int32) (μ : Mu) : J X G 2 1 y (emy y) rvI tpT 0 [(0, .ref (G.1 + a)), (1, .int v1)] [] (μ, y) (Mo_isLeap a v1 μ) := by
  unfold Mo_isLeap
  refine J_iload_n (k0 := 1) (pc := 0) 1 hX (by decide +kernel) rfl rfl ?_
  refine J_iconst (pc := 1) (n := 4) (v := 4) hX (by decide +kernel) (by decide +kernel) ?_
  refine J_iremK (pc := 2) hX (by decide +kernel) (by decide +kernel) ?_
  refine J_if_ne (pc := 3) (off := 22) (tgt := 25) hX (by decide +kernel) (by decide +kernel) (fun _ => ?_) (fun _ => ?_)
  · refine J_iconst (pc := 25) (n := 0) (v := 0) hX (by decide +kernel) (by decide +kernel) ?_
    exact J_zret (pc := 26) hX (by decide +kernel) rfl (by decide +kernel) trivial
  · refine J_iload_n (k0 := 1) (pc := 6) 1 hX (by decide +kernel) rfl rfl ?_
    refine J_bipush (pc := 7) (n := 100) (v := 100) hX (by decide +kernel) (by decide +kernel) ?_
    refine J_iremK (pc := 9) hX (by decide +kernel) (by decide +kernel) ?_
    refine J_if_ne (pc := 10) (off := 11) (tgt := 21) hX (by decide +kernel) (by decide +kernel) (fun _ => ?_) (fun _ => ?_)
    · exact J_sub [] _ rfl (jMo_isLeap_21 hL hX μ)
    · refine J_iload_n (k0 := 1) (pc := 13) 1 hX (by decide +kernel) rfl rfl ?_
      refine J_sipush (pc := 14) (n := 400) (v := 400) hX (by decide +kernel) (by decide +kernel) ?_
      refine J_iremK (pc := 17) hX (by decide +kernel) (by decide +kernel) ?_
      refine J_if_ne (pc := 18) (off := 7) (tgt := 25) hX (by decide +kernel) (by decide +kernel) (fun _ => ?_) (fun _ => ?_)
      · refine J_iconst (pc := 25) (n := 0) (v := 0) hX (by decide +kernel) (by decide +kernel) ?_
        exact J_zret (pc := 26) hX (by decide +kernel) rfl (by decide +kernel) trivial
      · exact J_sub [] _ rfl (jMo_isLeap_21 hL hX μ)
set_option maxRecDepth 100000 in
set_option maxHeartbeats 4000000 in
theorem c_Mo_isLeap {l : Launch} {G : Gx} {y : Ly} {a : Nat} (hL : LyMo y a ) (v1 : Int32) (μ : Mu) : Cn l G ⟨"SaltFiguresModel", "isLeap", "(I)Z"⟩ prog_13_method_92_code 2 (some .boolean) 1 [.ref (G.1 + a), .int v1] (μ, y) (emy y) rvI tpT (Mo_isLeap a v1 μ) := cn_of (by decide +kernel) (Nat.le_of_ble_eq_true rfl) (fun _ _ _ => ⟨List.prefix_refl _, trivial⟩) (fun X hX _ => jMo_isLeap hL hX v1 μ)

def Mo_daysOfMonth_44 (a : Nat)     (μ : Mu) : Option (Int32 × Mu) := some (30, μ)
def Mo_daysOfMonth (a : Nat) (v1 : Int32) (v2 : Int32) (μ : Mu) : Option (Int32 × Mu) := (if v2 = 2 then cl (Mo_isLeap a v1 μ) (fun x2 μ1 => (if x2 = 0 then some (28, μ1) else some (29, μ1))) else (if v2 = 4 then Mo_daysOfMonth_44 a μ else (if v2 = 6 then Mo_daysOfMonth_44 a μ else (if v2 = 9 then Mo_daysOfMonth_44 a μ else (if v2 = 11 then Mo_daysOfMonth_44 a μ else some (31, μ))))))
set_option maxRecDepth 100000 in
set_option maxHeartbeats 4000000 in
theorem jMo_daysOfMonth_44 {X : Cx} {l : Launch} {G : Gx} {y : Ly} {a : Nat} (hL : LyMo y a ) (hX : Ok X l G prog_13_method_93_code 3 (some .int) "SaltFiguresModel")      (μ : Mu) : J X G 3 2 y (emy y) rvI tpT 44 [] [] (μ, y) (Mo_daysOfMonth_44 a     μ) := by
  unfold Mo_daysOfMonth_44
  refine J_bipush (pc := 44) (n := 30) (v := 30) hX (by decide +kernel) (by decide +kernel) ?_
  refine J_goto (pc := 46) (off := 5) (tgt := 51) hX (by decide +kernel) (by decide +kernel) ?_
  exact J_iret (pc := 51) hX (by decide +kernel) rfl trivial
set_option maxRecDepth 100000 in
set_option maxHeartbeats 4000000 in
theorem jMo_daysOfMonth {X : Cx} {l : Launch} {G : Gx} {y : Ly} {a : Nat} (hL : LyMo y a ) (hX : Ok X l G prog_13_method_93_code 3 (some .int) "SaltFiguresModel") (v1 : Int32) (v2 : Int32) (μ : Mu) : J X G 3 2 y (emy y) rvI tpT 0 [(0, .ref (G.1 + a)), (1, .int v1), (2, .int v2)] [] (μ, y) (Mo_daysOfMonth a v1 v2 μ) := by
  unfold Mo_daysOfMonth
  refine J_iload_n (k0 := 2) (pc := 0) 2 hX (by decide +kernel) rfl rfl ?_
  refine J_iconst (pc := 1) (n := 2) (v := 2) hX (by decide +kernel) (by decide +kernel) ?_
  refine J_icmp_ne (pc := 2) (off := 19) (tgt := 21) hX (by decide +kernel) (by decide +kernel) (fun _ => ?_) (fun _ => ?_)
  · refine J_iload_n (k0 := 2) (pc := 21) 2 hX (by decide +kernel) rfl rfl ?_
    refine J_iconst (pc := 22) (n := 4) (v := 4) hX (by decide +kernel) (by decide +kernel) ?_
    refine J_icmp_eq (pc := 23) (off := 21) (tgt := 44) hX (by decide +kernel) (by decide +kernel) (fun _ => ?_) (fun _ => ?_)
    · exact J_sub [] _ rfl (jMo_daysOfMonth_44 hL hX μ)
    · refine J_iload_n (k0 := 2) (pc := 26) 2 hX (by decide +kernel) rfl rfl ?_
      refine J_bipush (pc := 27) (n := 6) (v := 6) hX (by decide +kernel) (by decide +kernel) ?_
      refine J_icmp_eq (pc := 29) (off := 15) (tgt := 44) hX (by decide +kernel) (by decide +kernel) (fun _ => ?_) (fun _ => ?_)
      · exact J_sub [] _ rfl (jMo_daysOfMonth_44 hL hX μ)
      · refine J_iload_n (k0 := 2) (pc := 32) 2 hX (by decide +kernel) rfl rfl ?_
        refine J_bipush (pc := 33) (n := 9) (v := 9) hX (by decide +kernel) (by decide +kernel) ?_
        refine J_icmp_eq (pc := 35) (off := 9) (tgt := 44) hX (by decide +kernel) (by decide +kernel) (fun _ => ?_) (fun _ => ?_)
        · exact J_sub [] _ rfl (jMo_daysOfMonth_44 hL hX μ)
        · refine J_iload_n (k0 := 2) (pc := 38) 2 hX (by decide +kernel) rfl rfl ?_
          refine J_bipush (pc := 39) (n := 11) (v := 11) hX (by decide +kernel) (by decide +kernel) ?_
          refine J_icmp_ne (pc := 41) (off := 8) (tgt := 49) hX (by decide +kernel) (by decide +kernel) (fun _ => ?_) (fun _ => ?_)
          · refine J_bipush (pc := 49) (n := 31) (v := 31) hX (by decide +kernel) (by decide +kernel) ?_
            exact J_iret (pc := 51) hX (by decide +kernel) rfl trivial
          · exact J_sub [] _ rfl (jMo_daysOfMonth_44 hL hX μ)
  · refine J_aload_n (k0 := 0) (pc := 5) 0 hX (by decide +kernel) rfl rfl ?_
    refine J_iload_n (k0 := 1) (pc := 6) 1 hX (by decide +kernel) rfl rfl ?_
    refine J_cVi (pc := 7) (idx := 413) [.int v1] hX (by decide +kernel) (mq mt_8 89 (by decide +kernel)) mv_Mo_isLeap hL.1 rfl rfl (Nat.le_of_ble_eq_true rfl) (Nat.le_of_ble_eq_true rfl) (c_Mo_isLeap hL v1 μ) (fun x2 μ1 => ?_)
    refine J_if_eq (pc := 10) (off := 8) (tgt := 18) hX (by decide +kernel) (by decide +kernel) (fun _ => ?_) (fun _ => ?_)
    · refine J_bipush (pc := 18) (n := 28) (v := 28) hX (by decide +kernel) (by decide +kernel) ?_
      exact J_iret (pc := 20) hX (by decide +kernel) rfl trivial
    · refine J_bipush (pc := 13) (n := 29) (v := 29) hX (by decide +kernel) (by decide +kernel) ?_
      refine J_goto (pc := 15) (off := 5) (tgt := 20) hX (by decide +kernel) (by decide +kernel) ?_
      exact J_iret (pc := 20) hX (by decide +kernel) rfl trivial
set_option maxRecDepth 100000 in
set_option maxHeartbeats 4000000 in
theorem c_Mo_daysOfMonth {l : Launch} {G : Gx} {y : Ly} {a : Nat} (hL : LyMo y a ) (v1 : Int32) (v2 : Int32) (μ : Mu) : Cn l G ⟨"SaltFiguresModel", "daysOfMonth", "(II)I"⟩ prog_13_method_93_code 3 (some .int) 2 [.ref (G.1 + a), .int v1, .int v2] (μ, y) (emy y) rvI tpT (Mo_daysOfMonth a v1 v2 μ) := cn_of (by decide +kernel) (Nat.le_of_ble_eq_true rfl) (fun _ _ _ => ⟨List.prefix_refl _, trivial⟩) (fun X hX _ => jMo_daysOfMonth hL hX v1 v2 μ)

def Mo_isDate (a : Nat) (v1 : Int32) (v2 : Int32) (v3 : Int32) (μ : Mu) : Option (Int32 × Mu) := cl (Mo_isIn a v1 1600 2400 μ) (fun x2 μ1 => (if x2 = 0 then some (0, μ1) else cl (Mo_isIn a v2 1 12 μ1) (fun x4 μ3 => (if x4 = 0 then some (0, μ3) else cl (Mo_daysOfMonth a v1 v2 μ3) (fun x6 μ5 => cl (Mo_isIn a v3 1 x6 μ5) (fun x8 μ7 => (if x8 = 0 then some (0, μ7) else some (1, μ7))))))))
set_option maxRecDepth 100000 in
set_option maxHeartbeats 4000000 in
theorem jMo_isDate {X : Cx} {l : Launch} {G : Gx} {y : Ly} {a : Nat} (hL : LyMo y a ) (hX : Ok X l G prog_13_method_94_code 4 (some .boolean) "SaltFiguresModel") (v1 : Int32) (v2 : Int32) (v3 : Int32) (μ : Mu) : J X G 4 3 y (emy y) rvI tpT 0 [(0, .ref (G.1 + a)), (1, .int v1), (2, .int v2), (3, .int v3)] [] (μ, y) (Mo_isDate a v1 v2 v3 μ) := by
  unfold Mo_isDate
  refine J_aload_n (k0 := 0) (pc := 0) 0 hX (by decide +kernel) rfl rfl ?_
  refine J_iload_n (k0 := 1) (pc := 1) 1 hX (by decide +kernel) rfl rfl ?_
  refine J_sipush (pc := 2) (n := 1600) (v := 1600) hX (by decide +kernel) (by decide +kernel) ?_
  refine J_sipush (pc := 5) (n := 2400) (v := 2400) hX (by decide +kernel) (by decide +kernel) ?_
  refine J_cVi (pc := 8) (idx := 154) [.int v1, .int 1600, .int 2400] hX (by decide +kernel) (mq mt_6 226 (by decide +kernel)) mv_Mo_isIn hL.1 rfl rfl (Nat.le_of_ble_eq_true rfl) (Nat.le_of_ble_eq_true rfl) (c_Mo_isIn hL v1 1600 2400 μ) (fun x2 μ1 => ?_)
  refine J_if_eq (pc := 11) (off := 33) (tgt := 44) hX (by decide +kernel) (by decide +kernel) (fun _ => ?_) (fun _ => ?_)
  · refine J_iconst (pc := 44) (n := 0) (v := 0) hX (by decide +kernel) (by decide +kernel) ?_
    exact J_zret (pc := 45) hX (by decide +kernel) rfl (by decide +kernel) trivial
  · refine J_aload_n (k0 := 0) (pc := 14) 0 hX (by decide +kernel) rfl rfl ?_
    refine J_iload_n (k0 := 2) (pc := 15) 2 hX (by decide +kernel) rfl rfl ?_
    refine J_iconst (pc := 16) (n := 1) (v := 1) hX (by decide +kernel) (by decide +kernel) ?_
    refine J_bipush (pc := 17) (n := 12) (v := 12) hX (by decide +kernel) (by decide +kernel) ?_
    refine J_cVi (pc := 19) (idx := 154) [.int v2, .int 1, .int 12] hX (by decide +kernel) (mq mt_6 226 (by decide +kernel)) mv_Mo_isIn hL.1 rfl rfl (Nat.le_of_ble_eq_true rfl) (Nat.le_of_ble_eq_true rfl) (c_Mo_isIn hL v2 1 12 μ1) (fun x4 μ3 => ?_)
    refine J_if_eq (pc := 22) (off := 22) (tgt := 44) hX (by decide +kernel) (by decide +kernel) (fun _ => ?_) (fun _ => ?_)
    · refine J_iconst (pc := 44) (n := 0) (v := 0) hX (by decide +kernel) (by decide +kernel) ?_
      exact J_zret (pc := 45) hX (by decide +kernel) rfl (by decide +kernel) trivial
    · refine J_aload_n (k0 := 0) (pc := 25) 0 hX (by decide +kernel) rfl rfl ?_
      refine J_iload_n (k0 := 3) (pc := 26) 3 hX (by decide +kernel) rfl rfl ?_
      refine J_iconst (pc := 27) (n := 1) (v := 1) hX (by decide +kernel) (by decide +kernel) ?_
      refine J_aload_n (k0 := 0) (pc := 28) 0 hX (by decide +kernel) rfl rfl ?_
      refine J_iload_n (k0 := 1) (pc := 29) 1 hX (by decide +kernel) rfl rfl ?_
      refine J_iload_n (k0 := 2) (pc := 30) 2 hX (by decide +kernel) rfl rfl ?_
      refine J_cVi (pc := 31) (idx := 416) [.int v1, .int v2] hX (by decide +kernel) (mq mt_8 85 (by decide +kernel)) mv_Mo_daysOfMonth hL.1 rfl rfl (Nat.le_of_ble_eq_true rfl) (Nat.le_of_ble_eq_true rfl) (c_Mo_daysOfMonth hL v1 v2 μ3) (fun x6 μ5 => ?_)
      refine J_cVi (pc := 34) (idx := 154) [.int v3, .int 1, .int x6] hX (by decide +kernel) (mq mt_6 226 (by decide +kernel)) mv_Mo_isIn hL.1 rfl rfl (Nat.le_of_ble_eq_true rfl) (Nat.le_of_ble_eq_true rfl) (c_Mo_isIn hL v3 1 x6 μ5) (fun x8 μ7 => ?_)
      refine J_if_eq (pc := 37) (off := 7) (tgt := 44) hX (by decide +kernel) (by decide +kernel) (fun _ => ?_) (fun _ => ?_)
      · refine J_iconst (pc := 44) (n := 0) (v := 0) hX (by decide +kernel) (by decide +kernel) ?_
        exact J_zret (pc := 45) hX (by decide +kernel) rfl (by decide +kernel) trivial
      · refine J_iconst (pc := 40) (n := 1) (v := 1) hX (by decide +kernel) (by decide +kernel) ?_
        refine J_goto (pc := 41) (off := 4) (tgt := 45) hX (by decide +kernel) (by decide +kernel) ?_
        exact J_zret (pc := 45) hX (by decide +kernel) rfl (by decide +kernel) trivial
set_option maxRecDepth 100000 in
set_option maxHeartbeats 4000000 in
theorem c_Mo_isDate {l : Launch} {G : Gx} {y : Ly} {a : Nat} (hL : LyMo y a ) (v1 : Int32) (v2 : Int32) (v3 : Int32) (μ : Mu) : Cn l G ⟨"SaltFiguresModel", "isDate", "(III)Z"⟩ prog_13_method_94_code 4 (some .boolean) 3 [.ref (G.1 + a), .int v1, .int v2, .int v3] (μ, y) (emy y) rvI tpT (Mo_isDate a v1 v2 v3 μ) := cn_of (by decide +kernel) (Nat.le_of_ble_eq_true rfl) (fun _ _ _ => ⟨List.prefix_refl _, trivial⟩) (fun X hX _ => jMo_isDate hL hX v1 v2 v3 μ)

def Mo_dayNumber_48b (a : Nat)  (kb48 : Int32 → Int32 → Mu → Option (Int32 × Mu)) (v1 : Int32) (v2 : Int32) (v4 : Int32) (v5 : Int32)  (μ : Mu) : Option (Int32 × Mu) := (if v2 ≤ v5 then some (v4, μ) else cl (Mo_daysOfMonth a v1 v5 μ) (fun x2 μ1 => kb48 (v4 + x2) (v5 + 1) μ1))
def Mo_dayNumber_48 (a : Nat)  (v1 : Int32) (v2 : Int32) (fu : Nat) : Int32 → Int32 → Mu → Option (Int32 × Mu) := lp (fun kb => Mo_dayNumber_48b a  kb v1 v2) (fun _ _ _ => none) fu
def Mo_dayNumber_36 (a : Nat) (kb10 : Int32 → Int32 → Mu → Option (Int32 × Mu))  (v1 : Int32) (v2 : Int32) (v5 : Int32) (s0 : Int32) (s1 : Int32) (μ : Mu) : Option (Int32 × Mu) := kb10 (s1 + s0) (v5 + 1) μ
def Mo_dayNumber_10b (a : Nat)  (kb10 : Int32 → Int32 → Mu → Option (Int32 × Mu)) (v1 : Int32) (v2 : Int32) (v4 : Int32) (v5 : Int32)  (μ : Mu) : Option (Int32 × Mu) := (if v1 ≤ v5 then Mo_dayNumber_48 a v1 v2 FU v4 1 μ else cl (Mo_isLeap a v5 μ) (fun x2 μ1 => (if x2 = 0 then Mo_dayNumber_36 a kb10 v1 v2 v5 365 v4 μ1 else Mo_dayNumber_36 a kb10 v1 v2 v5 366 v4 μ1)))
def Mo_dayNumber_10 (a : Nat)  (v1 : Int32) (v2 : Int32) (fu : Nat) : Int32 → Int32 → Mu → Option (Int32 × Mu) := lp (fun kb => Mo_dayNumber_10b a  kb v1 v2) (fun _ _ _ => none) fu
def Mo_dayNumber (a : Nat) (v1 : Int32) (v2 : Int32) (v3 : Int32) (μ : Mu) : Option (Int32 × Mu) := Mo_dayNumber_10 a v1 v2 FU (v3 - 1) 1600 μ
set_option maxRecDepth 100000 in
set_option maxHeartbeats 4000000 in
theorem jMo_dayNumber_48b {X : Cx} {l : Launch} {G : Gx} {y : Ly} {a : Nat} (hL : LyMo y a ) (hX : Ok X l G prog_13_method_95_code 6 (some .int) "SaltFiguresModel") (v1 : Int32) (v2 : Int32)  {kb48 : Int32 → Int32 → Mu → Option (Int32 × Mu)}  (hk48 : ∀ (v4 : Int32) (v5 : Int32) (μ : Mu), J X G 6 3 y (emy y) rvI tpT 48 [(0, .ref (G.1 + a)), (1, .int v1), (2, .int v2), (4, .int v4), (5, .int v5)] [] (μ, y) (kb48 v4 v5 μ)) (v4 : Int32) (v5 : Int32)  (μ : Mu) : J X G 6 3 y (emy y) rvI tpT 48 [(0, .ref (G.1 + a)), (1, .int v1), (2, .int v2), (4, .int v4), (5, .int v5)] [] (μ, y) (Mo_dayNumber_48b a  kb48 v1 v2 v4 v5  μ) := by
  unfold Mo_dayNumber_48b
  refine J_iload (pc := 48) 4 hX (by decide +kernel) rfl ?_
  refine J_iload_n (k0 := 2) (pc := 50) 2 hX (by decide +kernel) rfl rfl ?_
  refine J_icmp_ge (pc := 51) (off := 21) (tgt := 72) hX (by decide +kernel) (by decide +kernel) (fun _ => ?_) (fun _ => ?_)
  · refine J_iload (pc := 72) 3 hX (by decide +kernel) rfl ?_
    exact J_iret (pc := 74) hX (by decide +kernel) rfl trivial
  · refine J_iload (pc := 54) 3 hX (by decide +kernel) rfl ?_
    refine J_aload_n (k0 := 0) (pc := 56) 0 hX (by decide +kernel) rfl rfl ?_
    refine J_iload_n (k0 := 1) (pc := 57) 1 hX (by decide +kernel) rfl rfl ?_
    refine J_iload (pc := 58) 4 hX (by decide +kernel) rfl ?_
    refine J_cVi (pc := 60) (idx := 416) [.int v1, .int v5] hX (by decide +kernel) (mq mt_8 85 (by decide +kernel)) mv_Mo_daysOfMonth hL.1 rfl rfl (Nat.le_of_ble_eq_true rfl) (Nat.le_of_ble_eq_true rfl) (c_Mo_daysOfMonth hL v1 v5 μ) (fun x2 μ1 => ?_)
    refine J_iadd (pc := 63) hX (by decide +kernel) ?_
    refine J_istore (pc := 64) [(4, .int (v4 + x2)), (0, .ref (G.1 + a)), (1, .int v1), (2, .int v2), (5, .int v5)] hX (by decide +kernel) (by decide) rfl ?_
    refine J_iinc (pc := 66) (n := 1) 4 [(5, .int (v5 + 1)), (4, .int (v4 + x2)), (0, .ref (G.1 + a)), (1, .int v1), (2, .int v2)] hX (by decide +kernel) rfl rfl (by decide) rfl ?_
    refine J_goto (pc := 69) (off := -21) (tgt := 48) hX (by decide +kernel) (by decide +kernel) ?_
    exact J_sub [2, 3, 4, 1, 0] _ rfl (hk48 (v4 + x2) (v5 + 1) μ1)
set_option maxRecDepth 100000 in
set_option maxHeartbeats 4000000 in
theorem jMo_dayNumber_48 {X : Cx} {l : Launch} {G : Gx} {y : Ly} {a : Nat} (hL : LyMo y a ) (hX : Ok X l G prog_13_method_95_code 6 (some .int) "SaltFiguresModel") (v1 : Int32) (v2 : Int32)   : ∀ (fu : Nat) (v4 : Int32) (v5 : Int32) (μ : Mu), J X G 6 3 y (emy y) rvI tpT 48 [(0, .ref (G.1 + a)), (1, .int v1), (2, .int v2), (4, .int v4), (5, .int v5)] [] (μ, y) (Mo_dayNumber_48 a  v1 v2 fu v4 v5 μ) := by
  intro fu
  induction fu with
  | zero => intros; exact J_none
  | succ fu ih => intro v4 v5 μ; exact jMo_dayNumber_48b hL hX v1 v2  ih v4 v5 μ
set_option maxRecDepth 100000 in
set_option maxHeartbeats 4000000 in
theorem jMo_dayNumber_36 {X : Cx} {l : Launch} {G : Gx} {y : Ly} {a : Nat} (hL : LyMo y a ) (hX : Ok X l G prog_13_method_95_code 6 (some .int) "SaltFiguresModel")  (v1 : Int32) (v2 : Int32) (v5 : Int32) (s0 : Int32) (s1 : Int32) {kb10 : Int32 → Int32 → Mu → Option (Int32 × Mu)} (hk10 : ∀ (v4 : Int32) (v5 : Int32) (μ : Mu), J X G 6 3 y (emy y) rvI tpT 10 [(0, .ref (G.1 + a)), (1, .int v1), (2, .int v2), (4, .int v4), (5, .int v5)] [] (μ, y) (kb10 v4 v5 μ)) (μ : Mu) : J X G 6 3 y (emy y) rvI tpT 36 [(0, .ref (G.1 + a)), (1, .int v1), (2, .int v2), (5, .int v5)] [.int s0, .int s1] (μ, y) (Mo_dayNumber_36 a kb10  v1 v2 v5 s0 s1 μ) := by
  unfold Mo_dayNumber_36
  refine J_iadd (pc := 36) hX (by decide +kernel) ?_
  refine J_istore (pc := 37) [(4, .int (s1 + s0)), (0, .ref (G.1 + a)), (1, .int v1), (2, .int v2), (5, .int v5)] hX (by decide +kernel) (by decide) rfl ?_
  refine J_iinc (pc := 39) (n := 1) 4 [(5, .int (v5 + 1)), (4, .int (s1 + s0)), (0, .ref (G.1 + a)), (1, .int v1), (2, .int v2)] hX (by decide +kernel) rfl rfl (by decide) rfl ?_
  refine J_goto (pc := 42) (off := -32) (tgt := 10) hX (by decide +kernel) (by decide +kernel) ?_
  exact J_sub [2, 3, 4, 1, 0] _ rfl (hk10 (s1 + s0) (v5 + 1) μ)
set_option maxRecDepth 100000 in
set_option maxHeartbeats 4000000 in
theorem jMo_dayNumber_10b {X : Cx} {l : Launch} {G : Gx} {y : Ly} {a : Nat} (hL : LyMo y a ) (hX : Ok X l G prog_13_method_95_code 6 (some .int) "SaltFiguresModel") (v1 : Int32) (v2 : Int32)  {kb10 : Int32 → Int32 → Mu → Option (Int32 × Mu)}  (hk10 : ∀ (v4 : Int32) (v5 : Int32) (μ : Mu), J X G 6 3 y (emy y) rvI tpT 10 [(0, .ref (G.1 + a)), (1, .int v1), (2, .int v2), (4, .int v4), (5, .int v5)] [] (μ, y) (kb10 v4 v5 μ)) (v4 : Int32) (v5 : Int32)  (μ : Mu) : J X G 6 3 y (emy y) rvI tpT 10 [(0, .ref (G.1 + a)), (1, .int v1), (2, .int v2), (4, .int v4), (5, .int v5)] [] (μ, y) (Mo_dayNumber_10b a  kb10 v1 v2 v4 v5  μ) := by
  unfold Mo_dayNumber_10b
  refine J_iload (pc := 10) 4 hX (by decide +kernel) rfl ?_
  refine J_iload_n (k0 := 1) (pc := 12) 1 hX (by decide +kernel) rfl rfl ?_
  refine J_icmp_ge (pc := 13) (off := 32) (tgt := 45) hX (by decide +kernel) (by decide +kernel) (fun _ => ?_) (fun _ => ?_)
  · refine J_iconst (pc := 45) (n := 1) (v := 1) hX (by decide +kernel) (by decide +kernel) ?_
    refine J_istore (pc := 46) [(5, .int 1), (0, .ref (G.1 + a)), (1, .int v1), (2, .int v2), (4, .int v4)] hX (by decide +kernel) (by decide) rfl ?_
    exact J_sub [1, 2, 3, 4, 0] _ rfl (jMo_dayNumber_48 hL hX v1 v2 FU v4 1 μ)
  · refine J_iload (pc := 16) 3 hX (by decide +kernel) rfl ?_
    refine J_aload_n (k0 := 0) (pc := 18) 0 hX (by decide +kernel) rfl rfl ?_
    refine J_iload (pc := 19) 4 hX (by decide +kernel) rfl ?_
    refine J_cVi (pc := 21) (idx := 413) [.int v5] hX (by decide +kernel) (mq mt_8 89 (by decide +kernel)) mv_Mo_isLeap hL.1 rfl rfl (Nat.le_of_ble_eq_true rfl) (Nat.le_of_ble_eq_true rfl) (c_Mo_isLeap hL v5 μ) (fun x2 μ1 => ?_)
    refine J_if_eq (pc := 24) (off := 9) (tgt := 33) hX (by decide +kernel) (by decide +kernel) (fun _ => ?_) (fun _ => ?_)
    · refine J_sipush (pc := 33) (n := 365) (v := 365) hX (by decide +kernel) (by decide +kernel) ?_
      exact J_sub [0, 1, 2, 4] _ rfl (jMo_dayNumber_36 hL hX v1 v2 v5 365 v4 hk10 μ1)
    · refine J_sipush (pc := 27) (n := 366) (v := 366) hX (by decide +kernel) (by decide +kernel) ?_
      refine J_goto (pc := 30) (off := 6) (tgt := 36) hX (by decide +kernel) (by decide +kernel) ?_
      exact J_sub [0, 1, 2, 4] _ rfl (jMo_dayNumber_36 hL hX v1 v2 v5 366 v4 hk10 μ1)
set_option maxRecDepth 100000 in
set_option maxHeartbeats 4000000 in
theorem jMo_dayNumber_10 {X : Cx} {l : Launch} {G : Gx} {y : Ly} {a : Nat} (hL : LyMo y a ) (hX : Ok X l G prog_13_method_95_code 6 (some .int) "SaltFiguresModel") (v1 : Int32) (v2 : Int32)   : ∀ (fu : Nat) (v4 : Int32) (v5 : Int32) (μ : Mu), J X G 6 3 y (emy y) rvI tpT 10 [(0, .ref (G.1 + a)), (1, .int v1), (2, .int v2), (4, .int v4), (5, .int v5)] [] (μ, y) (Mo_dayNumber_10 a  v1 v2 fu v4 v5 μ) := by
  intro fu
  induction fu with
  | zero => intros; exact J_none
  | succ fu ih => intro v4 v5 μ; exact jMo_dayNumber_10b hL hX v1 v2  ih v4 v5 μ
set_option maxRecDepth 100000 in
set_option maxHeartbeats 4000000 in
theorem jMo_dayNumber {X : Cx} {l : Launch} {G : Gx} {y : Ly} {a : Nat} (hL : LyMo y a ) (hX : Ok X l G prog_13_method_95_code 6 (some .int) "SaltFiguresModel") (v1 : Int32) (v2 : Int32) (v3 : Int32) (μ : Mu) : J X G 6 3 y (emy y) rvI tpT 0 [(0, .ref (G.1 + a)), (1, .int v1), (2, .int v2), (3, .int v3)] [] (μ, y) (Mo_dayNumber a v1 v2 v3 μ) := by
  unfold Mo_dayNumber
  refine J_iload_n (k0 := 3) (pc := 0) 3 hX (by decide +kernel) rfl rfl ?_
  refine J_iconst (pc := 1) (n := 1) (v := 1) hX (by decide +kernel) (by decide +kernel) ?_
  refine J_isub (pc := 2) hX (by decide +kernel) ?_
  refine J_istore (pc := 3) [(4, .int (v3 - 1)), (0, .ref (G.1 + a)), (1, .int v1), (2, .int v2), (3, .int v3)] hX (by decide +kernel) (by decide) rfl ?_
  refine J_sipush (pc := 5) (n := 1600) (v := 1600) hX (by decide +kernel) (by decide +kernel) ?_
  refine J_istore (pc := 8) [(5, .int 1600), (4, .int (v3 - 1)), (0, .ref (G.1 + a)), (1, .int v1), (2, .int v2), (3, .int v3)] hX (by decide +kernel) (by decide) rfl ?_
  exact J_sub [2, 3, 4, 1, 0] _ rfl (jMo_dayNumber_10 hL hX v1 v2 FU (v3 - 1) 1600 μ)
set_option maxRecDepth 100000 in
set_option maxHeartbeats 4000000 in
theorem c_Mo_dayNumber {l : Launch} {G : Gx} {y : Ly} {a : Nat} (hL : LyMo y a ) (v1 : Int32) (v2 : Int32) (v3 : Int32) (μ : Mu) : Cn l G ⟨"SaltFiguresModel", "dayNumber", "(III)I"⟩ prog_13_method_95_code 6 (some .int) 3 [.ref (G.1 + a), .int v1, .int v2, .int v3] (μ, y) (emy y) rvI tpT (Mo_dayNumber a v1 v2 v3 μ) := cn_of (by decide +kernel) (Nat.le_of_ble_eq_true rfl) (fun _ _ _ => ⟨List.prefix_refl _, trivial⟩) (fun X hX _ => jMo_dayNumber hL hX v1 v2 v3 μ)

def Mo_date (a : Nat) (v1 : Int32) (v2 : Int32) (v3 : Int32) (μ : Mu) : Option (Int32 × Mu) := pF μ a 0 0 (fun μ1 => cl (Mo_isDate a v1 v2 v3 μ1) (fun x3 μ2 => (if x3 = 0 then some (0, μ2) else cl (Mo_dayNumber a v1 v2 v3 μ2) (fun x5 μ4 => pF μ4 a 41 x5 (fun μ6 => some (1, μ6))))))
set_option maxRecDepth 100000 in
set_option maxHeartbeats 4000000 in
theorem jMo_date {X : Cx} {l : Launch} {G : Gx} {y : Ly} {a : Nat} (hL : LyMo y a ) (hX : Ok X l G prog_13_method_97_code 4 (some .boolean) "SaltFiguresModel") (v1 : Int32) (v2 : Int32) (v3 : Int32) (μ : Mu) : J X G 4 4 y (emy y) rvI tpT 0 [(0, .ref (G.1 + a)), (1, .int v1), (2, .int v2), (3, .int v3)] [] (μ, y) (Mo_date a v1 v2 v3 μ) := by
  unfold Mo_date
  refine J_aload_n (k0 := 0) (pc := 0) 0 hX (by decide +kernel) rfl rfl ?_
  refine J_iconst (pc := 1) (n := 0) (v := 0) hX (by decide +kernel) (by decide +kernel) ?_
  refine J_pF (pc := 2) hX (by decide +kernel) fl_Mo_131 hL.1 rfl (fun μ1 => ?_)
  refine J_aload_n (k0 := 0) (pc := 5) 0 hX (by decide +kernel) rfl rfl ?_
  refine J_iload_n (k0 := 1) (pc := 6) 1 hX (by decide +kernel) rfl rfl ?_
  refine J_iload_n (k0 := 2) (pc := 7) 2 hX (by decide +kernel) rfl rfl ?_
  refine J_iload_n (k0 := 3) (pc := 8) 3 hX (by decide +kernel) rfl rfl ?_
  refine J_cVi (pc := 9) (idx := 419) [.int v1, .int v2, .int v3] hX (by decide +kernel) (mq mt_8 81 (by decide +kernel)) mv_Mo_isDate hL.1 rfl rfl (Nat.le_of_ble_eq_true rfl) (Nat.le_of_ble_eq_true rfl) (c_Mo_isDate hL v1 v2 v3 μ1) (fun x3 μ2 => ?_)
  refine J_if_ne (pc := 12) (off := 5) (tgt := 17) hX (by decide +kernel) (by decide +kernel) (fun _ => ?_) (fun _ => ?_)
  · refine J_aload_n (k0 := 0) (pc := 17) 0 hX (by decide +kernel) rfl rfl ?_
    refine J_aload_n (k0 := 0) (pc := 18) 0 hX (by decide +kernel) rfl rfl ?_
    refine J_iload_n (k0 := 1) (pc := 19) 1 hX (by decide +kernel) rfl rfl ?_
    refine J_iload_n (k0 := 2) (pc := 20) 2 hX (by decide +kernel) rfl rfl ?_
    refine J_iload_n (k0 := 3) (pc := 21) 3 hX (by decide +kernel) rfl rfl ?_
    refine J_cVi (pc := 22) (idx := 422) [.int v1, .int v2, .int v3] hX (by decide +kernel) (mq mt_8 93 (by decide +kernel)) mv_Mo_dayNumber hL.1 rfl rfl (Nat.le_of_ble_eq_true rfl) (Nat.le_of_ble_eq_true rfl) (c_Mo_dayNumber hL v1 v2 v3 μ2) (fun x5 μ4 => ?_)
    refine J_pF (pc := 25) hX (by decide +kernel) fl_Mo_425 hL.1 rfl (fun μ6 => ?_)
    refine J_iconst (pc := 28) (n := 1) (v := 1) hX (by decide +kernel) (by decide +kernel) ?_
    exact J_zret (pc := 29) hX (by decide +kernel) rfl (by decide +kernel) trivial
  · refine J_iconst (pc := 15) (n := 0) (v := 0) hX (by decide +kernel) (by decide +kernel) ?_
    exact J_zret (pc := 16) hX (by decide +kernel) rfl (by decide +kernel) trivial
set_option maxRecDepth 100000 in
set_option maxHeartbeats 4000000 in
theorem c_Mo_date {l : Launch} {G : Gx} {y : Ly} {a : Nat} (hL : LyMo y a ) (v1 : Int32) (v2 : Int32) (v3 : Int32) (μ : Mu) : Cn l G ⟨"SaltFiguresModel", "date", "(III)Z"⟩ prog_13_method_97_code 4 (some .boolean) 4 [.ref (G.1 + a), .int v1, .int v2, .int v3] (μ, y) (emy y) rvI tpT (Mo_date a v1 v2 v3 μ) := cn_of (by decide +kernel) (Nat.le_of_ble_eq_true rfl) (fun _ _ _ => ⟨List.prefix_refl _, trivial⟩) (fun X hX _ => jMo_date hL hX v1 v2 v3 μ)

def Mo_dayOfWeek (a : Nat) (v1 : Int32) (μ : Mu) : Option (Int32 × Mu) := some (jrem (v1 + 6) 7, μ)
set_option maxRecDepth 100000 in
set_option maxHeartbeats 4000000 in
theorem jMo_dayOfWeek {X : Cx} {l : Launch} {G : Gx} {y : Ly} {a : Nat} (hL : LyMo y a ) (hX : Ok X l G prog_13_method_96_code 2 (some .int) "SaltFiguresModel") (v1 : Int32) (μ : Mu) : J X G 2 1 y (emy y) rvI tpT 0 [(0, .ref (G.1 + a)), (1, .int v1)] [] (μ, y) (Mo_dayOfWeek a v1 μ) := by
  unfold Mo_dayOfWeek
  refine J_iload_n (k0 := 1) (pc := 0) 1 hX (by decide +kernel) rfl rfl ?_
  refine J_bipush (pc := 1) (n := 6) (v := 6) hX (by decide +kernel) (by decide +kernel) ?_
  refine J_iadd (pc := 3) hX (by decide +kernel) ?_
  refine J_bipush (pc := 4) (n := 7) (v := 7) hX (by decide +kernel) (by decide +kernel) ?_
  refine J_iremK (pc := 6) hX (by decide +kernel) (by decide +kernel) ?_
  exact J_iret (pc := 7) hX (by decide +kernel) rfl trivial
set_option maxRecDepth 100000 in
set_option maxHeartbeats 4000000 in
theorem c_Mo_dayOfWeek {l : Launch} {G : Gx} {y : Ly} {a : Nat} (hL : LyMo y a ) (v1 : Int32) (μ : Mu) : Cn l G ⟨"SaltFiguresModel", "dayOfWeek", "(I)I"⟩ prog_13_method_96_code 2 (some .int) 1 [.ref (G.1 + a), .int v1] (μ, y) (emy y) rvI tpT (Mo_dayOfWeek a v1 μ) := cn_of (by decide +kernel) (Nat.le_of_ble_eq_true rfl) (fun _ _ _ => ⟨List.prefix_refl _, trivial⟩) (fun X hX _ => jMo_dayOfWeek hL hX v1 μ)

def Mo_spillsOf (a : Nat) (v1 : Int32) (μ : Mu) : Option (Int32 × Mu) := cl (Mo_asks a v1 μ) (fun _ μ1 => cl (Mo_lawTells a 0 500 1000 μ1) (fun x3 μ2 => some (x3, μ2)))
set_option maxRecDepth 100000 in
set_option maxHeartbeats 4000000 in
theorem jMo_spillsOf {X : Cx} {l : Launch} {G : Gx} {y : Ly} {a : Nat} (hL : LyMo y a ) (hX : Ok X l G prog_13_method_67_code 2 (some .int) "SaltFiguresModel") (v1 : Int32) (μ : Mu) : J X G 2 5 y (emy y) rvI tpT 0 [(0, .ref (G.1 + a)), (1, .int v1)] [] (μ, y) (Mo_spillsOf a v1 μ) := by
  unfold Mo_spillsOf
  refine J_aload_n (k0 := 0) (pc := 0) 0 hX (by decide +kernel) rfl rfl ?_
  refine J_iload_n (k0 := 1) (pc := 1) 1 hX (by decide +kernel) rfl rfl ?_
  refine J_cVv (pc := 2) (idx := 336) [.int v1] hX (by decide +kernel) (mq mt_7 182 (by decide +kernel)) mv_Mo_asks hL.1 rfl rfl (Nat.le_of_ble_eq_true rfl) (Nat.le_of_ble_eq_true rfl) (c_Mo_asks hL v1 μ) (fun μ1 => ?_)
  refine J_aload_n (k0 := 0) (pc := 5) 0 hX (by decide +kernel) rfl rfl ?_
  refine J_iconst (pc := 6) (n := 0) (v := 0) hX (by decide +kernel) (by decide +kernel) ?_
  refine J_sipush (pc := 7) (n := 500) (v := 500) hX (by decide +kernel) (by decide +kernel) ?_
  refine J_sipush (pc := 10) (n := 1000) (v := 1000) hX (by decide +kernel) (by decide +kernel) ?_
  refine J_cVi (pc := 13) (idx := 339) [.int 0, .int 500, .int 1000] hX (by decide +kernel) (mq mt_7 194 (by decide +kernel)) mv_Mo_lawTells hL.1 rfl rfl (Nat.le_of_ble_eq_true rfl) (Nat.le_of_ble_eq_true rfl) (c_Mo_lawTells hL 0 500 1000 μ1) (fun x3 μ2 => ?_)
  exact J_iret (pc := 16) hX (by decide +kernel) rfl trivial
set_option maxRecDepth 100000 in
set_option maxHeartbeats 4000000 in
theorem c_Mo_spillsOf {l : Launch} {G : Gx} {y : Ly} {a : Nat} (hL : LyMo y a ) (v1 : Int32) (μ : Mu) : Cn l G ⟨"SaltFiguresModel", "spillsOf", "(I)I"⟩ prog_13_method_67_code 2 (some .int) 5 [.ref (G.1 + a), .int v1] (μ, y) (emy y) rvI tpT (Mo_spillsOf a v1 μ) := cn_of (by decide +kernel) (Nat.le_of_ble_eq_true rfl) (fun _ _ _ => ⟨List.prefix_refl _, trivial⟩) (fun X hX _ => jMo_spillsOf hL hX v1 μ)

def Mo_draw (a : Nat) (v1 : Int32) (μ : Mu) : Option (Int32 × Mu) := ldA μ (a + 1) 118 1 (fun x1 => stA μ (a + 1) 118 1 ((1664525 * x1) + 1013904223) (fun μ2 => ldA μ2 (a + 1) 118 1 (fun x3 => nz v1 (some (jrem (jushr x3 8) v1, μ2)))))
set_option maxRecDepth 100000 in
set_option maxHeartbeats 4000000 in
theorem jMo_draw {X : Cx} {l : Launch} {G : Gx} {y : Ly} {a : Nat} (hL : LyMo y a ) (hX : Ok X l G prog_13_method_15_code 2 (some .int) "SaltFiguresModel") (v1 : Int32) (μ : Mu) : J X G 2 1 y (emy y) rvI tpT 0 [(0, .ref (G.1 + a)), (1, .int v1)] [] (μ, y) (Mo_draw a v1 μ) := by
  unfold Mo_draw
  refine J_aload_n (k0 := 0) (pc := 0) 0 hX (by decide +kernel) rfl rfl ?_
  refine J_gr (pc := 1) hX (by decide +kernel) fl_Mo_7 hL.1 rfl hL.2.1.1 ?_
  refine J_iconst (pc := 4) (n := 1) (v := 1) hX (by decide +kernel) (by decide +kernel) ?_
  refine J_ldc (pc := 5) (idx := 142) (v := 1664525) hX (by decide +kernel) (mq mt_8 30 (by decide +kernel)) ?_
  refine J_aload_n (k0 := 0) (pc := 7) 0 hX (by decide +kernel) rfl rfl ?_
  refine J_gr (pc := 8) hX (by decide +kernel) fl_Mo_7 hL.1 rfl hL.2.1.1 ?_
  refine J_iconst (pc := 11) (n := 1) (v := 1) hX (by decide +kernel) (by decide +kernel) ?_
  refine J_ldA (pc := 12) hX (by decide +kernel) hL.2.1.2 (fun x1 => ?_)
  refine J_imul (pc := 13) hX (by decide +kernel) ?_
  refine J_ldc (pc := 14) (idx := 143) (v := 1013904223) hX (by decide +kernel) (mq mt_8 31 (by decide +kernel)) ?_
  refine J_iadd (pc := 16) hX (by decide +kernel) ?_
  refine J_stA (pc := 17) hX (by decide +kernel) hL.2.1.2 (fun μ2 => ?_)
  refine J_aload_n (k0 := 0) (pc := 18) 0 hX (by decide +kernel) rfl rfl ?_
  refine J_gr (pc := 19) hX (by decide +kernel) fl_Mo_7 hL.1 rfl hL.2.1.1 ?_
  refine J_iconst (pc := 22) (n := 1) (v := 1) hX (by decide +kernel) (by decide +kernel) ?_
  refine J_ldA (pc := 23) hX (by decide +kernel) hL.2.1.2 (fun x3 => ?_)
  refine J_bipush (pc := 24) (n := 8) (v := 8) hX (by decide +kernel) (by decide +kernel) ?_
  refine J_iushr (pc := 26) hX (by decide +kernel) ?_
  refine J_iload_n (k0 := 1) (pc := 27) 1 hX (by decide +kernel) rfl rfl ?_
  refine J_irem (pc := 28) hX (by decide +kernel) (fun _ => ?_)
  exact J_iret (pc := 29) hX (by decide +kernel) rfl trivial
set_option maxRecDepth 100000 in
set_option maxHeartbeats 4000000 in
theorem c_Mo_draw {l : Launch} {G : Gx} {y : Ly} {a : Nat} (hL : LyMo y a ) (v1 : Int32) (μ : Mu) : Cn l G ⟨"SaltFiguresModel", "draw", "(I)I"⟩ prog_13_method_15_code 2 (some .int) 1 [.ref (G.1 + a), .int v1] (μ, y) (emy y) rvI tpT (Mo_draw a v1 μ) := cn_of (by decide +kernel) (Nat.le_of_ble_eq_true rfl) (fun _ _ _ => ⟨List.prefix_refl _, trivial⟩) (fun X hX _ => jMo_draw hL hX v1 μ)

def Mo_happens (a : Nat) (v1 : Int32) (μ : Mu) : Option (Int32 × Mu) := gF μ a 5 (fun x1 => (if x1 = 0 then (if v1 ≤ 0 then some (0, μ) else cl (Mo_draw a 1000 μ) (fun x3 μ2 => (if v1 ≤ x3 then some (0, μ2) else some (1, μ2)))) else (if (2 * v1) < 1000 then some (0, μ) else some (1, μ))))
set_option maxRecDepth 100000 in
set_option maxHeartbeats 4000000 in
theorem jMo_happens {X : Cx} {l : Launch} {G : Gx} {y : Ly} {a : Nat} (hL : LyMo y a ) (hX : Ok X l G prog_13_method_77_code 2 (some .boolean) "SaltFiguresModel") (v1 : Int32) (μ : Mu) : J X G 2 2 y (emy y) rvI tpT 0 [(0, .ref (G.1 + a)), (1, .int v1)] [] (μ, y) (Mo_happens a v1 μ) := by
  unfold Mo_happens
  refine J_aload_n (k0 := 0) (pc := 0) 0 hX (by decide +kernel) rfl rfl ?_
  refine J_gF (pc := 1) hX (by decide +kernel) fl_Mo_138 hL.1 rfl (fun x1 => ?_)
  refine J_if_eq (pc := 4) (off := 20) (tgt := 24) hX (by decide +kernel) (by decide +kernel) (fun _ => ?_) (fun _ => ?_)
  · refine J_iload_n (k0 := 1) (pc := 24) 1 hX (by decide +kernel) rfl rfl ?_
    refine J_if_le (pc := 25) (off := 18) (tgt := 43) hX (by decide +kernel) (by decide +kernel) (fun _ => ?_) (fun _ => ?_)
    · refine J_iconst (pc := 43) (n := 0) (v := 0) hX (by decide +kernel) (by decide +kernel) ?_
      exact J_zret (pc := 44) hX (by decide +kernel) rfl (by decide +kernel) trivial
    · refine J_aload_n (k0 := 0) (pc := 28) 0 hX (by decide +kernel) rfl rfl ?_
      refine J_sipush (pc := 29) (n := 1000) (v := 1000) hX (by decide +kernel) (by decide +kernel) ?_
      refine J_cVi (pc := 32) (idx := 370) [.int 1000] hX (by decide +kernel) (mq mt_8 26 (by decide +kernel)) mv_Mo_draw hL.1 rfl rfl (Nat.le_of_ble_eq_true rfl) (Nat.le_of_ble_eq_true rfl) (c_Mo_draw hL 1000 μ) (fun x3 μ2 => ?_)
      refine J_iload_n (k0 := 1) (pc := 35) 1 hX (by decide +kernel) rfl rfl ?_
      refine J_icmp_ge (pc := 36) (off := 7) (tgt := 43) hX (by decide +kernel) (by decide +kernel) (fun _ => ?_) (fun _ => ?_)
      · refine J_iconst (pc := 43) (n := 0) (v := 0) hX (by decide +kernel) (by decide +kernel) ?_
        exact J_zret (pc := 44) hX (by decide +kernel) rfl (by decide +kernel) trivial
      · refine J_iconst (pc := 39) (n := 1) (v := 1) hX (by decide +kernel) (by decide +kernel) ?_
        refine J_goto (pc := 40) (off := 4) (tgt := 44) hX (by decide +kernel) (by decide +kernel) ?_
        exact J_zret (pc := 44) hX (by decide +kernel) rfl (by decide +kernel) trivial
  · refine J_iconst (pc := 7) (n := 2) (v := 2) hX (by decide +kernel) (by decide +kernel) ?_
    refine J_iload_n (k0 := 1) (pc := 8) 1 hX (by decide +kernel) rfl rfl ?_
    refine J_imul (pc := 9) hX (by decide +kernel) ?_
    refine J_sipush (pc := 10) (n := 1000) (v := 1000) hX (by decide +kernel) (by decide +kernel) ?_
    refine J_icmp_lt (pc := 13) (off := 7) (tgt := 20) hX (by decide +kernel) (by decide +kernel) (fun _ => ?_) (fun _ => ?_)
    · refine J_iconst (pc := 20) (n := 0) (v := 0) hX (by decide +kernel) (by decide +kernel) ?_
      refine J_goto (pc := 21) (off := 23) (tgt := 44) hX (by decide +kernel) (by decide +kernel) ?_
      exact J_zret (pc := 44) hX (by decide +kernel) rfl (by decide +kernel) trivial
    · refine J_iconst (pc := 16) (n := 1) (v := 1) hX (by decide +kernel) (by decide +kernel) ?_
      refine J_goto (pc := 17) (off := 27) (tgt := 44) hX (by decide +kernel) (by decide +kernel) ?_
      exact J_zret (pc := 44) hX (by decide +kernel) rfl (by decide +kernel) trivial
set_option maxRecDepth 100000 in
set_option maxHeartbeats 4000000 in
theorem c_Mo_happens {l : Launch} {G : Gx} {y : Ly} {a : Nat} (hL : LyMo y a ) (v1 : Int32) (μ : Mu) : Cn l G ⟨"SaltFiguresModel", "happens", "(I)Z"⟩ prog_13_method_77_code 2 (some .boolean) 2 [.ref (G.1 + a), .int v1] (μ, y) (emy y) rvI tpT (Mo_happens a v1 μ) := cn_of (by decide +kernel) (Nat.le_of_ble_eq_true rfl) (fun _ _ _ => ⟨List.prefix_refl _, trivial⟩) (fun X hX _ => jMo_happens hL hX v1 μ)

def Mo_runsOf (a : Nat) (v1 : Int32) (μ : Mu) : Option (Int32 × Mu) := cl (Mo_asks a v1 μ) (fun _ μ1 => ldA μ1 (a + 19) 10 2 (fun x2 => ldA μ1 (a + 19) 10 1 (fun x3 => ldA μ1 (a + 19) 10 1 (fun x4 => cl (Mo_lawTells a 2 (x2 * (x3 / 100)) x4 μ1) (fun x6 μ5 => some (x6, μ5))))))
set_option maxRecDepth 100000 in
set_option maxHeartbeats 4000000 in
theorem jMo_runsOf {X : Cx} {l : Launch} {G : Gx} {y : Ly} {a : Nat} (hL : LyMo y a ) (hX : Ok X l G prog_13_method_69_code 2 (some .int) "SaltFiguresModel") (v1 : Int32) (μ : Mu) : J X G 2 5 y (emy y) rvI tpT 0 [(0, .ref (G.1 + a)), (1, .int v1)] [] (μ, y) (Mo_runsOf a v1 μ) := by
  unfold Mo_runsOf
  refine J_aload_n (k0 := 0) (pc := 0) 0 hX (by decide +kernel) rfl rfl ?_
  refine J_iload_n (k0 := 1) (pc := 1) 1 hX (by decide +kernel) rfl rfl ?_
  refine J_cVv (pc := 2) (idx := 336) [.int v1] hX (by decide +kernel) (mq mt_7 182 (by decide +kernel)) mv_Mo_asks hL.1 rfl rfl (Nat.le_of_ble_eq_true rfl) (Nat.le_of_ble_eq_true rfl) (c_Mo_asks hL v1 μ) (fun μ1 => ?_)
  refine J_aload_n (k0 := 0) (pc := 5) 0 hX (by decide +kernel) rfl rfl ?_
  refine J_iconst (pc := 6) (n := 2) (v := 2) hX (by decide +kernel) (by decide +kernel) ?_
  refine J_aload_n (k0 := 0) (pc := 7) 0 hX (by decide +kernel) rfl rfl ?_
  refine J_gr (pc := 8) hX (by decide +kernel) fl_Mo_68 hL.1 rfl hL.2.2.2.2.2.2.2.2.2.2.2.2.2.2.2.2.2.2.2.1.1 ?_
  refine J_iconst (pc := 11) (n := 2) (v := 2) hX (by decide +kernel) (by decide +kernel) ?_
  refine J_ldA (pc := 12) hX (by decide +kernel) hL.2.2.2.2.2.2.2.2.2.2.2.2.2.2.2.2.2.2.2.1.2 (fun x2 => ?_)
  refine J_aload_n (k0 := 0) (pc := 13) 0 hX (by decide +kernel) rfl rfl ?_
  refine J_gr (pc := 14) hX (by decide +kernel) fl_Mo_68 hL.1 rfl hL.2.2.2.2.2.2.2.2.2.2.2.2.2.2.2.2.2.2.2.1.1 ?_
  refine J_iconst (pc := 17) (n := 1) (v := 1) hX (by decide +kernel) (by decide +kernel) ?_
  refine J_ldA (pc := 18) hX (by decide +kernel) hL.2.2.2.2.2.2.2.2.2.2.2.2.2.2.2.2.2.2.2.1.2 (fun x3 => ?_)
  refine J_bipush (pc := 19) (n := 100) (v := 100) hX (by decide +kernel) (by decide +kernel) ?_
  refine J_idivK (pc := 21) hX (by decide +kernel) (by decide +kernel) ?_
  refine J_imul (pc := 22) hX (by decide +kernel) ?_
  refine J_aload_n (k0 := 0) (pc := 23) 0 hX (by decide +kernel) rfl rfl ?_
  refine J_gr (pc := 24) hX (by decide +kernel) fl_Mo_68 hL.1 rfl hL.2.2.2.2.2.2.2.2.2.2.2.2.2.2.2.2.2.2.2.1.1 ?_
  refine J_iconst (pc := 27) (n := 1) (v := 1) hX (by decide +kernel) (by decide +kernel) ?_
  refine J_ldA (pc := 28) hX (by decide +kernel) hL.2.2.2.2.2.2.2.2.2.2.2.2.2.2.2.2.2.2.2.1.2 (fun x4 => ?_)
  refine J_cVi (pc := 29) (idx := 339) [.int 2, .int (x2 * (x3 / 100)), .int x4] hX (by decide +kernel) (mq mt_7 194 (by decide +kernel)) mv_Mo_lawTells hL.1 rfl rfl (Nat.le_of_ble_eq_true rfl) (Nat.le_of_ble_eq_true rfl) (c_Mo_lawTells hL 2 (x2 * (x3 / 100)) x4 μ1) (fun x6 μ5 => ?_)
  exact J_iret (pc := 32) hX (by decide +kernel) rfl trivial
set_option maxRecDepth 100000 in
set_option maxHeartbeats 4000000 in
theorem c_Mo_runsOf {l : Launch} {G : Gx} {y : Ly} {a : Nat} (hL : LyMo y a ) (v1 : Int32) (μ : Mu) : Cn l G ⟨"SaltFiguresModel", "runsOf", "(I)I"⟩ prog_13_method_69_code 2 (some .int) 5 [.ref (G.1 + a), .int v1] (μ, y) (emy y) rvI tpT (Mo_runsOf a v1 μ) := cn_of (by decide +kernel) (Nat.le_of_ble_eq_true rfl) (fun _ _ _ => ⟨List.prefix_refl _, trivial⟩) (fun X hX _ => jMo_runsOf hL hX v1 μ)

def Mo_runsOff (a : Nat) (v1 : Int32) (μ : Mu) : Option (Unit × Mu) := cl (Mo_runsOf a v1 μ) (fun x2 μ1 => (if x2 = 0 then some ((), μ1) else ldA μ1 (a + 1) 118 (22 + v1) (fun x3 => stA μ1 (a + 1) 118 (22 + v1) (x3 - x2) (fun μ4 => cl (Mo_notes a 1 v1 x2 μ4) (fun _ μ5 => cl (Mo_besideOf a v1 μ5) (fun x7 μ6 => ldA μ6 (a + 1) 118 4 (fun x8 => stA μ6 (a + 1) 118 4 ((x8 + x2) - (x2 / 2)) (fun μ9 => (if x7 = ((-1)) then ldA μ9 (a + 1) 118 4 (fun x12 => stA μ9 (a + 1) 118 4 (x12 + (x2 / 2)) (fun μ13 => some ((), μ13))) else cl (Mo_gets a x7 (x2 / 2) μ9) (fun x11 μ10 => some ((), μ10)))))))))))
set_option maxRecDepth 100000 in
set_option maxHeartbeats 4000000 in
theorem jMo_runsOff {X : Cx} {l : Launch} {G : Gx} {y : Ly} {a : Nat} (hL : LyMo y a ) (hX : Ok X l G prog_13_method_82_code 4 none "SaltFiguresModel") (v1 : Int32) (μ : Mu) : J X G 4 6 y (emy y) rvV tpT 0 [(0, .ref (G.1 + a)), (1, .int v1)] [] (μ, y) (Mo_runsOff a v1 μ) := by
  unfold Mo_runsOff
  refine J_aload_n (k0 := 0) (pc := 0) 0 hX (by decide +kernel) rfl rfl ?_
  refine J_iload_n (k0 := 1) (pc := 1) 1 hX (by decide +kernel) rfl rfl ?_
  refine J_cVi (pc := 2) (idx := 382) [.int v1] hX (by decide +kernel) (mq mt_8 36 (by decide +kernel)) mv_Mo_runsOf hL.1 rfl rfl (Nat.le_of_ble_eq_true rfl) (Nat.le_of_ble_eq_true rfl) (c_Mo_runsOf hL v1 μ) (fun x2 μ1 => ?_)
  refine J_istore_n (k0 := 2) (pc := 5) [(2, .int x2), (0, .ref (G.1 + a)), (1, .int v1)] hX (by decide +kernel) rfl (by decide) rfl ?_
  refine J_iload_n (k0 := 2) (pc := 6) 0 hX (by decide +kernel) rfl rfl ?_
  refine J_if_ne (pc := 7) (off := 4) (tgt := 11) hX (by decide +kernel) (by decide +kernel) (fun _ => ?_) (fun _ => ?_)
  · refine J_aload_n (k0 := 0) (pc := 11) 1 hX (by decide +kernel) rfl rfl ?_
    refine J_gr (pc := 12) hX (by decide +kernel) fl_Mo_7 hL.1 rfl hL.2.1.1 ?_
    refine J_bipush (pc := 15) (n := 22) (v := 22) hX (by decide +kernel) (by decide +kernel) ?_
    refine J_iload_n (k0 := 1) (pc := 17) 2 hX (by decide +kernel) rfl rfl ?_
    refine J_iadd (pc := 18) hX (by decide +kernel) ?_
    refine J_aload_n (k0 := 0) (pc := 19) 1 hX (by decide +kernel) rfl rfl ?_
    refine J_gr (pc := 20) hX (by decide +kernel) fl_Mo_7 hL.1 rfl hL.2.1.1 ?_
    refine J_bipush (pc := 23) (n := 22) (v := 22) hX (by decide +kernel) (by decide +kernel) ?_
    refine J_iload_n (k0 := 1) (pc := 25) 2 hX (by decide +kernel) rfl rfl ?_
    refine J_iadd (pc := 26) hX (by decide +kernel) ?_
    refine J_ldA (pc := 27) hX (by decide +kernel) hL.2.1.2 (fun x3 => ?_)
    refine J_iload_n (k0 := 2) (pc := 28) 0 hX (by decide +kernel) rfl rfl ?_
    refine J_isub (pc := 29) hX (by decide +kernel) ?_
    refine J_stA (pc := 30) hX (by decide +kernel) hL.2.1.2 (fun μ4 => ?_)
    refine J_aload_n (k0 := 0) (pc := 31) 1 hX (by decide +kernel) rfl rfl ?_
    refine J_iconst (pc := 32) (n := 1) (v := 1) hX (by decide +kernel) (by decide +kernel) ?_
    refine J_iload_n (k0 := 1) (pc := 33) 2 hX (by decide +kernel) rfl rfl ?_
    refine J_iload_n (k0 := 2) (pc := 34) 0 hX (by decide +kernel) rfl rfl ?_
    refine J_cVv (pc := 35) (idx := 351) [.int 1, .int v1, .int x2] hX (by decide +kernel) (mq mt_7 222 (by decide +kernel)) mv_Mo_notes hL.1 rfl rfl (Nat.le_of_ble_eq_true rfl) (Nat.le_of_ble_eq_true rfl) (c_Mo_notes hL 1 v1 x2 μ4) (fun μ5 => ?_)
    refine J_aload_n (k0 := 0) (pc := 38) 1 hX (by decide +kernel) rfl rfl ?_
    refine J_iload_n (k0 := 1) (pc := 39) 2 hX (by decide +kernel) rfl rfl ?_
    refine J_cVi (pc := 40) (idx := 324) [.int v1] hX (by decide +kernel) (mq mt_7 186 (by decide +kernel)) mv_Mo_besideOf hL.1 rfl rfl (Nat.le_of_ble_eq_true rfl) (Nat.le_of_ble_eq_true rfl) (c_Mo_besideOf hL v1 μ5) (fun x7 μ6 => ?_)
    refine J_istore_n (k0 := 3) (pc := 43) [(3, .int x7), (2, .int x2), (0, .ref (G.1 + a)), (1, .int v1)] hX (by decide +kernel) rfl (by decide) rfl ?_
    refine J_aload_n (k0 := 0) (pc := 44) 2 hX (by decide +kernel) rfl rfl ?_
    refine J_gr (pc := 45) hX (by decide +kernel) fl_Mo_7 hL.1 rfl hL.2.1.1 ?_
    refine J_iconst (pc := 48) (n := 4) (v := 4) hX (by decide +kernel) (by decide +kernel) ?_
    refine J_aload_n (k0 := 0) (pc := 49) 2 hX (by decide +kernel) rfl rfl ?_
    refine J_gr (pc := 50) hX (by decide +kernel) fl_Mo_7 hL.1 rfl hL.2.1.1 ?_
    refine J_iconst (pc := 53) (n := 4) (v := 4) hX (by decide +kernel) (by decide +kernel) ?_
    refine J_ldA (pc := 54) hX (by decide +kernel) hL.2.1.2 (fun x8 => ?_)
    refine J_iload_n (k0 := 2) (pc := 55) 1 hX (by decide +kernel) rfl rfl ?_
    refine J_iadd (pc := 56) hX (by decide +kernel) ?_
    refine J_iload_n (k0 := 2) (pc := 57) 1 hX (by decide +kernel) rfl rfl ?_
    refine J_iconst (pc := 58) (n := 2) (v := 2) hX (by decide +kernel) (by decide +kernel) ?_
    refine J_idivK (pc := 59) hX (by decide +kernel) (by decide +kernel) ?_
    refine J_isub (pc := 60) hX (by decide +kernel) ?_
    refine J_stA (pc := 61) hX (by decide +kernel) hL.2.1.2 (fun μ9 => ?_)
    refine J_iload_n (k0 := 3) (pc := 62) 0 hX (by decide +kernel) rfl rfl ?_
    refine J_iconst (pc := 63) (n := -1) (v := (-1)) hX (by decide +kernel) (by decide +kernel) ?_
    refine J_icmp_ne (pc := 64) (off := 22) (tgt := 86) hX (by decide +kernel) (by decide +kernel) (fun _ => ?_) (fun _ => ?_)
    · refine J_aload_n (k0 := 0) (pc := 86) 2 hX (by decide +kernel) rfl rfl ?_
      refine J_iload_n (k0 := 3) (pc := 87) 0 hX (by decide +kernel) rfl rfl ?_
      refine J_iload_n (k0 := 2) (pc := 88) 1 hX (by decide +kernel) rfl rfl ?_
      refine J_iconst (pc := 89) (n := 2) (v := 2) hX (by decide +kernel) (by decide +kernel) ?_
      refine J_idivK (pc := 90) hX (by decide +kernel) (by decide +kernel) ?_
      refine J_cVi (pc := 91) (idx := 348) [.int x7, .int (x2 / 2)] hX (by decide +kernel) (mq mt_7 214 (by decide +kernel)) mv_Mo_gets hL.1 rfl rfl (Nat.le_of_ble_eq_true rfl) (Nat.le_of_ble_eq_true rfl) (c_Mo_gets hL x7 (x2 / 2) μ9) (fun x11 μ10 => ?_)
      refine J_pop (pc := 94) hX (by decide +kernel) rfl ?_
      exact J_vret (pc := 95) hX (by decide +kernel) rfl trivial
    · refine J_aload_n (k0 := 0) (pc := 67) 2 hX (by decide +kernel) rfl rfl ?_
      refine J_gr (pc := 68) hX (by decide +kernel) fl_Mo_7 hL.1 rfl hL.2.1.1 ?_
      refine J_iconst (pc := 71) (n := 4) (v := 4) hX (by decide +kernel) (by decide +kernel) ?_
      refine J_aload_n (k0 := 0) (pc := 72) 2 hX (by decide +kernel) rfl rfl ?_
      refine J_gr (pc := 73) hX (by decide +kernel) fl_Mo_7 hL.1 rfl hL.2.1.1 ?_
      refine J_iconst (pc := 76) (n := 4) (v := 4) hX (by decide +kernel) (by decide +kernel) ?_
      refine J_ldA (pc := 77) hX (by decide +kernel) hL.2.1.2 (fun x12 => ?_)
      refine J_iload_n (k0 := 2) (pc := 78) 1 hX (by decide +kernel) rfl rfl ?_
      refine J_iconst (pc := 79) (n := 2) (v := 2) hX (by decide +kernel) (by decide +kernel) ?_
      refine J_idivK (pc := 80) hX (by decide +kernel) (by decide +kernel) ?_
      refine J_iadd (pc := 81) hX (by decide +kernel) ?_
      refine J_stA (pc := 82) hX (by decide +kernel) hL.2.1.2 (fun μ13 => ?_)
      refine J_goto (pc := 83) (off := 12) (tgt := 95) hX (by decide +kernel) (by decide +kernel) ?_
      exact J_vret (pc := 95) hX (by decide +kernel) rfl trivial
  · exact J_vret (pc := 10) hX (by decide +kernel) rfl trivial
set_option maxRecDepth 100000 in
set_option maxHeartbeats 4000000 in
theorem c_Mo_runsOff {l : Launch} {G : Gx} {y : Ly} {a : Nat} (hL : LyMo y a ) (v1 : Int32) (μ : Mu) : Cn l G ⟨"SaltFiguresModel", "runsOff", "(I)V"⟩ prog_13_method_82_code 4 none 6 [.ref (G.1 + a), .int v1] (μ, y) (emy y) rvV tpT (Mo_runsOff a v1 μ) := cn_of (by decide +kernel) (Nat.le_of_ble_eq_true rfl) (fun _ _ _ => ⟨List.prefix_refl _, trivial⟩) (fun X hX _ => jMo_runsOff hL hX v1 μ)

def Mo_goesBy_128 (a : Nat) (kb94 : Int32 → Mu → Option (Int32 × Mu))  (v1 : Int32) (v2 : Int32)  (μ : Mu) : Option (Int32 × Mu) := kb94 (v2 + 1) μ
def Mo_goesBy_94b (a : Nat)  (kb94 : Int32 → Mu → Option (Int32 × Mu)) (v1 : Int32) (v2 : Int32)  (μ : Mu) : Option (Int32 × Mu) := (if 16 ≤ v2 then ldA μ (a + 1) 118 0 (fun x1 => stA μ (a + 1) 118 0 (x1 + 1) (fun μ2 => some (v1, μ2))) else cl (Mo_whoHas a v2 μ) (fun x4 μ3 => (if x4 = ((-1)) then Mo_goesBy_128 a kb94 v1 v2 μ3 else ldA μ3 (a + 1) 118 (22 + x4) (fun x5 => (if x5 ≤ 0 then Mo_goesBy_128 a kb94 v1 v2 μ3 else cl (Mo_runsOff a x4 μ3) (fun _ μ6 => Mo_goesBy_128 a kb94 v1 v2 μ6))))))
def Mo_goesBy_94 (a : Nat)  (v1 : Int32) (fu : Nat) : Int32 → Mu → Option (Int32 × Mu) := lp (fun kb => Mo_goesBy_94b a  kb v1) (fun _ _ => none) fu
def Mo_goesBy_86 (a : Nat) (kb46 : Int32 → Int32 → Mu → Option (Int32 × Mu))  (v1 : Int32) (v2 : Int32)  (μ : Mu) : Option (Int32 × Mu) := kb46 v1 (v2 + 1) μ
def Mo_goesBy_46b (a : Nat)  (kb46 : Int32 → Int32 → Mu → Option (Int32 × Mu))  (v1 : Int32) (v2 : Int32)  (μ : Mu) : Option (Int32 × Mu) := gF μ a 6 (fun x1 => (if x1 ≤ v2 then Mo_goesBy_94 a v1 FU 0 μ else cl (Mo_isAlive a v2 μ) (fun x3 μ2 => (if x3 = 0 then Mo_goesBy_86 a kb46 v1 v2 μ2 else cl (Mo_spillsOf a v2 μ2) (fun x5 μ4 => cl (Mo_happens a x5 μ4) (fun x7 μ6 => (if x7 = 0 then Mo_goesBy_86 a kb46 v1 v2 μ6 else cl (Mo_isSpilt a v2 μ6) (fun _ μ8 => Mo_goesBy_86 a kb46 (v1 + 1) v2 μ8))))))))
def Mo_goesBy_46 (a : Nat)   (fu : Nat) : Int32 → Int32 → Mu → Option (Int32 × Mu) := lp (fun kb => Mo_goesBy_46b a  kb ) (fun _ _ _ => none) fu
def Mo_goesBy_37 (a : Nat) (kb4 : Int32 → Int32 → Mu → Option (Int32 × Mu))  (v1 : Int32) (v2 : Int32)  (μ : Mu) : Option (Int32 × Mu) := kb4 v1 (v2 + 4) μ
def Mo_goesBy_4b (a : Nat)  (kb4 : Int32 → Int32 → Mu → Option (Int32 × Mu))  (v1 : Int32) (v2 : Int32)  (μ : Mu) : Option (Int32 × Mu) := gF μ a 34 (fun x1 => (if (4 * x1) ≤ v2 then Mo_goesBy_46 a FU v1 0 μ else ldA μ (a + 17) 128 v2 (fun x2 => ldA μ (a + 1) 118 0 (fun x3 => (if x2 = x3 then cl (Mo_comes a v2 μ) (fun x5 μ4 => Mo_goesBy_37 a kb4 (v1 + x5) v2 μ4) else Mo_goesBy_37 a kb4 v1 v2 μ)))))
def Mo_goesBy_4 (a : Nat)   (fu : Nat) : Int32 → Int32 → Mu → Option (Int32 × Mu) := lp (fun kb => Mo_goesBy_4b a  kb ) (fun _ _ _ => none) fu
def Mo_goesBy (a : Nat)  (μ : Mu) : Option (Int32 × Mu) := Mo_goesBy_4 a FU 0 0 μ
set_option maxRecDepth 100000 in
set_option maxHeartbeats 4000000 in
theorem jMo_goesBy_128 {X : Cx} {l : Launch} {G : Gx} {y : Ly} {a : Nat} (hL : LyMo y a ) (hX : Ok X l G prog_13_method_83_code 4 (some .int) "SaltFiguresModel")  (v1 : Int32) (v2 : Int32)  {kb94 : Int32 → Mu → Option (Int32 × Mu)} (hk94 : ∀ (v2 : Int32) (μ : Mu), J X G 4 9 y (emy y) rvI tpT 94 [(0, .ref (G.1 + a)), (1, .int v1), (2, .int v2)] [] (μ, y) (kb94 v2 μ)) (μ : Mu) : J X G 4 9 y (emy y) rvI tpT 128 [(0, .ref (G.1 + a)), (1, .int v1), (2, .int v2)] [] (μ, y) (Mo_goesBy_128 a kb94  v1 v2  μ) := by
  unfold Mo_goesBy_128
  refine J_iinc (pc := 128) (n := 1) 2 [(2, .int (v2 + 1)), (0, .ref (G.1 + a)), (1, .int v1)] hX (by decide +kernel) rfl rfl (by decide) rfl ?_
  refine J_goto (pc := 131) (off := -37) (tgt := 94) hX (by decide +kernel) (by decide +kernel) ?_
  exact J_sub [1, 2, 0] _ rfl (hk94 (v2 + 1) μ)
set_option maxRecDepth 100000 in
set_option maxHeartbeats 4000000 in
theorem jMo_goesBy_94b {X : Cx} {l : Launch} {G : Gx} {y : Ly} {a : Nat} (hL : LyMo y a ) (hX : Ok X l G prog_13_method_83_code 4 (some .int) "SaltFiguresModel") (v1 : Int32)  {kb94 : Int32 → Mu → Option (Int32 × Mu)}  (hk94 : ∀ (v2 : Int32) (μ : Mu), J X G 4 9 y (emy y) rvI tpT 94 [(0, .ref (G.1 + a)), (1, .int v1), (2, .int v2)] [] (μ, y) (kb94 v2 μ)) (v2 : Int32)  (μ : Mu) : J X G 4 9 y (emy y) rvI tpT 94 [(0, .ref (G.1 + a)), (1, .int v1), (2, .int v2)] [] (μ, y) (Mo_goesBy_94b a  kb94 v1 v2  μ) := by
  unfold Mo_goesBy_94b
  refine J_iload_n (k0 := 2) (pc := 94) 2 hX (by decide +kernel) rfl rfl ?_
  refine J_bipush (pc := 95) (n := 16) (v := 16) hX (by decide +kernel) (by decide +kernel) ?_
  refine J_icmp_ge (pc := 97) (off := 37) (tgt := 134) hX (by decide +kernel) (by decide +kernel) (fun _ => ?_) (fun _ => ?_)
  · refine J_aload_n (k0 := 0) (pc := 134) 0 hX (by decide +kernel) rfl rfl ?_
    refine J_gr (pc := 135) hX (by decide +kernel) fl_Mo_7 hL.1 rfl hL.2.1.1 ?_
    refine J_iconst (pc := 138) (n := 0) (v := 0) hX (by decide +kernel) (by decide +kernel) ?_
    refine J_aload_n (k0 := 0) (pc := 139) 0 hX (by decide +kernel) rfl rfl ?_
    refine J_gr (pc := 140) hX (by decide +kernel) fl_Mo_7 hL.1 rfl hL.2.1.1 ?_
    refine J_iconst (pc := 143) (n := 0) (v := 0) hX (by decide +kernel) (by decide +kernel) ?_
    refine J_ldA (pc := 144) hX (by decide +kernel) hL.2.1.2 (fun x1 => ?_)
    refine J_iconst (pc := 145) (n := 1) (v := 1) hX (by decide +kernel) (by decide +kernel) ?_
    refine J_iadd (pc := 146) hX (by decide +kernel) ?_
    refine J_stA (pc := 147) hX (by decide +kernel) hL.2.1.2 (fun μ2 => ?_)
    refine J_iload_n (k0 := 1) (pc := 148) 1 hX (by decide +kernel) rfl rfl ?_
    exact J_iret (pc := 149) hX (by decide +kernel) rfl trivial
  · refine J_aload_n (k0 := 0) (pc := 100) 0 hX (by decide +kernel) rfl rfl ?_
    refine J_iload_n (k0 := 2) (pc := 101) 2 hX (by decide +kernel) rfl rfl ?_
    refine J_cVi (pc := 102) (idx := 151) [.int v2] hX (by decide +kernel) (mq mt_7 150 (by decide +kernel)) mv_Mo_whoHas hL.1 rfl rfl (Nat.le_of_ble_eq_true rfl) (Nat.le_of_ble_eq_true rfl) (c_Mo_whoHas hL v2 μ) (fun x4 μ3 => ?_)
    refine J_istore_n (k0 := 3) (pc := 105) [(3, .int x4), (0, .ref (G.1 + a)), (1, .int v1), (2, .int v2)] hX (by decide +kernel) rfl (by decide) rfl ?_
    refine J_iload_n (k0 := 3) (pc := 106) 0 hX (by decide +kernel) rfl rfl ?_
    refine J_iconst (pc := 107) (n := -1) (v := (-1)) hX (by decide +kernel) (by decide +kernel) ?_
    refine J_icmp_eq (pc := 108) (off := 20) (tgt := 128) hX (by decide +kernel) (by decide +kernel) (fun _ => ?_) (fun _ => ?_)
    · exact J_sub [1, 2, 3] _ rfl (jMo_goesBy_128 hL hX v1 v2 hk94 μ3)
    · refine J_aload_n (k0 := 0) (pc := 111) 1 hX (by decide +kernel) rfl rfl ?_
      refine J_gr (pc := 112) hX (by decide +kernel) fl_Mo_7 hL.1 rfl hL.2.1.1 ?_
      refine J_bipush (pc := 115) (n := 22) (v := 22) hX (by decide +kernel) (by decide +kernel) ?_
      refine J_iload_n (k0 := 3) (pc := 117) 0 hX (by decide +kernel) rfl rfl ?_
      refine J_iadd (pc := 118) hX (by decide +kernel) ?_
      refine J_ldA (pc := 119) hX (by decide +kernel) hL.2.1.2 (fun x5 => ?_)
      refine J_if_le (pc := 120) (off := 8) (tgt := 128) hX (by decide +kernel) (by decide +kernel) (fun _ => ?_) (fun _ => ?_)
      · exact J_sub [1, 2, 3] _ rfl (jMo_goesBy_128 hL hX v1 v2 hk94 μ3)
      · refine J_aload_n (k0 := 0) (pc := 123) 1 hX (by decide +kernel) rfl rfl ?_
        refine J_iload_n (k0 := 3) (pc := 124) 0 hX (by decide +kernel) rfl rfl ?_
        refine J_cVv (pc := 125) (idx := 394) [.int x4] hX (by decide +kernel) (mq mt_8 32 (by decide +kernel)) mv_Mo_runsOff hL.1 rfl rfl (Nat.le_of_ble_eq_true rfl) (Nat.le_of_ble_eq_true rfl) (c_Mo_runsOff hL x4 μ3) (fun μ6 => ?_)
        exact J_sub [1, 2, 3] _ rfl (jMo_goesBy_128 hL hX v1 v2 hk94 μ6)
set_option maxRecDepth 100000 in
set_option maxHeartbeats 4000000 in
theorem jMo_goesBy_94 {X : Cx} {l : Launch} {G : Gx} {y : Ly} {a : Nat} (hL : LyMo y a ) (hX : Ok X l G prog_13_method_83_code 4 (some .int) "SaltFiguresModel") (v1 : Int32)   : ∀ (fu : Nat) (v2 : Int32) (μ : Mu), J X G 4 9 y (emy y) rvI tpT 94 [(0, .ref (G.1 + a)), (1, .int v1), (2, .int v2)] [] (μ, y) (Mo_goesBy_94 a  v1 fu v2 μ) := by
  intro fu
  induction fu with
  | zero => intros; exact J_none
  | succ fu ih => intro v2 μ; exact jMo_goesBy_94b hL hX v1  ih v2 μ
set_option maxRecDepth 100000 in
set_option maxHeartbeats 4000000 in
theorem jMo_goesBy_86 {X : Cx} {l : Launch} {G : Gx} {y : Ly} {a : Nat} (hL : LyMo y a ) (hX : Ok X l G prog_13_method_83_code 4 (some .int) "SaltFiguresModel")  (v1 : Int32) (v2 : Int32)  {kb46 : Int32 → Int32 → Mu → Option (Int32 × Mu)} (hk46 : ∀ (v1 : Int32) (v2 : Int32) (μ : Mu), J X G 4 9 y (emy y) rvI tpT 46 [(0, .ref (G.1 + a)), (1, .int v1), (2, .int v2)] [] (μ, y) (kb46 v1 v2 μ)) (μ : Mu) : J X G 4 9 y (emy y) rvI tpT 86 [(0, .ref (G.1 + a)), (1, .int v1), (2, .int v2)] [] (μ, y) (Mo_goesBy_86 a kb46  v1 v2  μ) := by
  unfold Mo_goesBy_86
  refine J_iinc (pc := 86) (n := 1) 2 [(2, .int (v2 + 1)), (0, .ref (G.1 + a)), (1, .int v1)] hX (by decide +kernel) rfl rfl (by decide) rfl ?_
  refine J_goto (pc := 89) (off := -43) (tgt := 46) hX (by decide +kernel) (by decide +kernel) ?_
  exact J_sub [1, 2, 0] _ rfl (hk46 v1 (v2 + 1) μ)
set_option maxRecDepth 100000 in
set_option maxHeartbeats 4000000 in
theorem jMo_goesBy_46b {X : Cx} {l : Launch} {G : Gx} {y : Ly} {a : Nat} (hL : LyMo y a ) (hX : Ok X l G prog_13_method_83_code 4 (some .int) "SaltFiguresModel")   {kb46 : Int32 → Int32 → Mu → Option (Int32 × Mu)}  (hk46 : ∀ (v1 : Int32) (v2 : Int32) (μ : Mu), J X G 4 9 y (emy y) rvI tpT 46 [(0, .ref (G.1 + a)), (1, .int v1), (2, .int v2)] [] (μ, y) (kb46 v1 v2 μ)) (v1 : Int32) (v2 : Int32)  (μ : Mu) : J X G 4 9 y (emy y) rvI tpT 46 [(0, .ref (G.1 + a)), (1, .int v1), (2, .int v2)] [] (μ, y) (Mo_goesBy_46b a  kb46  v1 v2  μ) := by
  unfold Mo_goesBy_46b
  refine J_iload_n (k0 := 2) (pc := 46) 2 hX (by decide +kernel) rfl rfl ?_
  refine J_aload_n (k0 := 0) (pc := 47) 0 hX (by decide +kernel) rfl rfl ?_
  refine J_gF (pc := 48) hX (by decide +kernel) fl_Mo_144 hL.1 rfl (fun x1 => ?_)
  refine J_icmp_ge (pc := 51) (off := 41) (tgt := 92) hX (by decide +kernel) (by decide +kernel) (fun _ => ?_) (fun _ => ?_)
  · refine J_iconst (pc := 92) (n := 0) (v := 0) hX (by decide +kernel) (by decide +kernel) ?_
    refine J_istore_n (k0 := 2) (pc := 93) [(2, .int 0), (0, .ref (G.1 + a)), (1, .int v1)] hX (by decide +kernel) rfl (by decide) rfl ?_
    exact J_sub [1, 2, 0] _ rfl (jMo_goesBy_94 hL hX v1 FU 0 μ)
  · refine J_aload_n (k0 := 0) (pc := 54) 0 hX (by decide +kernel) rfl rfl ?_
    refine J_iload_n (k0 := 2) (pc := 55) 2 hX (by decide +kernel) rfl rfl ?_
    refine J_cVi (pc := 56) (idx := 162) [.int v2] hX (by decide +kernel) (mq mt_6 238 (by decide +kernel)) mv_Mo_isAlive hL.1 rfl rfl (Nat.le_of_ble_eq_true rfl) (Nat.le_of_ble_eq_true rfl) (c_Mo_isAlive hL v2 μ) (fun x3 μ2 => ?_)
    refine J_if_eq (pc := 59) (off := 27) (tgt := 86) hX (by decide +kernel) (by decide +kernel) (fun _ => ?_) (fun _ => ?_)
    · exact J_sub [0, 1, 2] _ rfl (jMo_goesBy_86 hL hX v1 v2 hk46 μ2)
    · refine J_aload_n (k0 := 0) (pc := 62) 0 hX (by decide +kernel) rfl rfl ?_
      refine J_aload_n (k0 := 0) (pc := 63) 0 hX (by decide +kernel) rfl rfl ?_
      refine J_iload_n (k0 := 2) (pc := 64) 2 hX (by decide +kernel) rfl rfl ?_
      refine J_cVi (pc := 65) (idx := 388) [.int v2] hX (by decide +kernel) (mq mt_8 18 (by decide +kernel)) mv_Mo_spillsOf hL.1 rfl rfl (Nat.le_of_ble_eq_true rfl) (Nat.le_of_ble_eq_true rfl) (c_Mo_spillsOf hL v2 μ2) (fun x5 μ4 => ?_)
      refine J_cVi (pc := 68) (idx := 391) [.int x5] hX (by decide +kernel) (mq mt_8 22 (by decide +kernel)) mv_Mo_happens hL.1 rfl rfl (Nat.le_of_ble_eq_true rfl) (Nat.le_of_ble_eq_true rfl) (c_Mo_happens hL x5 μ4) (fun x7 μ6 => ?_)
      refine J_if_ne (pc := 71) (off := 6) (tgt := 77) hX (by decide +kernel) (by decide +kernel) (fun _ => ?_) (fun _ => ?_)
      · refine J_aload_n (k0 := 0) (pc := 77) 0 hX (by decide +kernel) rfl rfl ?_
        refine J_iload_n (k0 := 2) (pc := 78) 2 hX (by decide +kernel) rfl rfl ?_
        refine J_cVv (pc := 79) (idx := 361) [.int v2] hX (by decide +kernel) (mq mt_7 174 (by decide +kernel)) mv_Mo_isSpilt hL.1 rfl rfl (Nat.le_of_ble_eq_true rfl) (Nat.le_of_ble_eq_true rfl) (c_Mo_isSpilt hL v2 μ6) (fun μ8 => ?_)
        refine J_iload_n (k0 := 1) (pc := 82) 1 hX (by decide +kernel) rfl rfl ?_
        refine J_iconst (pc := 83) (n := 1) (v := 1) hX (by decide +kernel) (by decide +kernel) ?_
        refine J_iadd (pc := 84) hX (by decide +kernel) ?_
        refine J_istore_n (k0 := 1) (pc := 85) [(1, .int (v1 + 1)), (0, .ref (G.1 + a)), (2, .int v2)] hX (by decide +kernel) rfl (by decide) rfl ?_
        exact J_sub [1, 0, 2] _ rfl (jMo_goesBy_86 hL hX (v1 + 1) v2 hk46 μ8)
      · refine J_goto (pc := 74) (off := 12) (tgt := 86) hX (by decide +kernel) (by decide +kernel) ?_
        exact J_sub [0, 1, 2] _ rfl (jMo_goesBy_86 hL hX v1 v2 hk46 μ6)
set_option maxRecDepth 100000 in
set_option maxHeartbeats 4000000 in
theorem jMo_goesBy_46 {X : Cx} {l : Launch} {G : Gx} {y : Ly} {a : Nat} (hL : LyMo y a ) (hX : Ok X l G prog_13_method_83_code 4 (some .int) "SaltFiguresModel")    : ∀ (fu : Nat) (v1 : Int32) (v2 : Int32) (μ : Mu), J X G 4 9 y (emy y) rvI tpT 46 [(0, .ref (G.1 + a)), (1, .int v1), (2, .int v2)] [] (μ, y) (Mo_goesBy_46 a   fu v1 v2 μ) := by
  intro fu
  induction fu with
  | zero => intros; exact J_none
  | succ fu ih => intro v1 v2 μ; exact jMo_goesBy_46b hL hX   ih v1 v2 μ
set_option maxRecDepth 100000 in
set_option maxHeartbeats 4000000 in
theorem jMo_goesBy_37 {X : Cx} {l : Launch} {G : Gx} {y : Ly} {a : Nat} (hL : LyMo y a ) (hX : Ok X l G prog_13_method_83_code 4 (some .int) "SaltFiguresModel")  (v1 : Int32) (v2 : Int32)  {kb4 : Int32 → Int32 → Mu → Option (Int32 × Mu)} (hk4 : ∀ (v1 : Int32) (v2 : Int32) (μ : Mu), J X G 4 9 y (emy y) rvI tpT 4 [(0, .ref (G.1 + a)), (1, .int v1), (2, .int v2)] [] (μ, y) (kb4 v1 v2 μ)) (μ : Mu) : J X G 4 9 y (emy y) rvI tpT 37 [(0, .ref (G.1 + a)), (1, .int v1), (2, .int v2)] [] (μ, y) (Mo_goesBy_37 a kb4  v1 v2  μ) := by
  unfold Mo_goesBy_37
  refine J_iload_n (k0 := 2) (pc := 37) 2 hX (by decide +kernel) rfl rfl ?_
  refine J_iconst (pc := 38) (n := 4) (v := 4) hX (by decide +kernel) (by decide +kernel) ?_
  refine J_iadd (pc := 39) hX (by decide +kernel) ?_
  refine J_istore_n (k0 := 2) (pc := 40) [(2, .int (v2 + 4)), (0, .ref (G.1 + a)), (1, .int v1)] hX (by decide +kernel) rfl (by decide) rfl ?_
  refine J_goto (pc := 41) (off := -37) (tgt := 4) hX (by decide +kernel) (by decide +kernel) ?_
  exact J_sub [1, 2, 0] _ rfl (hk4 v1 (v2 + 4) μ)
set_option maxRecDepth 100000 in
set_option maxHeartbeats 4000000 in
theorem jMo_goesBy_4b {X : Cx} {l : Launch} {G : Gx} {y : Ly} {a : Nat} (hL : LyMo y a ) (hX : Ok X l G prog_13_method_83_code 4 (some .int) "SaltFiguresModel")   {kb4 : Int32 → Int32 → Mu → Option (Int32 × Mu)}  (hk4 : ∀ (v1 : Int32) (v2 : Int32) (μ : Mu), J X G 4 9 y (emy y) rvI tpT 4 [(0, .ref (G.1 + a)), (1, .int v1), (2, .int v2)] [] (μ, y) (kb4 v1 v2 μ)) (v1 : Int32) (v2 : Int32)  (μ : Mu) : J X G 4 9 y (emy y) rvI tpT 4 [(0, .ref (G.1 + a)), (1, .int v1), (2, .int v2)] [] (μ, y) (Mo_goesBy_4b a  kb4  v1 v2  μ) := by
  unfold Mo_goesBy_4b
  refine J_iload_n (k0 := 2) (pc := 4) 2 hX (by decide +kernel) rfl rfl ?_
  refine J_iconst (pc := 5) (n := 4) (v := 4) hX (by decide +kernel) (by decide +kernel) ?_
  refine J_aload_n (k0 := 0) (pc := 6) 0 hX (by decide +kernel) rfl rfl ?_
  refine J_gF (pc := 7) hX (by decide +kernel) fl_Mo_303 hL.1 rfl (fun x1 => ?_)
  refine J_imul (pc := 10) hX (by decide +kernel) ?_
  refine J_icmp_ge (pc := 11) (off := 33) (tgt := 44) hX (by decide +kernel) (by decide +kernel) (fun _ => ?_) (fun _ => ?_)
  · refine J_iconst (pc := 44) (n := 0) (v := 0) hX (by decide +kernel) (by decide +kernel) ?_
    refine J_istore_n (k0 := 2) (pc := 45) [(2, .int 0), (0, .ref (G.1 + a)), (1, .int v1)] hX (by decide +kernel) rfl (by decide) rfl ?_
    exact J_sub [1, 2, 0] _ rfl (jMo_goesBy_46 hL hX FU v1 0 μ)
  · refine J_aload_n (k0 := 0) (pc := 14) 0 hX (by decide +kernel) rfl rfl ?_
    refine J_gr (pc := 15) hX (by decide +kernel) fl_Mo_62 hL.1 rfl hL.2.2.2.2.2.2.2.2.2.2.2.2.2.2.2.2.2.1.1 ?_
    refine J_iload_n (k0 := 2) (pc := 18) 2 hX (by decide +kernel) rfl rfl ?_
    refine J_ldA (pc := 19) hX (by decide +kernel) hL.2.2.2.2.2.2.2.2.2.2.2.2.2.2.2.2.2.1.2 (fun x2 => ?_)
    refine J_aload_n (k0 := 0) (pc := 20) 0 hX (by decide +kernel) rfl rfl ?_
    refine J_gr (pc := 21) hX (by decide +kernel) fl_Mo_7 hL.1 rfl hL.2.1.1 ?_
    refine J_iconst (pc := 24) (n := 0) (v := 0) hX (by decide +kernel) (by decide +kernel) ?_
    refine J_ldA (pc := 25) hX (by decide +kernel) hL.2.1.2 (fun x3 => ?_)
    refine J_icmp_ne (pc := 26) (off := 11) (tgt := 37) hX (by decide +kernel) (by decide +kernel) (fun _ => ?_) (fun _ => ?_)
    · exact J_sub [0, 1, 2] _ rfl (jMo_goesBy_37 hL hX v1 v2 hk4 μ)
    · refine J_iload_n (k0 := 1) (pc := 29) 1 hX (by decide +kernel) rfl rfl ?_
      refine J_aload_n (k0 := 0) (pc := 30) 0 hX (by decide +kernel) rfl rfl ?_
      refine J_iload_n (k0 := 2) (pc := 31) 2 hX (by decide +kernel) rfl rfl ?_
      refine J_cVi (pc := 32) (idx := 385) [.int v2] hX (by decide +kernel) (mq mt_8 2 (by decide +kernel)) mv_Mo_comes hL.1 rfl rfl (Nat.le_of_ble_eq_true rfl) (Nat.le_of_ble_eq_true rfl) (c_Mo_comes hL v2 μ) (fun x5 μ4 => ?_)
      refine J_iadd (pc := 35) hX (by decide +kernel) ?_
      refine J_istore_n (k0 := 1) (pc := 36) [(1, .int (v1 + x5)), (0, .ref (G.1 + a)), (2, .int v2)] hX (by decide +kernel) rfl (by decide) rfl ?_
      exact J_sub [1, 0, 2] _ rfl (jMo_goesBy_37 hL hX (v1 + x5) v2 hk4 μ4)
set_option maxRecDepth 100000 in
set_option maxHeartbeats 4000000 in
theorem jMo_goesBy_4 {X : Cx} {l : Launch} {G : Gx} {y : Ly} {a : Nat} (hL : LyMo y a ) (hX : Ok X l G prog_13_method_83_code 4 (some .int) "SaltFiguresModel")    : ∀ (fu : Nat) (v1 : Int32) (v2 : Int32) (μ : Mu), J X G 4 9 y (emy y) rvI tpT 4 [(0, .ref (G.1 + a)), (1, .int v1), (2, .int v2)] [] (μ, y) (Mo_goesBy_4 a   fu v1 v2 μ) := by
  intro fu
  induction fu with
  | zero => intros; exact J_none
  | succ fu ih => intro v1 v2 μ; exact jMo_goesBy_4b hL hX   ih v1 v2 μ
set_option maxRecDepth 100000 in
set_option maxHeartbeats 4000000 in
theorem jMo_goesBy {X : Cx} {l : Launch} {G : Gx} {y : Ly} {a : Nat} (hL : LyMo y a ) (hX : Ok X l G prog_13_method_83_code 4 (some .int) "SaltFiguresModel")  (μ : Mu) : J X G 4 9 y (emy y) rvI tpT 0 [(0, .ref (G.1 + a))] [] (μ, y) (Mo_goesBy a  μ) := by
  unfold Mo_goesBy
  refine J_iconst (pc := 0) (n := 0) (v := 0) hX (by decide +kernel) (by decide +kernel) ?_
  refine J_istore_n (k0 := 1) (pc := 1) [(1, .int 0), (0, .ref (G.1 + a))] hX (by decide +kernel) rfl (by decide) rfl ?_
  refine J_iconst (pc := 2) (n := 0) (v := 0) hX (by decide +kernel) (by decide +kernel) ?_
  refine J_istore_n (k0 := 2) (pc := 3) [(2, .int 0), (1, .int 0), (0, .ref (G.1 + a))] hX (by decide +kernel) rfl (by decide) rfl ?_
  exact J_sub [2, 1, 0] _ rfl (jMo_goesBy_4 hL hX FU 0 0 μ)
set_option maxRecDepth 100000 in
set_option maxHeartbeats 4000000 in
theorem c_Mo_goesBy {l : Launch} {G : Gx} {y : Ly} {a : Nat} (hL : LyMo y a )  (μ : Mu) : Cn l G ⟨"SaltFiguresModel", "goesBy", "()I"⟩ prog_13_method_83_code 4 (some .int) 9 [.ref (G.1 + a)] (μ, y) (emy y) rvI tpT (Mo_goesBy a  μ) := cn_of (by decide +kernel) (Nat.le_of_ble_eq_true rfl) (fun _ _ _ => ⟨List.prefix_refl _, trivial⟩) (fun X hX _ => jMo_goesBy hL hX  μ)
