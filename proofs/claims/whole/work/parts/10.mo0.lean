/-! THE REFERENCE: models and their rows (by program) -/
def Mo_isPerson (a : Nat) (v1 : Int32) (μ : Mu) : Option (Int32 × Mu) := (if v1 < 0 then some (0, μ) else gF μ a 6 (fun x1 => (if x1 ≤ v1 then some (0, μ) else some (1, μ))))
set_option maxRecDepth 100000 in
set_option maxHeartbeats 4000000 in
theorem jMo_isPerson {X : Cx} {l : Launch} {G : Gx} {y : Ly} {a : Nat} (hL : LyMo y a ) (hX : Ok X l G prog_13_method_16_code 2 (some .boolean) "SaltFiguresModel") (v1 : Int32) (μ : Mu) : J X G 2 1 y (emy y) rvI tpT 0 [(0, .ref (G.1 + a)), (1, .int v1)] [] (μ, y) (Mo_isPerson a v1 μ) := by
  unfold Mo_isPerson
  refine J_iload_n (k0 := 1) (pc := 0) 1 hX (by decide +kernel) rfl rfl ?_
  refine J_if_lt (pc := 1) (off := 15) (tgt := 16) hX (by decide +kernel) (by decide +kernel) (fun _ => ?_) (fun _ => ?_)
  · refine J_iconst (pc := 16) (n := 0) (v := 0) hX (by decide +kernel) (by decide +kernel) ?_
    exact J_zret (pc := 17) hX (by decide +kernel) rfl (by decide +kernel) trivial
  · refine J_iload_n (k0 := 1) (pc := 4) 1 hX (by decide +kernel) rfl rfl ?_
    refine J_aload_n (k0 := 0) (pc := 5) 0 hX (by decide +kernel) rfl rfl ?_
    refine J_gF (pc := 6) hX (by decide +kernel) fl_Mo_144 hL.1 rfl (fun x1 => ?_)
    refine J_icmp_ge (pc := 9) (off := 7) (tgt := 16) hX (by decide +kernel) (by decide +kernel) (fun _ => ?_) (fun _ => ?_)
    · refine J_iconst (pc := 16) (n := 0) (v := 0) hX (by decide +kernel) (by decide +kernel) ?_
      exact J_zret (pc := 17) hX (by decide +kernel) rfl (by decide +kernel) trivial
    · refine J_iconst (pc := 12) (n := 1) (v := 1) hX (by decide +kernel) (by decide +kernel) ?_
      refine J_goto (pc := 13) (off := 4) (tgt := 17) hX (by decide +kernel) (by decide +kernel) ?_
      exact J_zret (pc := 17) hX (by decide +kernel) rfl (by decide +kernel) trivial
set_option maxRecDepth 100000 in
set_option maxHeartbeats 4000000 in
theorem c_Mo_isPerson {l : Launch} {G : Gx} {y : Ly} {a : Nat} (hL : LyMo y a ) (v1 : Int32) (μ : Mu) : Cn l G ⟨"SaltFiguresModel", "isPerson", "(I)Z"⟩ prog_13_method_16_code 2 (some .boolean) 1 [.ref (G.1 + a), .int v1] (μ, y) (emy y) rvI tpT (Mo_isPerson a v1 μ) := cn_of (by decide +kernel) (Nat.le_of_ble_eq_true rfl) (fun _ _ _ => ⟨List.prefix_refl _, trivial⟩) (fun X hX _ => jMo_isPerson hL hX v1 μ)

def Mo_isAlive (a : Nat) (v1 : Int32) (μ : Mu) : Option (Int32 × Mu) := ldA μ (a + 1) 118 (86 + v1) (fun x1 => (if x1 = 0 then some (1, μ) else some (0, μ)))
set_option maxRecDepth 100000 in
set_option maxHeartbeats 4000000 in
theorem jMo_isAlive {X : Cx} {l : Launch} {G : Gx} {y : Ly} {a : Nat} (hL : LyMo y a ) (hX : Ok X l G prog_13_method_17_code 2 (some .boolean) "SaltFiguresModel") (v1 : Int32) (μ : Mu) : J X G 2 1 y (emy y) rvI tpT 0 [(0, .ref (G.1 + a)), (1, .int v1)] [] (μ, y) (Mo_isAlive a v1 μ) := by
  unfold Mo_isAlive
  refine J_aload_n (k0 := 0) (pc := 0) 0 hX (by decide +kernel) rfl rfl ?_
  refine J_gr (pc := 1) hX (by decide +kernel) fl_Mo_7 hL.1 rfl hL.2.1.1 ?_
  refine J_bipush (pc := 4) (n := 86) (v := 86) hX (by decide +kernel) (by decide +kernel) ?_
  refine J_iload_n (k0 := 1) (pc := 6) 1 hX (by decide +kernel) rfl rfl ?_
  refine J_iadd (pc := 7) hX (by decide +kernel) ?_
  refine J_ldA (pc := 8) hX (by decide +kernel) hL.2.1.2 (fun x1 => ?_)
  refine J_if_ne (pc := 9) (off := 7) (tgt := 16) hX (by decide +kernel) (by decide +kernel) (fun _ => ?_) (fun _ => ?_)
  · refine J_iconst (pc := 16) (n := 0) (v := 0) hX (by decide +kernel) (by decide +kernel) ?_
    exact J_zret (pc := 17) hX (by decide +kernel) rfl (by decide +kernel) trivial
  · refine J_iconst (pc := 12) (n := 1) (v := 1) hX (by decide +kernel) (by decide +kernel) ?_
    refine J_goto (pc := 13) (off := 4) (tgt := 17) hX (by decide +kernel) (by decide +kernel) ?_
    exact J_zret (pc := 17) hX (by decide +kernel) rfl (by decide +kernel) trivial
set_option maxRecDepth 100000 in
set_option maxHeartbeats 4000000 in
theorem c_Mo_isAlive {l : Launch} {G : Gx} {y : Ly} {a : Nat} (hL : LyMo y a ) (v1 : Int32) (μ : Mu) : Cn l G ⟨"SaltFiguresModel", "isAlive", "(I)Z"⟩ prog_13_method_17_code 2 (some .boolean) 1 [.ref (G.1 + a), .int v1] (μ, y) (emy y) rvI tpT (Mo_isAlive a v1 μ) := cn_of (by decide +kernel) (Nat.le_of_ble_eq_true rfl) (fun _ _ _ => ⟨List.prefix_refl _, trivial⟩) (fun X hX _ => jMo_isAlive hL hX v1 μ)

def Mo_seatOf (a : Nat) (v1 : Int32) (μ : Mu) : Option (Int32 × Mu) := ldA μ (a + 1) 118 (102 + v1) (fun x1 => some (x1 - 1, μ))
set_option maxRecDepth 100000 in
set_option maxHeartbeats 4000000 in
theorem jMo_seatOf {X : Cx} {l : Launch} {G : Gx} {y : Ly} {a : Nat} (hL : LyMo y a ) (hX : Ok X l G prog_13_method_18_code 2 (some .int) "SaltFiguresModel") (v1 : Int32) (μ : Mu) : J X G 2 1 y (emy y) rvI tpT 0 [(0, .ref (G.1 + a)), (1, .int v1)] [] (μ, y) (Mo_seatOf a v1 μ) := by
  unfold Mo_seatOf
  refine J_aload_n (k0 := 0) (pc := 0) 0 hX (by decide +kernel) rfl rfl ?_
  refine J_gr (pc := 1) hX (by decide +kernel) fl_Mo_7 hL.1 rfl hL.2.1.1 ?_
  refine J_bipush (pc := 4) (n := 102) (v := 102) hX (by decide +kernel) (by decide +kernel) ?_
  refine J_iload_n (k0 := 1) (pc := 6) 1 hX (by decide +kernel) rfl rfl ?_
  refine J_iadd (pc := 7) hX (by decide +kernel) ?_
  refine J_ldA (pc := 8) hX (by decide +kernel) hL.2.1.2 (fun x1 => ?_)
  refine J_iconst (pc := 9) (n := 1) (v := 1) hX (by decide +kernel) (by decide +kernel) ?_
  refine J_isub (pc := 10) hX (by decide +kernel) ?_
  exact J_iret (pc := 11) hX (by decide +kernel) rfl trivial
set_option maxRecDepth 100000 in
set_option maxHeartbeats 4000000 in
theorem c_Mo_seatOf {l : Launch} {G : Gx} {y : Ly} {a : Nat} (hL : LyMo y a ) (v1 : Int32) (μ : Mu) : Cn l G ⟨"SaltFiguresModel", "seatOf", "(I)I"⟩ prog_13_method_18_code 2 (some .int) 1 [.ref (G.1 + a), .int v1] (μ, y) (emy y) rvI tpT (Mo_seatOf a v1 μ) := cn_of (by decide +kernel) (Nat.le_of_ble_eq_true rfl) (fun _ _ _ => ⟨List.prefix_refl _, trivial⟩) (fun X hX _ => jMo_seatOf hL hX v1 μ)

def Mo_isIn (a : Nat) (v1 : Int32) (v2 : Int32) (v3 : Int32) (μ : Mu) : Option (Int32 × Mu) := (if v1 < v2 then some (0, μ) else (if v3 < v1 then some (0, μ) else some (1, μ)))
set_option maxRecDepth 100000 in
set_option maxHeartbeats 4000000 in
theorem jMo_isIn {X : Cx} {l : Launch} {G : Gx} {y : Ly} {a : Nat} (hL : LyMo y a ) (hX : Ok X l G prog_13_method_3_code 4 (some .boolean) "SaltFiguresModel") (v1 : Int32) (v2 : Int32) (v3 : Int32) (μ : Mu) : J X G 4 1 y (emy y) rvI tpT 0 [(0, .ref (G.1 + a)), (1, .int v1), (2, .int v2), (3, .int v3)] [] (μ, y) (Mo_isIn a v1 v2 v3 μ) := by
  unfold Mo_isIn
  refine J_iload_n (k0 := 1) (pc := 0) 1 hX (by decide +kernel) rfl rfl ?_
  refine J_iload_n (k0 := 2) (pc := 1) 2 hX (by decide +kernel) rfl rfl ?_
  refine J_icmp_lt (pc := 2) (off := 12) (tgt := 14) hX (by decide +kernel) (by decide +kernel) (fun _ => ?_) (fun _ => ?_)
  · refine J_iconst (pc := 14) (n := 0) (v := 0) hX (by decide +kernel) (by decide +kernel) ?_
    exact J_zret (pc := 15) hX (by decide +kernel) rfl (by decide +kernel) trivial
  · refine J_iload_n (k0 := 1) (pc := 5) 1 hX (by decide +kernel) rfl rfl ?_
    refine J_iload_n (k0 := 3) (pc := 6) 3 hX (by decide +kernel) rfl rfl ?_
    refine J_icmp_gt (pc := 7) (off := 7) (tgt := 14) hX (by decide +kernel) (by decide +kernel) (fun _ => ?_) (fun _ => ?_)
    · refine J_iconst (pc := 14) (n := 0) (v := 0) hX (by decide +kernel) (by decide +kernel) ?_
      exact J_zret (pc := 15) hX (by decide +kernel) rfl (by decide +kernel) trivial
    · refine J_iconst (pc := 10) (n := 1) (v := 1) hX (by decide +kernel) (by decide +kernel) ?_
      refine J_goto (pc := 11) (off := 4) (tgt := 15) hX (by decide +kernel) (by decide +kernel) ?_
      exact J_zret (pc := 15) hX (by decide +kernel) rfl (by decide +kernel) trivial
set_option maxRecDepth 100000 in
set_option maxHeartbeats 4000000 in
theorem c_Mo_isIn {l : Launch} {G : Gx} {y : Ly} {a : Nat} (hL : LyMo y a ) (v1 : Int32) (v2 : Int32) (v3 : Int32) (μ : Mu) : Cn l G ⟨"SaltFiguresModel", "isIn", "(III)Z"⟩ prog_13_method_3_code 4 (some .boolean) 1 [.ref (G.1 + a), .int v1, .int v2, .int v3] (μ, y) (emy y) rvI tpT (Mo_isIn a v1 v2 v3 μ) := cn_of (by decide +kernel) (Nat.le_of_ble_eq_true rfl) (fun _ _ _ => ⟨List.prefix_refl _, trivial⟩) (fun X hX _ => jMo_isIn hL hX v1 v2 v3 μ)

def Mo_whoHas_2b (a : Nat)  (kb2 : Int32 → Mu → Option (Int32 × Mu)) (v1 : Int32) (v2 : Int32)  (μ : Mu) : Option (Int32 × Mu) := gF μ a 6 (fun x1 => (if x1 ≤ v2 then some ((-1), μ) else cl (Mo_seatOf a v2 μ) (fun x3 μ2 => (if x3 = v1 then some (v2, μ2) else kb2 (v2 + 1) μ2))))
def Mo_whoHas_2 (a : Nat)  (v1 : Int32) (n0 : Nat) : Int32 → Mu → Option (Int32 × Mu) := lp (fun kb => Mo_whoHas_2b a  kb v1) (fun _ _ => none) n0
def Mo_whoHas (a : Nat) (v1 : Int32) (μ : Mu) : Option (Int32 × Mu) := Mo_whoHas_2 a v1 FU 0 μ
set_option maxRecDepth 100000 in
set_option maxHeartbeats 4000000 in
theorem jMo_whoHas_2b {X : Cx} {l : Launch} {G : Gx} {y : Ly} {a : Nat} (hL : LyMo y a ) (hX : Ok X l G prog_13_method_19_code 3 (some .int) "SaltFiguresModel") (v1 : Int32)  {kb2 : Int32 → Mu → Option (Int32 × Mu)}  (hk2 : ∀ (v2 : Int32) (μ : Mu), J X G 3 2 y (emy y) rvI tpT 2 [(0, .ref (G.1 + a)), (1, .int v1), (2, .int v2)] [] (μ, y) (kb2 v2 μ)) (v2 : Int32)  (μ : Mu) : J X G 3 2 y (emy y) rvI tpT 2 [(0, .ref (G.1 + a)), (1, .int v1), (2, .int v2)] [] (μ, y) (Mo_whoHas_2b a  kb2 v1 v2  μ) := by
  unfold Mo_whoHas_2b
  refine J_iload_n (k0 := 2) (pc := 2) 2 hX (by decide +kernel) rfl rfl ?_
  refine J_aload_n (k0 := 0) (pc := 3) 0 hX (by decide +kernel) rfl rfl ?_
  refine J_gF (pc := 4) hX (by decide +kernel) fl_Mo_144 hL.1 rfl (fun x1 => ?_)
  refine J_icmp_ge (pc := 7) (off := 20) (tgt := 27) hX (by decide +kernel) (by decide +kernel) (fun _ => ?_) (fun _ => ?_)
  · refine J_iconst (pc := 27) (n := -1) (v := (-1)) hX (by decide +kernel) (by decide +kernel) ?_
    exact J_iret (pc := 28) hX (by decide +kernel) rfl trivial
  · refine J_aload_n (k0 := 0) (pc := 10) 0 hX (by decide +kernel) rfl rfl ?_
    refine J_iload_n (k0 := 2) (pc := 11) 2 hX (by decide +kernel) rfl rfl ?_
    refine J_cVi (pc := 12) (idx := 147) [.int v2] hX (by decide +kernel) (mq mt_7 154 (by decide +kernel)) mv_Mo_seatOf hL.1 rfl rfl (Nat.le_of_ble_eq_true rfl) (Nat.le_of_ble_eq_true rfl) (c_Mo_seatOf hL v2 μ) (fun x3 μ2 => ?_)
    refine J_iload_n (k0 := 1) (pc := 15) 1 hX (by decide +kernel) rfl rfl ?_
    refine J_icmp_ne (pc := 16) (off := 5) (tgt := 21) hX (by decide +kernel) (by decide +kernel) (fun _ => ?_) (fun _ => ?_)
    · refine J_iinc (pc := 21) (n := 1) 2 [(2, .int (v2 + 1)), (0, .ref (G.1 + a)), (1, .int v1)] hX (by decide +kernel) rfl rfl (by decide) rfl ?_
      refine J_goto (pc := 24) (off := -22) (tgt := 2) hX (by decide +kernel) (by decide +kernel) ?_
      exact J_sub [1, 2, 0] _ rfl (hk2 (v2 + 1) μ2)
    · refine J_iload_n (k0 := 2) (pc := 19) 2 hX (by decide +kernel) rfl rfl ?_
      exact J_iret (pc := 20) hX (by decide +kernel) rfl trivial
set_option maxRecDepth 100000 in
set_option maxHeartbeats 4000000 in
theorem jMo_whoHas_2 {X : Cx} {l : Launch} {G : Gx} {y : Ly} {a : Nat} (hL : LyMo y a ) (hX : Ok X l G prog_13_method_19_code 3 (some .int) "SaltFiguresModel") (v1 : Int32)   : ∀ (n0 : Nat) (v2 : Int32) (μ : Mu), J X G 3 2 y (emy y) rvI tpT 2 [(0, .ref (G.1 + a)), (1, .int v1), (2, .int v2)] [] (μ, y) (Mo_whoHas_2 a  v1 n0 v2 μ) := by
  intro n0
  induction n0 with
  | zero => intros; exact J_none
  | succ n0 ih => intro v2 μ; exact jMo_whoHas_2b hL hX v1  ih v2 μ
set_option maxRecDepth 100000 in
set_option maxHeartbeats 4000000 in
theorem jMo_whoHas {X : Cx} {l : Launch} {G : Gx} {y : Ly} {a : Nat} (hL : LyMo y a ) (hX : Ok X l G prog_13_method_19_code 3 (some .int) "SaltFiguresModel") (v1 : Int32) (μ : Mu) : J X G 3 2 y (emy y) rvI tpT 0 [(0, .ref (G.1 + a)), (1, .int v1)] [] (μ, y) (Mo_whoHas a v1 μ) := by
  unfold Mo_whoHas
  refine J_iconst (pc := 0) (n := 0) (v := 0) hX (by decide +kernel) (by decide +kernel) ?_
  refine J_istore_n (k0 := 2) (pc := 1) [(2, .int 0), (0, .ref (G.1 + a)), (1, .int v1)] hX (by decide +kernel) rfl (by decide) rfl ?_
  exact J_sub [1, 2, 0] _ rfl (jMo_whoHas_2 hL hX v1 FU 0 μ)
set_option maxRecDepth 100000 in
set_option maxHeartbeats 4000000 in
theorem c_Mo_whoHas {l : Launch} {G : Gx} {y : Ly} {a : Nat} (hL : LyMo y a ) (v1 : Int32) (μ : Mu) : Cn l G ⟨"SaltFiguresModel", "whoHas", "(I)I"⟩ prog_13_method_19_code 3 (some .int) 2 [.ref (G.1 + a), .int v1] (μ, y) (emy y) rvI tpT (Mo_whoHas a v1 μ) := cn_of (by decide +kernel) (Nat.le_of_ble_eq_true rfl) (fun _ _ _ => ⟨List.prefix_refl _, trivial⟩) (fun X hX _ => jMo_whoHas hL hX v1 μ)

def Mo_canAct_104 (a : Nat)     (μ : Mu) : Option (Int32 × Mu) := some (1, μ)
def Mo_canAct_95 (a : Nat)   (v1 : Int32)  (μ : Mu) : Option (Int32 × Mu) := (if v1 = 0 then Mo_canAct_104 a μ else (if v1 = 4 then Mo_canAct_104 a μ else some (0, μ)))
def Mo_canAct (a : Nat) (v1 : Int32) (v2 : Int32) (v3 : Int32) (μ : Mu) : Option (Int32 × Mu) := cl (Mo_isPerson a v2 μ) (fun x2 μ1 => (if x2 = 0 then some (0, μ1) else cl (Mo_isAlive a v2 μ1) (fun x4 μ3 => (if x4 = 0 then some (0, μ3) else (if v1 = 1 then cl (Mo_seatOf a v2 μ3) (fun x9 μ8 => (if x9 = ((-1)) then cl (Mo_isIn a v3 0 15 μ8) (fun x11 μ10 => (if x11 = 0 then some (0, μ10) else cl (Mo_whoHas a v3 μ10) (fun x13 μ12 => (if x13 = ((-1)) then some (1, μ12) else some (0, μ12))))) else some (0, μ8))) else (if v1 = 2 then cl (Mo_seatOf a v2 μ3) (fun x7 μ6 => (if x7 = ((-1)) then some (0, μ6) else some (1, μ6))) else (if v1 = 3 then ldA μ3 (a + 1) 118 (22 + v2) (fun x5 => (if 0 < x5 then Mo_canAct_104 a μ3 else Mo_canAct_95 a v1 μ3)) else Mo_canAct_95 a v1 μ3)))))))
set_option maxRecDepth 100000 in
set_option maxHeartbeats 4000000 in
theorem jMo_canAct_104 {X : Cx} {l : Launch} {G : Gx} {y : Ly} {a : Nat} (hL : LyMo y a ) (hX : Ok X l G prog_13_method_75_code 4 (some .boolean) "SaltFiguresModel")      (μ : Mu) : J X G 4 3 y (emy y) rvI tpT 104 [] [] (μ, y) (Mo_canAct_104 a     μ) := by
  unfold Mo_canAct_104
  refine J_iconst (pc := 104) (n := 1) (v := 1) hX (by decide +kernel) (by decide +kernel) ?_
  refine J_goto (pc := 105) (off := 4) (tgt := 109) hX (by decide +kernel) (by decide +kernel) ?_
  exact J_zret (pc := 109) hX (by decide +kernel) rfl (by decide +kernel) trivial
set_option maxRecDepth 100000 in
set_option maxHeartbeats 4000000 in
theorem jMo_canAct_95 {X : Cx} {l : Launch} {G : Gx} {y : Ly} {a : Nat} (hL : LyMo y a ) (hX : Ok X l G prog_13_method_75_code 4 (some .boolean) "SaltFiguresModel")  (v1 : Int32)    (μ : Mu) : J X G 4 3 y (emy y) rvI tpT 95 [(1, .int v1)] [] (μ, y) (Mo_canAct_95 a   v1  μ) := by
  unfold Mo_canAct_95
  refine J_iload_n (k0 := 1) (pc := 95) 0 hX (by decide +kernel) rfl rfl ?_
  refine J_if_eq (pc := 96) (off := 8) (tgt := 104) hX (by decide +kernel) (by decide +kernel) (fun _ => ?_) (fun _ => ?_)
  · exact J_sub [] _ rfl (jMo_canAct_104 hL hX μ)
  · refine J_iload_n (k0 := 1) (pc := 99) 0 hX (by decide +kernel) rfl rfl ?_
    refine J_iconst (pc := 100) (n := 4) (v := 4) hX (by decide +kernel) (by decide +kernel) ?_
    refine J_icmp_ne (pc := 101) (off := 7) (tgt := 108) hX (by decide +kernel) (by decide +kernel) (fun _ => ?_) (fun _ => ?_)
    · refine J_iconst (pc := 108) (n := 0) (v := 0) hX (by decide +kernel) (by decide +kernel) ?_
      exact J_zret (pc := 109) hX (by decide +kernel) rfl (by decide +kernel) trivial
    · exact J_sub [] _ rfl (jMo_canAct_104 hL hX μ)
set_option maxRecDepth 100000 in
set_option maxHeartbeats 4000000 in
theorem jMo_canAct {X : Cx} {l : Launch} {G : Gx} {y : Ly} {a : Nat} (hL : LyMo y a ) (hX : Ok X l G prog_13_method_75_code 4 (some .boolean) "SaltFiguresModel") (v1 : Int32) (v2 : Int32) (v3 : Int32) (μ : Mu) : J X G 4 3 y (emy y) rvI tpT 0 [(0, .ref (G.1 + a)), (1, .int v1), (2, .int v2), (3, .int v3)] [] (μ, y) (Mo_canAct a v1 v2 v3 μ) := by
  unfold Mo_canAct
  refine J_aload_n (k0 := 0) (pc := 0) 0 hX (by decide +kernel) rfl rfl ?_
  refine J_iload_n (k0 := 2) (pc := 1) 2 hX (by decide +kernel) rfl rfl ?_
  refine J_cVi (pc := 2) (idx := 158) [.int v2] hX (by decide +kernel) (mq mt_6 234 (by decide +kernel)) mv_Mo_isPerson hL.1 rfl rfl (Nat.le_of_ble_eq_true rfl) (Nat.le_of_ble_eq_true rfl) (c_Mo_isPerson hL v2 μ) (fun x2 μ1 => ?_)
  refine J_if_eq (pc := 5) (off := 11) (tgt := 16) hX (by decide +kernel) (by decide +kernel) (fun _ => ?_) (fun _ => ?_)
  · refine J_iconst (pc := 16) (n := 0) (v := 0) hX (by decide +kernel) (by decide +kernel) ?_
    exact J_zret (pc := 17) hX (by decide +kernel) rfl (by decide +kernel) trivial
  · refine J_aload_n (k0 := 0) (pc := 8) 0 hX (by decide +kernel) rfl rfl ?_
    refine J_iload_n (k0 := 2) (pc := 9) 2 hX (by decide +kernel) rfl rfl ?_
    refine J_cVi (pc := 10) (idx := 162) [.int v2] hX (by decide +kernel) (mq mt_6 238 (by decide +kernel)) mv_Mo_isAlive hL.1 rfl rfl (Nat.le_of_ble_eq_true rfl) (Nat.le_of_ble_eq_true rfl) (c_Mo_isAlive hL v2 μ1) (fun x4 μ3 => ?_)
    refine J_if_ne (pc := 13) (off := 5) (tgt := 18) hX (by decide +kernel) (by decide +kernel) (fun _ => ?_) (fun _ => ?_)
    · refine J_iload_n (k0 := 1) (pc := 18) 1 hX (by decide +kernel) rfl rfl ?_
      refine J_iconst (pc := 19) (n := 1) (v := 1) hX (by decide +kernel) (by decide +kernel) ?_
      refine J_icmp_ne (pc := 20) (off := 38) (tgt := 58) hX (by decide +kernel) (by decide +kernel) (fun _ => ?_) (fun _ => ?_)
      · refine J_iload_n (k0 := 1) (pc := 58) 1 hX (by decide +kernel) rfl rfl ?_
        refine J_iconst (pc := 59) (n := 2) (v := 2) hX (by decide +kernel) (by decide +kernel) ?_
        refine J_icmp_ne (pc := 60) (off := 18) (tgt := 78) hX (by decide +kernel) (by decide +kernel) (fun _ => ?_) (fun _ => ?_)
        · refine J_iload_n (k0 := 1) (pc := 78) 1 hX (by decide +kernel) rfl rfl ?_
          refine J_iconst (pc := 79) (n := 3) (v := 3) hX (by decide +kernel) (by decide +kernel) ?_
          refine J_icmp_ne (pc := 80) (off := 15) (tgt := 95) hX (by decide +kernel) (by decide +kernel) (fun _ => ?_) (fun _ => ?_)
          · exact J_sub [1] _ rfl (jMo_canAct_95 hL hX v1 μ3)
          · refine J_aload_n (k0 := 0) (pc := 83) 0 hX (by decide +kernel) rfl rfl ?_
            refine J_gr (pc := 84) hX (by decide +kernel) fl_Mo_7 hL.1 rfl hL.2.1.1 ?_
            refine J_bipush (pc := 87) (n := 22) (v := 22) hX (by decide +kernel) (by decide +kernel) ?_
            refine J_iload_n (k0 := 2) (pc := 89) 2 hX (by decide +kernel) rfl rfl ?_
            refine J_iadd (pc := 90) hX (by decide +kernel) ?_
            refine J_ldA (pc := 91) hX (by decide +kernel) hL.2.1.2 (fun x5 => ?_)
            refine J_if_gt (pc := 92) (off := 12) (tgt := 104) hX (by decide +kernel) (by decide +kernel) (fun _ => ?_) (fun _ => ?_)
            · exact J_sub [] _ rfl (jMo_canAct_104 hL hX μ3)
            · exact J_sub [1] _ rfl (jMo_canAct_95 hL hX v1 μ3)
        · refine J_aload_n (k0 := 0) (pc := 63) 0 hX (by decide +kernel) rfl rfl ?_
          refine J_iload_n (k0 := 2) (pc := 64) 2 hX (by decide +kernel) rfl rfl ?_
          refine J_cVi (pc := 65) (idx := 147) [.int v2] hX (by decide +kernel) (mq mt_7 154 (by decide +kernel)) mv_Mo_seatOf hL.1 rfl rfl (Nat.le_of_ble_eq_true rfl) (Nat.le_of_ble_eq_true rfl) (c_Mo_seatOf hL v2 μ3) (fun x7 μ6 => ?_)
          refine J_iconst (pc := 68) (n := -1) (v := (-1)) hX (by decide +kernel) (by decide +kernel) ?_
          refine J_icmp_eq (pc := 69) (off := 7) (tgt := 76) hX (by decide +kernel) (by decide +kernel) (fun _ => ?_) (fun _ => ?_)
          · refine J_iconst (pc := 76) (n := 0) (v := 0) hX (by decide +kernel) (by decide +kernel) ?_
            exact J_zret (pc := 77) hX (by decide +kernel) rfl (by decide +kernel) trivial
          · refine J_iconst (pc := 72) (n := 1) (v := 1) hX (by decide +kernel) (by decide +kernel) ?_
            refine J_goto (pc := 73) (off := 4) (tgt := 77) hX (by decide +kernel) (by decide +kernel) ?_
            exact J_zret (pc := 77) hX (by decide +kernel) rfl (by decide +kernel) trivial
      · refine J_aload_n (k0 := 0) (pc := 23) 0 hX (by decide +kernel) rfl rfl ?_
        refine J_iload_n (k0 := 2) (pc := 24) 2 hX (by decide +kernel) rfl rfl ?_
        refine J_cVi (pc := 25) (idx := 147) [.int v2] hX (by decide +kernel) (mq mt_7 154 (by decide +kernel)) mv_Mo_seatOf hL.1 rfl rfl (Nat.le_of_ble_eq_true rfl) (Nat.le_of_ble_eq_true rfl) (c_Mo_seatOf hL v2 μ3) (fun x9 μ8 => ?_)
        refine J_iconst (pc := 28) (n := -1) (v := (-1)) hX (by decide +kernel) (by decide +kernel) ?_
        refine J_icmp_ne (pc := 29) (off := 27) (tgt := 56) hX (by decide +kernel) (by decide +kernel) (fun _ => ?_) (fun _ => ?_)
        · refine J_iconst (pc := 56) (n := 0) (v := 0) hX (by decide +kernel) (by decide +kernel) ?_
          exact J_zret (pc := 57) hX (by decide +kernel) rfl (by decide +kernel) trivial
        · refine J_aload_n (k0 := 0) (pc := 32) 0 hX (by decide +kernel) rfl rfl ?_
          refine J_iload_n (k0 := 3) (pc := 33) 3 hX (by decide +kernel) rfl rfl ?_
          refine J_iconst (pc := 34) (n := 0) (v := 0) hX (by decide +kernel) (by decide +kernel) ?_
          refine J_bipush (pc := 35) (n := 15) (v := 15) hX (by decide +kernel) (by decide +kernel) ?_
          refine J_cVi (pc := 37) (idx := 154) [.int v3, .int 0, .int 15] hX (by decide +kernel) (mq mt_6 226 (by decide +kernel)) mv_Mo_isIn hL.1 rfl rfl (Nat.le_of_ble_eq_true rfl) (Nat.le_of_ble_eq_true rfl) (c_Mo_isIn hL v3 0 15 μ8) (fun x11 μ10 => ?_)
          refine J_if_eq (pc := 40) (off := 16) (tgt := 56) hX (by decide +kernel) (by decide +kernel) (fun _ => ?_) (fun _ => ?_)
          · refine J_iconst (pc := 56) (n := 0) (v := 0) hX (by decide +kernel) (by decide +kernel) ?_
            exact J_zret (pc := 57) hX (by decide +kernel) rfl (by decide +kernel) trivial
          · refine J_aload_n (k0 := 0) (pc := 43) 0 hX (by decide +kernel) rfl rfl ?_
            refine J_iload_n (k0 := 3) (pc := 44) 3 hX (by decide +kernel) rfl rfl ?_
            refine J_cVi (pc := 45) (idx := 151) [.int v3] hX (by decide +kernel) (mq mt_7 150 (by decide +kernel)) mv_Mo_whoHas hL.1 rfl rfl (Nat.le_of_ble_eq_true rfl) (Nat.le_of_ble_eq_true rfl) (c_Mo_whoHas hL v3 μ10) (fun x13 μ12 => ?_)
            refine J_iconst (pc := 48) (n := -1) (v := (-1)) hX (by decide +kernel) (by decide +kernel) ?_
            refine J_icmp_ne (pc := 49) (off := 7) (tgt := 56) hX (by decide +kernel) (by decide +kernel) (fun _ => ?_) (fun _ => ?_)
            · refine J_iconst (pc := 56) (n := 0) (v := 0) hX (by decide +kernel) (by decide +kernel) ?_
              exact J_zret (pc := 57) hX (by decide +kernel) rfl (by decide +kernel) trivial
            · refine J_iconst (pc := 52) (n := 1) (v := 1) hX (by decide +kernel) (by decide +kernel) ?_
              refine J_goto (pc := 53) (off := 4) (tgt := 57) hX (by decide +kernel) (by decide +kernel) ?_
              exact J_zret (pc := 57) hX (by decide +kernel) rfl (by decide +kernel) trivial
    · refine J_iconst (pc := 16) (n := 0) (v := 0) hX (by decide +kernel) (by decide +kernel) ?_
      exact J_zret (pc := 17) hX (by decide +kernel) rfl (by decide +kernel) trivial
set_option maxRecDepth 100000 in
set_option maxHeartbeats 4000000 in
theorem c_Mo_canAct {l : Launch} {G : Gx} {y : Ly} {a : Nat} (hL : LyMo y a ) (v1 : Int32) (v2 : Int32) (v3 : Int32) (μ : Mu) : Cn l G ⟨"SaltFiguresModel", "canAct", "(III)Z"⟩ prog_13_method_75_code 4 (some .boolean) 3 [.ref (G.1 + a), .int v1, .int v2, .int v3] (μ, y) (emy y) rvI tpT (Mo_canAct a v1 v2 v3 μ) := cn_of (by decide +kernel) (Nat.le_of_ble_eq_true rfl) (fun _ _ _ => ⟨List.prefix_refl _, trivial⟩) (fun X hX _ => jMo_canAct hL hX v1 v2 v3 μ)

def Mo_keepsAhead_55b (a : Nat)  (kb55 : Int32 → Mu → Option (Unit × Mu))  (v1 : Int32)  (μ : Mu) : Option (Unit × Mu) := (if 118 ≤ v1 then gF μ a 3 (fun x1 => pF μ a 3 (x1 + 1) (fun μ2 => some ((), μ2))) else gF μ a 3 (fun x3 => ldA μ (a + 1) 118 v1 (fun x4 => stA μ (a + 2) 708 ((118 * x3) + v1) x4 (fun μ5 => kb55 (v1 + 1) μ5))))
def Mo_keepsAhead_55 (a : Nat)   (n0 : Nat) : Int32 → Mu → Option (Unit × Mu) := lp (fun kb => Mo_keepsAhead_55b a  kb ) (fun _ _ => none) n0
def Mo_keepsAhead_53 (a : Nat)     (μ : Mu) : Option (Unit × Mu) := Mo_keepsAhead_55 a FU 0 μ
def Mo_keepsAhead_21b (a : Nat)  (kb21 : Int32 → Mu → Option (Unit × Mu))  (v1 : Int32)  (μ : Mu) : Option (Unit × Mu) := gF μ a 3 (fun x1 => (if (118 * x1) ≤ v1 then Mo_keepsAhead_53 a μ else ldA μ (a + 2) 708 (v1 + 118) (fun x2 => stA μ (a + 2) 708 v1 x2 (fun μ3 => kb21 (v1 + 1) μ3))))
def Mo_keepsAhead_21 (a : Nat)   (n0 : Nat) : Int32 → Mu → Option (Unit × Mu) := lp (fun kb => Mo_keepsAhead_21b a  kb ) (fun _ _ => none) n0
def Mo_keepsAhead (a : Nat)  (μ : Mu) : Option (Unit × Mu) := gF μ a 3 (fun x1 => (if x1 = 6 then gF μ a 3 (fun x2 => pF μ a 3 (x2 - 1) (fun μ3 => Mo_keepsAhead_21 a FU 0 μ3)) else Mo_keepsAhead_53 a μ))
set_option maxRecDepth 100000 in
set_option maxHeartbeats 4000000 in
theorem jMo_keepsAhead_55b {X : Cx} {l : Launch} {G : Gx} {y : Ly} {a : Nat} (hL : LyMo y a ) (hX : Ok X l G prog_13_method_10_code 2 none "SaltFiguresModel")   {kb55 : Int32 → Mu → Option (Unit × Mu)}  (hk55 : ∀ (v1 : Int32) (μ : Mu), J X G 2 1 y (emy y) rvV tpT 55 [(0, .ref (G.1 + a)), (1, .int v1)] [] (μ, y) (kb55 v1 μ)) (v1 : Int32)  (μ : Mu) : J X G 2 1 y (emy y) rvV tpT 55 [(0, .ref (G.1 + a)), (1, .int v1)] [] (μ, y) (Mo_keepsAhead_55b a  kb55  v1  μ) := by
  unfold Mo_keepsAhead_55b
  refine J_iload_n (k0 := 1) (pc := 55) 1 hX (by decide +kernel) rfl rfl ?_
  refine J_bipush (pc := 56) (n := 118) (v := 118) hX (by decide +kernel) (by decide +kernel) ?_
  refine J_icmp_ge (pc := 58) (off := 29) (tgt := 87) hX (by decide +kernel) (by decide +kernel) (fun _ => ?_) (fun _ => ?_)
  · refine J_aload_n (k0 := 0) (pc := 87) 0 hX (by decide +kernel) rfl rfl ?_
    refine J_aload_n (k0 := 0) (pc := 88) 0 hX (by decide +kernel) rfl rfl ?_
    refine J_gF (pc := 89) hX (by decide +kernel) fl_Mo_135 hL.1 rfl (fun x1 => ?_)
    refine J_iconst (pc := 92) (n := 1) (v := 1) hX (by decide +kernel) (by decide +kernel) ?_
    refine J_iadd (pc := 93) hX (by decide +kernel) ?_
    refine J_pF (pc := 94) hX (by decide +kernel) fl_Mo_135 hL.1 rfl (fun μ2 => ?_)
    exact J_vret (pc := 97) hX (by decide +kernel) rfl trivial
  · refine J_aload_n (k0 := 0) (pc := 61) 0 hX (by decide +kernel) rfl rfl ?_
    refine J_gr (pc := 62) hX (by decide +kernel) fl_Mo_13 hL.1 rfl hL.2.2.1.1 ?_
    refine J_bipush (pc := 65) (n := 118) (v := 118) hX (by decide +kernel) (by decide +kernel) ?_
    refine J_aload_n (k0 := 0) (pc := 67) 0 hX (by decide +kernel) rfl rfl ?_
    refine J_gF (pc := 68) hX (by decide +kernel) fl_Mo_135 hL.1 rfl (fun x3 => ?_)
    refine J_imul (pc := 71) hX (by decide +kernel) ?_
    refine J_iload_n (k0 := 1) (pc := 72) 1 hX (by decide +kernel) rfl rfl ?_
    refine J_iadd (pc := 73) hX (by decide +kernel) ?_
    refine J_aload_n (k0 := 0) (pc := 74) 0 hX (by decide +kernel) rfl rfl ?_
    refine J_gr (pc := 75) hX (by decide +kernel) fl_Mo_7 hL.1 rfl hL.2.1.1 ?_
    refine J_iload_n (k0 := 1) (pc := 78) 1 hX (by decide +kernel) rfl rfl ?_
    refine J_ldA (pc := 79) hX (by decide +kernel) hL.2.1.2 (fun x4 => ?_)
    refine J_stA (pc := 80) hX (by decide +kernel) hL.2.2.1.2 (fun μ5 => ?_)
    refine J_iinc (pc := 81) (n := 1) 1 [(1, .int (v1 + 1)), (0, .ref (G.1 + a))] hX (by decide +kernel) rfl rfl (by decide) rfl ?_
    refine J_goto (pc := 84) (off := -29) (tgt := 55) hX (by decide +kernel) (by decide +kernel) ?_
    exact J_sub [1, 0] _ rfl (hk55 (v1 + 1) μ5)
set_option maxRecDepth 100000 in
set_option maxHeartbeats 4000000 in
theorem jMo_keepsAhead_55 {X : Cx} {l : Launch} {G : Gx} {y : Ly} {a : Nat} (hL : LyMo y a ) (hX : Ok X l G prog_13_method_10_code 2 none "SaltFiguresModel")    : ∀ (n0 : Nat) (v1 : Int32) (μ : Mu), J X G 2 1 y (emy y) rvV tpT 55 [(0, .ref (G.1 + a)), (1, .int v1)] [] (μ, y) (Mo_keepsAhead_55 a   n0 v1 μ) := by
  intro n0
  induction n0 with
  | zero => intros; exact J_none
  | succ n0 ih => intro v1 μ; exact jMo_keepsAhead_55b hL hX   ih v1 μ
set_option maxRecDepth 100000 in
set_option maxHeartbeats 4000000 in
theorem jMo_keepsAhead_53 {X : Cx} {l : Launch} {G : Gx} {y : Ly} {a : Nat} (hL : LyMo y a ) (hX : Ok X l G prog_13_method_10_code 2 none "SaltFiguresModel")      (μ : Mu) : J X G 2 1 y (emy y) rvV tpT 53 [(0, .ref (G.1 + a))] [] (μ, y) (Mo_keepsAhead_53 a     μ) := by
  unfold Mo_keepsAhead_53
  refine J_iconst (pc := 53) (n := 0) (v := 0) hX (by decide +kernel) (by decide +kernel) ?_
  refine J_istore_n (k0 := 1) (pc := 54) [(1, .int 0), (0, .ref (G.1 + a))] hX (by decide +kernel) rfl (by decide) rfl ?_
  exact J_sub [1, 0] _ rfl (jMo_keepsAhead_55 hL hX FU 0 μ)
set_option maxRecDepth 100000 in
set_option maxHeartbeats 4000000 in
theorem jMo_keepsAhead_21b {X : Cx} {l : Launch} {G : Gx} {y : Ly} {a : Nat} (hL : LyMo y a ) (hX : Ok X l G prog_13_method_10_code 2 none "SaltFiguresModel")   {kb21 : Int32 → Mu → Option (Unit × Mu)}  (hk21 : ∀ (v1 : Int32) (μ : Mu), J X G 2 1 y (emy y) rvV tpT 21 [(0, .ref (G.1 + a)), (1, .int v1)] [] (μ, y) (kb21 v1 μ)) (v1 : Int32)  (μ : Mu) : J X G 2 1 y (emy y) rvV tpT 21 [(0, .ref (G.1 + a)), (1, .int v1)] [] (μ, y) (Mo_keepsAhead_21b a  kb21  v1  μ) := by
  unfold Mo_keepsAhead_21b
  refine J_iload_n (k0 := 1) (pc := 21) 1 hX (by decide +kernel) rfl rfl ?_
  refine J_bipush (pc := 22) (n := 118) (v := 118) hX (by decide +kernel) (by decide +kernel) ?_
  refine J_aload_n (k0 := 0) (pc := 24) 0 hX (by decide +kernel) rfl rfl ?_
  refine J_gF (pc := 25) hX (by decide +kernel) fl_Mo_135 hL.1 rfl (fun x1 => ?_)
  refine J_imul (pc := 28) hX (by decide +kernel) ?_
  refine J_icmp_ge (pc := 29) (off := 24) (tgt := 53) hX (by decide +kernel) (by decide +kernel) (fun _ => ?_) (fun _ => ?_)
  · exact J_sub [0] _ rfl (jMo_keepsAhead_53 hL hX μ)
  · refine J_aload_n (k0 := 0) (pc := 32) 0 hX (by decide +kernel) rfl rfl ?_
    refine J_gr (pc := 33) hX (by decide +kernel) fl_Mo_13 hL.1 rfl hL.2.2.1.1 ?_
    refine J_iload_n (k0 := 1) (pc := 36) 1 hX (by decide +kernel) rfl rfl ?_
    refine J_aload_n (k0 := 0) (pc := 37) 0 hX (by decide +kernel) rfl rfl ?_
    refine J_gr (pc := 38) hX (by decide +kernel) fl_Mo_13 hL.1 rfl hL.2.2.1.1 ?_
    refine J_iload_n (k0 := 1) (pc := 41) 1 hX (by decide +kernel) rfl rfl ?_
    refine J_bipush (pc := 42) (n := 118) (v := 118) hX (by decide +kernel) (by decide +kernel) ?_
    refine J_iadd (pc := 44) hX (by decide +kernel) ?_
    refine J_ldA (pc := 45) hX (by decide +kernel) hL.2.2.1.2 (fun x2 => ?_)
    refine J_stA (pc := 46) hX (by decide +kernel) hL.2.2.1.2 (fun μ3 => ?_)
    refine J_iinc (pc := 47) (n := 1) 1 [(1, .int (v1 + 1)), (0, .ref (G.1 + a))] hX (by decide +kernel) rfl rfl (by decide) rfl ?_
    refine J_goto (pc := 50) (off := -29) (tgt := 21) hX (by decide +kernel) (by decide +kernel) ?_
    exact J_sub [1, 0] _ rfl (hk21 (v1 + 1) μ3)
set_option maxRecDepth 100000 in
set_option maxHeartbeats 4000000 in
theorem jMo_keepsAhead_21 {X : Cx} {l : Launch} {G : Gx} {y : Ly} {a : Nat} (hL : LyMo y a ) (hX : Ok X l G prog_13_method_10_code 2 none "SaltFiguresModel")    : ∀ (n0 : Nat) (v1 : Int32) (μ : Mu), J X G 2 1 y (emy y) rvV tpT 21 [(0, .ref (G.1 + a)), (1, .int v1)] [] (μ, y) (Mo_keepsAhead_21 a   n0 v1 μ) := by
  intro n0
  induction n0 with
  | zero => intros; exact J_none
  | succ n0 ih => intro v1 μ; exact jMo_keepsAhead_21b hL hX   ih v1 μ
set_option maxRecDepth 100000 in
set_option maxHeartbeats 4000000 in
theorem jMo_keepsAhead {X : Cx} {l : Launch} {G : Gx} {y : Ly} {a : Nat} (hL : LyMo y a ) (hX : Ok X l G prog_13_method_10_code 2 none "SaltFiguresModel")  (μ : Mu) : J X G 2 1 y (emy y) rvV tpT 0 [(0, .ref (G.1 + a))] [] (μ, y) (Mo_keepsAhead a  μ) := by
  unfold Mo_keepsAhead
  refine J_aload_n (k0 := 0) (pc := 0) 0 hX (by decide +kernel) rfl rfl ?_
  refine J_gF (pc := 1) hX (by decide +kernel) fl_Mo_135 hL.1 rfl (fun x1 => ?_)
  refine J_bipush (pc := 4) (n := 6) (v := 6) hX (by decide +kernel) (by decide +kernel) ?_
  refine J_icmp_ne (pc := 6) (off := 47) (tgt := 53) hX (by decide +kernel) (by decide +kernel) (fun _ => ?_) (fun _ => ?_)
  · exact J_sub [0] _ rfl (jMo_keepsAhead_53 hL hX μ)
  · refine J_aload_n (k0 := 0) (pc := 9) 0 hX (by decide +kernel) rfl rfl ?_
    refine J_aload_n (k0 := 0) (pc := 10) 0 hX (by decide +kernel) rfl rfl ?_
    refine J_gF (pc := 11) hX (by decide +kernel) fl_Mo_135 hL.1 rfl (fun x2 => ?_)
    refine J_iconst (pc := 14) (n := 1) (v := 1) hX (by decide +kernel) (by decide +kernel) ?_
    refine J_isub (pc := 15) hX (by decide +kernel) ?_
    refine J_pF (pc := 16) hX (by decide +kernel) fl_Mo_135 hL.1 rfl (fun μ3 => ?_)
    refine J_iconst (pc := 19) (n := 0) (v := 0) hX (by decide +kernel) (by decide +kernel) ?_
    refine J_istore_n (k0 := 1) (pc := 20) [(1, .int 0), (0, .ref (G.1 + a))] hX (by decide +kernel) rfl (by decide) rfl ?_
    exact J_sub [1, 0] _ rfl (jMo_keepsAhead_21 hL hX FU 0 μ3)
set_option maxRecDepth 100000 in
set_option maxHeartbeats 4000000 in
theorem c_Mo_keepsAhead {l : Launch} {G : Gx} {y : Ly} {a : Nat} (hL : LyMo y a )  (μ : Mu) : Cn l G ⟨"SaltFiguresModel", "keepsAhead", "()V"⟩ prog_13_method_10_code 2 none 1 [.ref (G.1 + a)] (μ, y) (emy y) rvV tpT (Mo_keepsAhead a  μ) := cn_of (by decide +kernel) (Nat.le_of_ble_eq_true rfl) (fun _ _ _ => ⟨List.prefix_refl _, trivial⟩) (fun X hX _ => jMo_keepsAhead hL hX  μ)

def Mo_besideOf (a : Nat) (v1 : Int32) (μ : Mu) : Option (Int32 × Mu) := cl (Mo_seatOf a v1 μ) (fun x2 μ1 => (if x2 = ((-1)) then some ((-1), μ1) else cl (Mo_seatOf a v1 μ1) (fun x4 μ3 => cl (Mo_whoHas a (x4 + 1) μ3) (fun x6 μ5 => some (x6, μ5)))))
set_option maxRecDepth 100000 in
set_option maxHeartbeats 4000000 in
theorem jMo_besideOf {X : Cx} {l : Launch} {G : Gx} {y : Ly} {a : Nat} (hL : LyMo y a ) (hX : Ok X l G prog_13_method_20_code 2 (some .int) "SaltFiguresModel") (v1 : Int32) (μ : Mu) : J X G 2 3 y (emy y) rvI tpT 0 [(0, .ref (G.1 + a)), (1, .int v1)] [] (μ, y) (Mo_besideOf a v1 μ) := by
  unfold Mo_besideOf
  refine J_aload_n (k0 := 0) (pc := 0) 0 hX (by decide +kernel) rfl rfl ?_
  refine J_iload_n (k0 := 1) (pc := 1) 1 hX (by decide +kernel) rfl rfl ?_
  refine J_cVi (pc := 2) (idx := 147) [.int v1] hX (by decide +kernel) (mq mt_7 154 (by decide +kernel)) mv_Mo_seatOf hL.1 rfl rfl (Nat.le_of_ble_eq_true rfl) (Nat.le_of_ble_eq_true rfl) (c_Mo_seatOf hL v1 μ) (fun x2 μ1 => ?_)
  refine J_iconst (pc := 5) (n := -1) (v := (-1)) hX (by decide +kernel) (by decide +kernel) ?_
  refine J_icmp_ne (pc := 6) (off := 7) (tgt := 13) hX (by decide +kernel) (by decide +kernel) (fun _ => ?_) (fun _ => ?_)
  · refine J_aload_n (k0 := 0) (pc := 13) 0 hX (by decide +kernel) rfl rfl ?_
    refine J_aload_n (k0 := 0) (pc := 14) 0 hX (by decide +kernel) rfl rfl ?_
    refine J_iload_n (k0 := 1) (pc := 15) 1 hX (by decide +kernel) rfl rfl ?_
    refine J_cVi (pc := 16) (idx := 147) [.int v1] hX (by decide +kernel) (mq mt_7 154 (by decide +kernel)) mv_Mo_seatOf hL.1 rfl rfl (Nat.le_of_ble_eq_true rfl) (Nat.le_of_ble_eq_true rfl) (c_Mo_seatOf hL v1 μ1) (fun x4 μ3 => ?_)
    refine J_iconst (pc := 19) (n := 1) (v := 1) hX (by decide +kernel) (by decide +kernel) ?_
    refine J_iadd (pc := 20) hX (by decide +kernel) ?_
    refine J_cVi (pc := 21) (idx := 151) [.int (x4 + 1)] hX (by decide +kernel) (mq mt_7 150 (by decide +kernel)) mv_Mo_whoHas hL.1 rfl rfl (Nat.le_of_ble_eq_true rfl) (Nat.le_of_ble_eq_true rfl) (c_Mo_whoHas hL (x4 + 1) μ3) (fun x6 μ5 => ?_)
    exact J_iret (pc := 24) hX (by decide +kernel) rfl trivial
  · refine J_iconst (pc := 9) (n := -1) (v := (-1)) hX (by decide +kernel) (by decide +kernel) ?_
    refine J_goto (pc := 10) (off := 14) (tgt := 24) hX (by decide +kernel) (by decide +kernel) ?_
    exact J_iret (pc := 24) hX (by decide +kernel) rfl trivial
set_option maxRecDepth 100000 in
set_option maxHeartbeats 4000000 in
theorem c_Mo_besideOf {l : Launch} {G : Gx} {y : Ly} {a : Nat} (hL : LyMo y a ) (v1 : Int32) (μ : Mu) : Cn l G ⟨"SaltFiguresModel", "besideOf", "(I)I"⟩ prog_13_method_20_code 2 (some .int) 3 [.ref (G.1 + a), .int v1] (μ, y) (emy y) rvI tpT (Mo_besideOf a v1 μ) := cn_of (by decide +kernel) (Nat.le_of_ble_eq_true rfl) (fun _ _ _ => ⟨List.prefix_refl _, trivial⟩) (fun X hX _ => jMo_besideOf hL hX v1 μ)

def Mo_heirsOf_28 (a : Nat) (kb4 : Int32 → Int32 → Mu → Option (Int32 × Mu))  (v1 : Int32) (v2 : Int32) (v3 : Int32)  (μ : Mu) : Option (Int32 × Mu) := kb4 v2 (v3 + 1) μ
def Mo_heirsOf_4b (a : Nat)  (kb4 : Int32 → Int32 → Mu → Option (Int32 × Mu)) (v1 : Int32) (v2 : Int32) (v3 : Int32)  (μ : Mu) : Option (Int32 × Mu) := gF μ a 6 (fun x1 => (if x1 ≤ v3 then some (v2, μ) else ldA μ (a + 18) 32 v3 (fun x2 => (if x2 = (v1 + 1) then Mo_heirsOf_28 a kb4 v1 (v2 + 1) v3 μ else Mo_heirsOf_28 a kb4 v1 v2 v3 μ))))
def Mo_heirsOf_4 (a : Nat)  (v1 : Int32) (n0 : Nat) : Int32 → Int32 → Mu → Option (Int32 × Mu) := lp (fun kb => Mo_heirsOf_4b a  kb v1) (fun _ _ _ => none) n0
def Mo_heirsOf (a : Nat) (v1 : Int32) (μ : Mu) : Option (Int32 × Mu) := Mo_heirsOf_4 a v1 FU 0 0 μ
set_option maxRecDepth 100000 in
set_option maxHeartbeats 4000000 in
theorem jMo_heirsOf_28 {X : Cx} {l : Launch} {G : Gx} {y : Ly} {a : Nat} (hL : LyMo y a ) (hX : Ok X l G prog_13_method_64_code 4 (some .int) "SaltFiguresModel")  (v1 : Int32) (v2 : Int32) (v3 : Int32)  {kb4 : Int32 → Int32 → Mu → Option (Int32 × Mu)} (hk4 : ∀ (v2 : Int32) (v3 : Int32) (μ : Mu), J X G 4 1 y (emy y) rvI tpT 4 [(0, .ref (G.1 + a)), (1, .int v1), (2, .int v2), (3, .int v3)] [] (μ, y) (kb4 v2 v3 μ)) (μ : Mu) : J X G 4 1 y (emy y) rvI tpT 28 [(0, .ref (G.1 + a)), (1, .int v1), (2, .int v2), (3, .int v3)] [] (μ, y) (Mo_heirsOf_28 a kb4  v1 v2 v3  μ) := by
  unfold Mo_heirsOf_28
  refine J_iinc (pc := 28) (n := 1) 3 [(3, .int (v3 + 1)), (0, .ref (G.1 + a)), (1, .int v1), (2, .int v2)] hX (by decide +kernel) rfl rfl (by decide) rfl ?_
  refine J_goto (pc := 31) (off := -27) (tgt := 4) hX (by decide +kernel) (by decide +kernel) ?_
  exact J_sub [1, 2, 3, 0] _ rfl (hk4 v2 (v3 + 1) μ)
set_option maxRecDepth 100000 in
set_option maxHeartbeats 4000000 in
theorem jMo_heirsOf_4b {X : Cx} {l : Launch} {G : Gx} {y : Ly} {a : Nat} (hL : LyMo y a ) (hX : Ok X l G prog_13_method_64_code 4 (some .int) "SaltFiguresModel") (v1 : Int32)  {kb4 : Int32 → Int32 → Mu → Option (Int32 × Mu)}  (hk4 : ∀ (v2 : Int32) (v3 : Int32) (μ : Mu), J X G 4 1 y (emy y) rvI tpT 4 [(0, .ref (G.1 + a)), (1, .int v1), (2, .int v2), (3, .int v3)] [] (μ, y) (kb4 v2 v3 μ)) (v2 : Int32) (v3 : Int32)  (μ : Mu) : J X G 4 1 y (emy y) rvI tpT 4 [(0, .ref (G.1 + a)), (1, .int v1), (2, .int v2), (3, .int v3)] [] (μ, y) (Mo_heirsOf_4b a  kb4 v1 v2 v3  μ) := by
  unfold Mo_heirsOf_4b
  refine J_iload_n (k0 := 3) (pc := 4) 3 hX (by decide +kernel) rfl rfl ?_
  refine J_aload_n (k0 := 0) (pc := 5) 0 hX (by decide +kernel) rfl rfl ?_
  refine J_gF (pc := 6) hX (by decide +kernel) fl_Mo_144 hL.1 rfl (fun x1 => ?_)
  refine J_icmp_ge (pc := 9) (off := 25) (tgt := 34) hX (by decide +kernel) (by decide +kernel) (fun _ => ?_) (fun _ => ?_)
  · refine J_iload_n (k0 := 2) (pc := 34) 2 hX (by decide +kernel) rfl rfl ?_
    exact J_iret (pc := 35) hX (by decide +kernel) rfl trivial
  · refine J_aload_n (k0 := 0) (pc := 12) 0 hX (by decide +kernel) rfl rfl ?_
    refine J_gr (pc := 13) hX (by decide +kernel) fl_Mo_65 hL.1 rfl hL.2.2.2.2.2.2.2.2.2.2.2.2.2.2.2.2.2.2.1.1 ?_
    refine J_iload_n (k0 := 3) (pc := 16) 3 hX (by decide +kernel) rfl rfl ?_
    refine J_ldA (pc := 17) hX (by decide +kernel) hL.2.2.2.2.2.2.2.2.2.2.2.2.2.2.2.2.2.2.1.2 (fun x2 => ?_)
    refine J_iload_n (k0 := 1) (pc := 18) 1 hX (by decide +kernel) rfl rfl ?_
    refine J_iconst (pc := 19) (n := 1) (v := 1) hX (by decide +kernel) (by decide +kernel) ?_
    refine J_iadd (pc := 20) hX (by decide +kernel) ?_
    refine J_icmp_ne (pc := 21) (off := 7) (tgt := 28) hX (by decide +kernel) (by decide +kernel) (fun _ => ?_) (fun _ => ?_)
    · exact J_sub [0, 1, 2, 3] _ rfl (jMo_heirsOf_28 hL hX v1 v2 v3 hk4 μ)
    · refine J_iload_n (k0 := 2) (pc := 24) 2 hX (by decide +kernel) rfl rfl ?_
      refine J_iconst (pc := 25) (n := 1) (v := 1) hX (by decide +kernel) (by decide +kernel) ?_
      refine J_iadd (pc := 26) hX (by decide +kernel) ?_
      refine J_istore_n (k0 := 2) (pc := 27) [(2, .int (v2 + 1)), (0, .ref (G.1 + a)), (1, .int v1), (3, .int v3)] hX (by decide +kernel) rfl (by decide) rfl ?_
      exact J_sub [1, 2, 0, 3] _ rfl (jMo_heirsOf_28 hL hX v1 (v2 + 1) v3 hk4 μ)
set_option maxRecDepth 100000 in
set_option maxHeartbeats 4000000 in
theorem jMo_heirsOf_4 {X : Cx} {l : Launch} {G : Gx} {y : Ly} {a : Nat} (hL : LyMo y a ) (hX : Ok X l G prog_13_method_64_code 4 (some .int) "SaltFiguresModel") (v1 : Int32)   : ∀ (n0 : Nat) (v2 : Int32) (v3 : Int32) (μ : Mu), J X G 4 1 y (emy y) rvI tpT 4 [(0, .ref (G.1 + a)), (1, .int v1), (2, .int v2), (3, .int v3)] [] (μ, y) (Mo_heirsOf_4 a  v1 n0 v2 v3 μ) := by
  intro n0
  induction n0 with
  | zero => intros; exact J_none
  | succ n0 ih => intro v2 v3 μ; exact jMo_heirsOf_4b hL hX v1  ih v2 v3 μ
set_option maxRecDepth 100000 in
set_option maxHeartbeats 4000000 in
theorem jMo_heirsOf {X : Cx} {l : Launch} {G : Gx} {y : Ly} {a : Nat} (hL : LyMo y a ) (hX : Ok X l G prog_13_method_64_code 4 (some .int) "SaltFiguresModel") (v1 : Int32) (μ : Mu) : J X G 4 1 y (emy y) rvI tpT 0 [(0, .ref (G.1 + a)), (1, .int v1)] [] (μ, y) (Mo_heirsOf a v1 μ) := by
  unfold Mo_heirsOf
  refine J_iconst (pc := 0) (n := 0) (v := 0) hX (by decide +kernel) (by decide +kernel) ?_
  refine J_istore_n (k0 := 2) (pc := 1) [(2, .int 0), (0, .ref (G.1 + a)), (1, .int v1)] hX (by decide +kernel) rfl (by decide) rfl ?_
  refine J_iconst (pc := 2) (n := 0) (v := 0) hX (by decide +kernel) (by decide +kernel) ?_
  refine J_istore_n (k0 := 3) (pc := 3) [(3, .int 0), (2, .int 0), (0, .ref (G.1 + a)), (1, .int v1)] hX (by decide +kernel) rfl (by decide) rfl ?_
  exact J_sub [2, 3, 1, 0] _ rfl (jMo_heirsOf_4 hL hX v1 FU 0 0 μ)
set_option maxRecDepth 100000 in
set_option maxHeartbeats 4000000 in
theorem c_Mo_heirsOf {l : Launch} {G : Gx} {y : Ly} {a : Nat} (hL : LyMo y a ) (v1 : Int32) (μ : Mu) : Cn l G ⟨"SaltFiguresModel", "heirsOf", "(I)I"⟩ prog_13_method_64_code 4 (some .int) 1 [.ref (G.1 + a), .int v1] (μ, y) (emy y) rvI tpT (Mo_heirsOf a v1 μ) := cn_of (by decide +kernel) (Nat.le_of_ble_eq_true rfl) (fun _ _ _ => ⟨List.prefix_refl _, trivial⟩) (fun X hX _ => jMo_heirsOf hL hX v1 μ)

def Mo_asks_129 (a : Nat)   (v1 : Int32) (s0 : Int32) (s1 : Int32) (μ : Mu) : Option (Unit × Mu) := stA μ (a + 19) 10 s1 s0 (fun μ1 => cl (Mo_heirsOf a v1 μ1) (fun x3 μ2 => stA μ2 (a + 19) 10 8 x3 (fun μ4 => ldA μ4 (a + 1) 118 0 (fun x5 => stA μ4 (a + 19) 10 9 x5 (fun μ6 => some ((), μ6))))))
def Mo_asks (a : Nat) (v1 : Int32) (μ : Mu) : Option (Unit × Mu) := cl (Mo_besideOf a v1 μ) (fun x2 μ1 => ldA μ1 (a + 1) 118 (6 + v1) (fun x3 => stA μ1 (a + 19) 10 0 x3 (fun μ4 => ldA μ4 (a + 1) 118 (22 + v1) (fun x5 => stA μ4 (a + 19) 10 1 x5 (fun μ6 => ldA μ6 (a + 1) 118 3 (fun x7 => stA μ6 (a + 19) 10 2 x7 (fun μ8 => cl (Mo_seatOf a v1 μ8) (fun x10 μ9 => stA μ9 (a + 19) 10 3 x10 (fun μ11 => ldA μ11 (a + 1) 118 (38 + v1) (fun x12 => stA μ11 (a + 19) 10 4 x12 (fun μ13 => ldA μ13 (a + 1) 118 (54 + v1) (fun x14 => stA μ13 (a + 19) 10 5 x14 (fun μ15 => ldA μ15 (a + 1) 118 (70 + v1) (fun x16 => stA μ15 (a + 19) 10 6 x16 (fun μ17 => (if x2 = ((-1)) then Mo_asks_129 a v1 0 7 μ17 else ldA μ17 (a + 1) 118 (22 + x2) (fun x18 => Mo_asks_129 a v1 x18 7 μ17)))))))))))))))))
set_option maxRecDepth 100000 in
set_option maxHeartbeats 4000000 in
theorem jMo_asks_129 {X : Cx} {l : Launch} {G : Gx} {y : Ly} {a : Nat} (hL : LyMo y a ) (hX : Ok X l G prog_13_method_65_code 3 none "SaltFiguresModel")  (v1 : Int32) (s0 : Int32) (s1 : Int32)   (μ : Mu) : J X G 3 4 y (emy y) rvV tpT 129 [(0, .ref (G.1 + a)), (1, .int v1)] [.int s0, .int s1, .ref (G.1 + (a + 19))] (μ, y) (Mo_asks_129 a   v1 s0 s1 μ) := by
  unfold Mo_asks_129
  refine J_stA (pc := 129) hX (by decide +kernel) hL.2.2.2.2.2.2.2.2.2.2.2.2.2.2.2.2.2.2.2.1.2 (fun μ1 => ?_)
  refine J_aload_n (k0 := 0) (pc := 130) 0 hX (by decide +kernel) rfl rfl ?_
  refine J_gr (pc := 131) hX (by decide +kernel) fl_Mo_68 hL.1 rfl hL.2.2.2.2.2.2.2.2.2.2.2.2.2.2.2.2.2.2.2.1.1 ?_
  refine J_bipush (pc := 134) (n := 8) (v := 8) hX (by decide +kernel) (by decide +kernel) ?_
  refine J_aload_n (k0 := 0) (pc := 136) 0 hX (by decide +kernel) rfl rfl ?_
  refine J_iload_n (k0 := 1) (pc := 137) 1 hX (by decide +kernel) rfl rfl ?_
  refine J_cVi (pc := 138) (idx := 327) [.int v1] hX (by decide +kernel) (mq mt_7 190 (by decide +kernel)) mv_Mo_heirsOf hL.1 rfl rfl (Nat.le_of_ble_eq_true rfl) (Nat.le_of_ble_eq_true rfl) (c_Mo_heirsOf hL v1 μ1) (fun x3 μ2 => ?_)
  refine J_stA (pc := 141) hX (by decide +kernel) hL.2.2.2.2.2.2.2.2.2.2.2.2.2.2.2.2.2.2.2.1.2 (fun μ4 => ?_)
  refine J_aload_n (k0 := 0) (pc := 142) 0 hX (by decide +kernel) rfl rfl ?_
  refine J_gr (pc := 143) hX (by decide +kernel) fl_Mo_68 hL.1 rfl hL.2.2.2.2.2.2.2.2.2.2.2.2.2.2.2.2.2.2.2.1.1 ?_
  refine J_bipush (pc := 146) (n := 9) (v := 9) hX (by decide +kernel) (by decide +kernel) ?_
  refine J_aload_n (k0 := 0) (pc := 148) 0 hX (by decide +kernel) rfl rfl ?_
  refine J_gr (pc := 149) hX (by decide +kernel) fl_Mo_7 hL.1 rfl hL.2.1.1 ?_
  refine J_iconst (pc := 152) (n := 0) (v := 0) hX (by decide +kernel) (by decide +kernel) ?_
  refine J_ldA (pc := 153) hX (by decide +kernel) hL.2.1.2 (fun x5 => ?_)
  refine J_stA (pc := 154) hX (by decide +kernel) hL.2.2.2.2.2.2.2.2.2.2.2.2.2.2.2.2.2.2.2.1.2 (fun μ6 => ?_)
  exact J_vret (pc := 155) hX (by decide +kernel) rfl trivial
set_option maxRecDepth 100000 in
set_option maxHeartbeats 4000000 in
theorem jMo_asks {X : Cx} {l : Launch} {G : Gx} {y : Ly} {a : Nat} (hL : LyMo y a ) (hX : Ok X l G prog_13_method_65_code 3 none "SaltFiguresModel") (v1 : Int32) (μ : Mu) : J X G 3 4 y (emy y) rvV tpT 0 [(0, .ref (G.1 + a)), (1, .int v1)] [] (μ, y) (Mo_asks a v1 μ) := by
  unfold Mo_asks
  refine J_aload_n (k0 := 0) (pc := 0) 0 hX (by decide +kernel) rfl rfl ?_
  refine J_iload_n (k0 := 1) (pc := 1) 1 hX (by decide +kernel) rfl rfl ?_
  refine J_cVi (pc := 2) (idx := 324) [.int v1] hX (by decide +kernel) (mq mt_7 186 (by decide +kernel)) mv_Mo_besideOf hL.1 rfl rfl (Nat.le_of_ble_eq_true rfl) (Nat.le_of_ble_eq_true rfl) (c_Mo_besideOf hL v1 μ) (fun x2 μ1 => ?_)
  refine J_istore_n (k0 := 2) (pc := 5) [(2, .int x2), (0, .ref (G.1 + a)), (1, .int v1)] hX (by decide +kernel) rfl (by decide) rfl ?_
  refine J_aload_n (k0 := 0) (pc := 6) 1 hX (by decide +kernel) rfl rfl ?_
  refine J_gr (pc := 7) hX (by decide +kernel) fl_Mo_68 hL.1 rfl hL.2.2.2.2.2.2.2.2.2.2.2.2.2.2.2.2.2.2.2.1.1 ?_
  refine J_iconst (pc := 10) (n := 0) (v := 0) hX (by decide +kernel) (by decide +kernel) ?_
  refine J_aload_n (k0 := 0) (pc := 11) 1 hX (by decide +kernel) rfl rfl ?_
  refine J_gr (pc := 12) hX (by decide +kernel) fl_Mo_7 hL.1 rfl hL.2.1.1 ?_
  refine J_bipush (pc := 15) (n := 6) (v := 6) hX (by decide +kernel) (by decide +kernel) ?_
  refine J_iload_n (k0 := 1) (pc := 17) 2 hX (by decide +kernel) rfl rfl ?_
  refine J_iadd (pc := 18) hX (by decide +kernel) ?_
  refine J_ldA (pc := 19) hX (by decide +kernel) hL.2.1.2 (fun x3 => ?_)
  refine J_stA (pc := 20) hX (by decide +kernel) hL.2.2.2.2.2.2.2.2.2.2.2.2.2.2.2.2.2.2.2.1.2 (fun μ4 => ?_)
  refine J_aload_n (k0 := 0) (pc := 21) 1 hX (by decide +kernel) rfl rfl ?_
  refine J_gr (pc := 22) hX (by decide +kernel) fl_Mo_68 hL.1 rfl hL.2.2.2.2.2.2.2.2.2.2.2.2.2.2.2.2.2.2.2.1.1 ?_
  refine J_iconst (pc := 25) (n := 1) (v := 1) hX (by decide +kernel) (by decide +kernel) ?_
  refine J_aload_n (k0 := 0) (pc := 26) 1 hX (by decide +kernel) rfl rfl ?_
  refine J_gr (pc := 27) hX (by decide +kernel) fl_Mo_7 hL.1 rfl hL.2.1.1 ?_
  refine J_bipush (pc := 30) (n := 22) (v := 22) hX (by decide +kernel) (by decide +kernel) ?_
  refine J_iload_n (k0 := 1) (pc := 32) 2 hX (by decide +kernel) rfl rfl ?_
  refine J_iadd (pc := 33) hX (by decide +kernel) ?_
  refine J_ldA (pc := 34) hX (by decide +kernel) hL.2.1.2 (fun x5 => ?_)
  refine J_stA (pc := 35) hX (by decide +kernel) hL.2.2.2.2.2.2.2.2.2.2.2.2.2.2.2.2.2.2.2.1.2 (fun μ6 => ?_)
  refine J_aload_n (k0 := 0) (pc := 36) 1 hX (by decide +kernel) rfl rfl ?_
  refine J_gr (pc := 37) hX (by decide +kernel) fl_Mo_68 hL.1 rfl hL.2.2.2.2.2.2.2.2.2.2.2.2.2.2.2.2.2.2.2.1.1 ?_
  refine J_iconst (pc := 40) (n := 2) (v := 2) hX (by decide +kernel) (by decide +kernel) ?_
  refine J_aload_n (k0 := 0) (pc := 41) 1 hX (by decide +kernel) rfl rfl ?_
  refine J_gr (pc := 42) hX (by decide +kernel) fl_Mo_7 hL.1 rfl hL.2.1.1 ?_
  refine J_iconst (pc := 45) (n := 3) (v := 3) hX (by decide +kernel) (by decide +kernel) ?_
  refine J_ldA (pc := 46) hX (by decide +kernel) hL.2.1.2 (fun x7 => ?_)
  refine J_stA (pc := 47) hX (by decide +kernel) hL.2.2.2.2.2.2.2.2.2.2.2.2.2.2.2.2.2.2.2.1.2 (fun μ8 => ?_)
  refine J_aload_n (k0 := 0) (pc := 48) 1 hX (by decide +kernel) rfl rfl ?_
  refine J_gr (pc := 49) hX (by decide +kernel) fl_Mo_68 hL.1 rfl hL.2.2.2.2.2.2.2.2.2.2.2.2.2.2.2.2.2.2.2.1.1 ?_
  refine J_iconst (pc := 52) (n := 3) (v := 3) hX (by decide +kernel) (by decide +kernel) ?_
  refine J_aload_n (k0 := 0) (pc := 53) 1 hX (by decide +kernel) rfl rfl ?_
  refine J_iload_n (k0 := 1) (pc := 54) 2 hX (by decide +kernel) rfl rfl ?_
  refine J_cVi (pc := 55) (idx := 147) [.int v1] hX (by decide +kernel) (mq mt_7 154 (by decide +kernel)) mv_Mo_seatOf hL.1 rfl rfl (Nat.le_of_ble_eq_true rfl) (Nat.le_of_ble_eq_true rfl) (c_Mo_seatOf hL v1 μ8) (fun x10 μ9 => ?_)
  refine J_stA (pc := 58) hX (by decide +kernel) hL.2.2.2.2.2.2.2.2.2.2.2.2.2.2.2.2.2.2.2.1.2 (fun μ11 => ?_)
  refine J_aload_n (k0 := 0) (pc := 59) 1 hX (by decide +kernel) rfl rfl ?_
  refine J_gr (pc := 60) hX (by decide +kernel) fl_Mo_68 hL.1 rfl hL.2.2.2.2.2.2.2.2.2.2.2.2.2.2.2.2.2.2.2.1.1 ?_
  refine J_iconst (pc := 63) (n := 4) (v := 4) hX (by decide +kernel) (by decide +kernel) ?_
  refine J_aload_n (k0 := 0) (pc := 64) 1 hX (by decide +kernel) rfl rfl ?_
  refine J_gr (pc := 65) hX (by decide +kernel) fl_Mo_7 hL.1 rfl hL.2.1.1 ?_
  refine J_bipush (pc := 68) (n := 38) (v := 38) hX (by decide +kernel) (by decide +kernel) ?_
  refine J_iload_n (k0 := 1) (pc := 70) 2 hX (by decide +kernel) rfl rfl ?_
  refine J_iadd (pc := 71) hX (by decide +kernel) ?_
  refine J_ldA (pc := 72) hX (by decide +kernel) hL.2.1.2 (fun x12 => ?_)
  refine J_stA (pc := 73) hX (by decide +kernel) hL.2.2.2.2.2.2.2.2.2.2.2.2.2.2.2.2.2.2.2.1.2 (fun μ13 => ?_)
  refine J_aload_n (k0 := 0) (pc := 74) 1 hX (by decide +kernel) rfl rfl ?_
  refine J_gr (pc := 75) hX (by decide +kernel) fl_Mo_68 hL.1 rfl hL.2.2.2.2.2.2.2.2.2.2.2.2.2.2.2.2.2.2.2.1.1 ?_
  refine J_iconst (pc := 78) (n := 5) (v := 5) hX (by decide +kernel) (by decide +kernel) ?_
  refine J_aload_n (k0 := 0) (pc := 79) 1 hX (by decide +kernel) rfl rfl ?_
  refine J_gr (pc := 80) hX (by decide +kernel) fl_Mo_7 hL.1 rfl hL.2.1.1 ?_
  refine J_bipush (pc := 83) (n := 54) (v := 54) hX (by decide +kernel) (by decide +kernel) ?_
  refine J_iload_n (k0 := 1) (pc := 85) 2 hX (by decide +kernel) rfl rfl ?_
  refine J_iadd (pc := 86) hX (by decide +kernel) ?_
  refine J_ldA (pc := 87) hX (by decide +kernel) hL.2.1.2 (fun x14 => ?_)
  refine J_stA (pc := 88) hX (by decide +kernel) hL.2.2.2.2.2.2.2.2.2.2.2.2.2.2.2.2.2.2.2.1.2 (fun μ15 => ?_)
  refine J_aload_n (k0 := 0) (pc := 89) 1 hX (by decide +kernel) rfl rfl ?_
  refine J_gr (pc := 90) hX (by decide +kernel) fl_Mo_68 hL.1 rfl hL.2.2.2.2.2.2.2.2.2.2.2.2.2.2.2.2.2.2.2.1.1 ?_
  refine J_bipush (pc := 93) (n := 6) (v := 6) hX (by decide +kernel) (by decide +kernel) ?_
  refine J_aload_n (k0 := 0) (pc := 95) 1 hX (by decide +kernel) rfl rfl ?_
  refine J_gr (pc := 96) hX (by decide +kernel) fl_Mo_7 hL.1 rfl hL.2.1.1 ?_
  refine J_bipush (pc := 99) (n := 70) (v := 70) hX (by decide +kernel) (by decide +kernel) ?_
  refine J_iload_n (k0 := 1) (pc := 101) 2 hX (by decide +kernel) rfl rfl ?_
  refine J_iadd (pc := 102) hX (by decide +kernel) ?_
  refine J_ldA (pc := 103) hX (by decide +kernel) hL.2.1.2 (fun x16 => ?_)
  refine J_stA (pc := 104) hX (by decide +kernel) hL.2.2.2.2.2.2.2.2.2.2.2.2.2.2.2.2.2.2.2.1.2 (fun μ17 => ?_)
  refine J_aload_n (k0 := 0) (pc := 105) 1 hX (by decide +kernel) rfl rfl ?_
  refine J_gr (pc := 106) hX (by decide +kernel) fl_Mo_68 hL.1 rfl hL.2.2.2.2.2.2.2.2.2.2.2.2.2.2.2.2.2.2.2.1.1 ?_
  refine J_bipush (pc := 109) (n := 7) (v := 7) hX (by decide +kernel) (by decide +kernel) ?_
  refine J_iload_n (k0 := 2) (pc := 111) 0 hX (by decide +kernel) rfl rfl ?_
  refine J_iconst (pc := 112) (n := -1) (v := (-1)) hX (by decide +kernel) (by decide +kernel) ?_
  refine J_icmp_ne (pc := 113) (off := 7) (tgt := 120) hX (by decide +kernel) (by decide +kernel) (fun _ => ?_) (fun _ => ?_)
  · refine J_aload_n (k0 := 0) (pc := 120) 1 hX (by decide +kernel) rfl rfl ?_
    refine J_gr (pc := 121) hX (by decide +kernel) fl_Mo_7 hL.1 rfl hL.2.1.1 ?_
    refine J_bipush (pc := 124) (n := 22) (v := 22) hX (by decide +kernel) (by decide +kernel) ?_
    refine J_iload_n (k0 := 2) (pc := 126) 0 hX (by decide +kernel) rfl rfl ?_
    refine J_iadd (pc := 127) hX (by decide +kernel) ?_
    refine J_ldA (pc := 128) hX (by decide +kernel) hL.2.1.2 (fun x18 => ?_)
    exact J_sub [1, 2] _ rfl (jMo_asks_129 hL hX v1 x18 7 μ17)
  · refine J_iconst (pc := 116) (n := 0) (v := 0) hX (by decide +kernel) (by decide +kernel) ?_
    refine J_goto (pc := 117) (off := 12) (tgt := 129) hX (by decide +kernel) (by decide +kernel) ?_
    exact J_sub [1, 2] _ rfl (jMo_asks_129 hL hX v1 0 7 μ17)
set_option maxRecDepth 100000 in
set_option maxHeartbeats 4000000 in
theorem c_Mo_asks {l : Launch} {G : Gx} {y : Ly} {a : Nat} (hL : LyMo y a ) (v1 : Int32) (μ : Mu) : Cn l G ⟨"SaltFiguresModel", "asks", "(I)V"⟩ prog_13_method_65_code 3 none 4 [.ref (G.1 + a), .int v1] (μ, y) (emy y) rvV tpT (Mo_asks a v1 μ) := cn_of (by decide +kernel) (Nat.le_of_ble_eq_true rfl) (fun _ _ _ => ⟨List.prefix_refl _, trivial⟩) (fun X hX _ => jMo_asks hL hX v1 μ)

def Mo_twoOf (a : Nat) (v1 : Int32) (v2 : Int32) (v3 : Int32) (μ : Mu) : Option (Int32 × Mu) := (if v1 = 2 then some (v2 + v3, μ) else (if v1 = 3 then some (v2 - v3, μ) else (if v1 = 4 then some (v2 * v3, μ) else (if v1 = 5 then nz v3 (some (v2 / v3, μ)) else (if v1 = 6 then (if v3 ≤ v2 then some (0, μ) else some (1, μ)) else (if v1 = 7 then (if v2 = v3 then some (1, μ) else some (0, μ)) else (if v1 = 8 then (if v2 ≤ v3 then some (0, μ) else some (1, μ)) else (if v1 = 10 then some (v2 * v3, μ) else (if (v2 + v3) ≤ 0 then some (0, μ) else some (1, μ))))))))))
set_option maxRecDepth 100000 in
set_option maxHeartbeats 4000000 in
theorem jMo_twoOf {X : Cx} {l : Launch} {G : Gx} {y : Ly} {a : Nat} (hL : LyMo y a ) (hX : Ok X l G prog_13_method_61_code 4 (some .int) "SaltFiguresModel") (v1 : Int32) (v2 : Int32) (v3 : Int32) (μ : Mu) : J X G 4 1 y (emy y) rvI tpT 0 [(0, .ref (G.1 + a)), (1, .int v1), (2, .int v2), (3, .int v3)] [] (μ, y) (Mo_twoOf a v1 v2 v3 μ) := by
  unfold Mo_twoOf
  refine J_iload_n (k0 := 1) (pc := 0) 1 hX (by decide +kernel) rfl rfl ?_
  refine J_iconst (pc := 1) (n := 2) (v := 2) hX (by decide +kernel) (by decide +kernel) ?_
  refine J_icmp_ne (pc := 2) (off := 7) (tgt := 9) hX (by decide +kernel) (by decide +kernel) (fun _ => ?_) (fun _ => ?_)
  · refine J_iload_n (k0 := 1) (pc := 9) 1 hX (by decide +kernel) rfl rfl ?_
    refine J_iconst (pc := 10) (n := 3) (v := 3) hX (by decide +kernel) (by decide +kernel) ?_
    refine J_icmp_ne (pc := 11) (off := 7) (tgt := 18) hX (by decide +kernel) (by decide +kernel) (fun _ => ?_) (fun _ => ?_)
    · refine J_iload_n (k0 := 1) (pc := 18) 1 hX (by decide +kernel) rfl rfl ?_
      refine J_iconst (pc := 19) (n := 4) (v := 4) hX (by decide +kernel) (by decide +kernel) ?_
      refine J_icmp_ne (pc := 20) (off := 7) (tgt := 27) hX (by decide +kernel) (by decide +kernel) (fun _ => ?_) (fun _ => ?_)
      · refine J_iload_n (k0 := 1) (pc := 27) 1 hX (by decide +kernel) rfl rfl ?_
        refine J_iconst (pc := 28) (n := 5) (v := 5) hX (by decide +kernel) (by decide +kernel) ?_
        refine J_icmp_ne (pc := 29) (off := 7) (tgt := 36) hX (by decide +kernel) (by decide +kernel) (fun _ => ?_) (fun _ => ?_)
        · refine J_iload_n (k0 := 1) (pc := 36) 1 hX (by decide +kernel) rfl rfl ?_
          refine J_bipush (pc := 37) (n := 6) (v := 6) hX (by decide +kernel) (by decide +kernel) ?_
          refine J_icmp_ne (pc := 39) (off := 14) (tgt := 53) hX (by decide +kernel) (by decide +kernel) (fun _ => ?_) (fun _ => ?_)
          · refine J_iload_n (k0 := 1) (pc := 53) 1 hX (by decide +kernel) rfl rfl ?_
            refine J_bipush (pc := 54) (n := 7) (v := 7) hX (by decide +kernel) (by decide +kernel) ?_
            refine J_icmp_ne (pc := 56) (off := 14) (tgt := 70) hX (by decide +kernel) (by decide +kernel) (fun _ => ?_) (fun _ => ?_)
            · refine J_iload_n (k0 := 1) (pc := 70) 1 hX (by decide +kernel) rfl rfl ?_
              refine J_bipush (pc := 71) (n := 8) (v := 8) hX (by decide +kernel) (by decide +kernel) ?_
              refine J_icmp_ne (pc := 73) (off := 14) (tgt := 87) hX (by decide +kernel) (by decide +kernel) (fun _ => ?_) (fun _ => ?_)
              · refine J_iload_n (k0 := 1) (pc := 87) 1 hX (by decide +kernel) rfl rfl ?_
                refine J_bipush (pc := 88) (n := 10) (v := 10) hX (by decide +kernel) (by decide +kernel) ?_
                refine J_icmp_ne (pc := 90) (off := 9) (tgt := 99) hX (by decide +kernel) (by decide +kernel) (fun _ => ?_) (fun _ => ?_)
                · refine J_iload_n (k0 := 2) (pc := 99) 2 hX (by decide +kernel) rfl rfl ?_
                  refine J_iload_n (k0 := 3) (pc := 100) 3 hX (by decide +kernel) rfl rfl ?_
                  refine J_iadd (pc := 101) hX (by decide +kernel) ?_
                  refine J_if_le (pc := 102) (off := 7) (tgt := 109) hX (by decide +kernel) (by decide +kernel) (fun _ => ?_) (fun _ => ?_)
                  · refine J_iconst (pc := 109) (n := 0) (v := 0) hX (by decide +kernel) (by decide +kernel) ?_
                    exact J_iret (pc := 110) hX (by decide +kernel) rfl trivial
                  · refine J_iconst (pc := 105) (n := 1) (v := 1) hX (by decide +kernel) (by decide +kernel) ?_
                    refine J_goto (pc := 106) (off := 4) (tgt := 110) hX (by decide +kernel) (by decide +kernel) ?_
                    exact J_iret (pc := 110) hX (by decide +kernel) rfl trivial
                · refine J_iload_n (k0 := 2) (pc := 93) 2 hX (by decide +kernel) rfl rfl ?_
                  refine J_iload_n (k0 := 3) (pc := 94) 3 hX (by decide +kernel) rfl rfl ?_
                  refine J_imul (pc := 95) hX (by decide +kernel) ?_
                  refine J_goto (pc := 96) (off := 14) (tgt := 110) hX (by decide +kernel) (by decide +kernel) ?_
                  exact J_iret (pc := 110) hX (by decide +kernel) rfl trivial
              · refine J_iload_n (k0 := 2) (pc := 76) 2 hX (by decide +kernel) rfl rfl ?_
                refine J_iload_n (k0 := 3) (pc := 77) 3 hX (by decide +kernel) rfl rfl ?_
                refine J_icmp_le (pc := 78) (off := 7) (tgt := 85) hX (by decide +kernel) (by decide +kernel) (fun _ => ?_) (fun _ => ?_)
                · refine J_iconst (pc := 85) (n := 0) (v := 0) hX (by decide +kernel) (by decide +kernel) ?_
                  exact J_iret (pc := 86) hX (by decide +kernel) rfl trivial
                · refine J_iconst (pc := 81) (n := 1) (v := 1) hX (by decide +kernel) (by decide +kernel) ?_
                  refine J_goto (pc := 82) (off := 4) (tgt := 86) hX (by decide +kernel) (by decide +kernel) ?_
                  exact J_iret (pc := 86) hX (by decide +kernel) rfl trivial
            · refine J_iload_n (k0 := 2) (pc := 59) 2 hX (by decide +kernel) rfl rfl ?_
              refine J_iload_n (k0 := 3) (pc := 60) 3 hX (by decide +kernel) rfl rfl ?_
              refine J_icmp_ne (pc := 61) (off := 7) (tgt := 68) hX (by decide +kernel) (by decide +kernel) (fun _ => ?_) (fun _ => ?_)
              · refine J_iconst (pc := 68) (n := 0) (v := 0) hX (by decide +kernel) (by decide +kernel) ?_
                exact J_iret (pc := 69) hX (by decide +kernel) rfl trivial
              · refine J_iconst (pc := 64) (n := 1) (v := 1) hX (by decide +kernel) (by decide +kernel) ?_
                refine J_goto (pc := 65) (off := 4) (tgt := 69) hX (by decide +kernel) (by decide +kernel) ?_
                exact J_iret (pc := 69) hX (by decide +kernel) rfl trivial
          · refine J_iload_n (k0 := 2) (pc := 42) 2 hX (by decide +kernel) rfl rfl ?_
            refine J_iload_n (k0 := 3) (pc := 43) 3 hX (by decide +kernel) rfl rfl ?_
            refine J_icmp_ge (pc := 44) (off := 7) (tgt := 51) hX (by decide +kernel) (by decide +kernel) (fun _ => ?_) (fun _ => ?_)
            · refine J_iconst (pc := 51) (n := 0) (v := 0) hX (by decide +kernel) (by decide +kernel) ?_
              exact J_iret (pc := 52) hX (by decide +kernel) rfl trivial
            · refine J_iconst (pc := 47) (n := 1) (v := 1) hX (by decide +kernel) (by decide +kernel) ?_
              refine J_goto (pc := 48) (off := 4) (tgt := 52) hX (by decide +kernel) (by decide +kernel) ?_
              exact J_iret (pc := 52) hX (by decide +kernel) rfl trivial
        · refine J_iload_n (k0 := 2) (pc := 32) 2 hX (by decide +kernel) rfl rfl ?_
          refine J_iload_n (k0 := 3) (pc := 33) 3 hX (by decide +kernel) rfl rfl ?_
          refine J_idiv (pc := 34) hX (by decide +kernel) (fun _ => ?_)
          exact J_iret (pc := 35) hX (by decide +kernel) rfl trivial
      · refine J_iload_n (k0 := 2) (pc := 23) 2 hX (by decide +kernel) rfl rfl ?_
        refine J_iload_n (k0 := 3) (pc := 24) 3 hX (by decide +kernel) rfl rfl ?_
        refine J_imul (pc := 25) hX (by decide +kernel) ?_
        exact J_iret (pc := 26) hX (by decide +kernel) rfl trivial
    · refine J_iload_n (k0 := 2) (pc := 14) 2 hX (by decide +kernel) rfl rfl ?_
      refine J_iload_n (k0 := 3) (pc := 15) 3 hX (by decide +kernel) rfl rfl ?_
      refine J_isub (pc := 16) hX (by decide +kernel) ?_
      exact J_iret (pc := 17) hX (by decide +kernel) rfl trivial
  · refine J_iload_n (k0 := 2) (pc := 5) 2 hX (by decide +kernel) rfl rfl ?_
    refine J_iload_n (k0 := 3) (pc := 6) 3 hX (by decide +kernel) rfl rfl ?_
    refine J_iadd (pc := 7) hX (by decide +kernel) ?_
    exact J_iret (pc := 8) hX (by decide +kernel) rfl trivial
set_option maxRecDepth 100000 in
set_option maxHeartbeats 4000000 in
theorem c_Mo_twoOf {l : Launch} {G : Gx} {y : Ly} {a : Nat} (hL : LyMo y a ) (v1 : Int32) (v2 : Int32) (v3 : Int32) (μ : Mu) : Cn l G ⟨"SaltFiguresModel", "twoOf", "(III)I"⟩ prog_13_method_61_code 4 (some .int) 1 [.ref (G.1 + a), .int v1, .int v2, .int v3] (μ, y) (emy y) rvI tpT (Mo_twoOf a v1 v2 v3 μ) := cn_of (by decide +kernel) (Nat.le_of_ble_eq_true rfl) (fun _ _ _ => ⟨List.prefix_refl _, trivial⟩) (fun X hX _ => jMo_twoOf hL hX v1 v2 v3 μ)

def Mo_runs_170 (a : Nat) (kb12 : Int32 → Int32 → Mu → Option (Int32 × Mu))  (v1 : Int32) (v3 : Int32) (v4 : Int32) (v5 : Int32)  (μ : Mu) : Option (Int32 × Mu) := kb12 v4 (v5 + 1) μ
def Mo_runs_83 (a : Nat) (kb12 : Int32 → Int32 → Mu → Option (Int32 × Mu))  (v1 : Int32) (v3 : Int32) (v4 : Int32) (v5 : Int32) (s0 : Int32) (s1 : Int32) (μ : Mu) : Option (Int32 × Mu) := stA μ (a + 20) 420 s1 s0 (fun μ1 => Mo_runs_170 a kb12 v1 v3 (v4 + 1) v5 μ1)
def Mo_runs_45 (a : Nat) (kb12 : Int32 → Int32 → Mu → Option (Int32 × Mu))  (v1 : Int32) (v3 : Int32) (v4 : Int32) (v5 : Int32)  (μ : Mu) : Option (Int32 × Mu) := ldA μ (a + 12) 1200 v5 (fun x1 => (if x1 = 0 then ldA μ (a + 13) 1200 v5 (fun x4 => Mo_runs_83 a kb12 v1 v3 v4 v5 x4 v4 μ) else ldA μ (a + 13) 1200 v5 (fun x2 => ldA μ (a + 19) 10 x2 (fun x3 => Mo_runs_83 a kb12 v1 v3 v4 v5 x3 v4 μ))))
def Mo_runs_12b (a : Nat)  (kb12 : Int32 → Int32 → Mu → Option (Int32 × Mu)) (v1 : Int32) (v3 : Int32) (v4 : Int32) (v5 : Int32)  (μ : Mu) : Option (Int32 × Mu) := (if ((400 * v1) + v3) ≤ v5 then ldA μ (a + 20) 420 0 (fun x1 => some (x1, μ)) else ldA μ (a + 12) 1200 v5 (fun x2 => (if x2 = 0 then Mo_runs_45 a kb12 v1 v3 v4 v5 μ else ldA μ (a + 12) 1200 v5 (fun x3 => (if x3 = 1 then Mo_runs_45 a kb12 v1 v3 v4 v5 μ else ldA μ (a + 12) 1200 v5 (fun x4 => (if x4 = 9 then ldA μ (a + 20) 420 (v4 - 1) (fun x11 => stA μ (a + 20) 420 (v4 - 1) (1 - x11) (fun μ12 => Mo_runs_170 a kb12 v1 v3 v4 v5 μ12)) else ldA μ (a + 12) 1200 v5 (fun x5 => ldA μ (a + 20) 420 ((v4 - 1) - 1) (fun x6 => ldA μ (a + 20) 420 (v4 - 1) (fun x7 => cl (Mo_twoOf a x5 x6 x7 μ) (fun x9 μ8 => stA μ8 (a + 20) 420 ((v4 - 1) - 1) x9 (fun μ10 => Mo_runs_170 a kb12 v1 v3 (v4 - 1) v5 μ10))))))))))))
def Mo_runs_12 (a : Nat)  (v1 : Int32) (v3 : Int32) (n0 : Nat) : Int32 → Int32 → Mu → Option (Int32 × Mu) := lp (fun kb => Mo_runs_12b a  kb v1 v3) (fun _ _ _ => none) n0
def Mo_runs (a : Nat) (v1 : Int32) (v2 : Int32) (v3 : Int32) (μ : Mu) : Option (Int32 × Mu) := Mo_runs_12 a v1 v3 FU 0 ((400 * v1) + v2) μ
set_option maxRecDepth 100000 in
set_option maxHeartbeats 4000000 in
theorem jMo_runs_170 {X : Cx} {l : Launch} {G : Gx} {y : Ly} {a : Nat} (hL : LyMo y a ) (hX : Ok X l G prog_13_method_62_code 6 (some .int) "SaltFiguresModel")  (v1 : Int32) (v3 : Int32) (v4 : Int32) (v5 : Int32)  {kb12 : Int32 → Int32 → Mu → Option (Int32 × Mu)} (hk12 : ∀ (v4 : Int32) (v5 : Int32) (μ : Mu), J X G 6 2 y (emy y) rvI tpT 12 [(0, .ref (G.1 + a)), (1, .int v1), (3, .int v3), (4, .int v4), (5, .int v5)] [] (μ, y) (kb12 v4 v5 μ)) (μ : Mu) : J X G 6 2 y (emy y) rvI tpT 170 [(0, .ref (G.1 + a)), (1, .int v1), (3, .int v3), (4, .int v4), (5, .int v5)] [] (μ, y) (Mo_runs_170 a kb12  v1 v3 v4 v5  μ) := by
  unfold Mo_runs_170
  refine J_iinc (pc := 170) (n := 1) 4 [(5, .int (v5 + 1)), (0, .ref (G.1 + a)), (1, .int v1), (3, .int v3), (4, .int v4)] hX (by decide +kernel) rfl rfl (by decide) rfl ?_
  refine J_goto (pc := 173) (off := -161) (tgt := 12) hX (by decide +kernel) (by decide +kernel) ?_
  exact J_sub [1, 2, 3, 4, 0] _ rfl (hk12 v4 (v5 + 1) μ)
set_option maxRecDepth 100000 in
set_option maxHeartbeats 4000000 in
theorem jMo_runs_83 {X : Cx} {l : Launch} {G : Gx} {y : Ly} {a : Nat} (hL : LyMo y a ) (hX : Ok X l G prog_13_method_62_code 6 (some .int) "SaltFiguresModel")  (v1 : Int32) (v3 : Int32) (v4 : Int32) (v5 : Int32) (s0 : Int32) (s1 : Int32) {kb12 : Int32 → Int32 → Mu → Option (Int32 × Mu)} (hk12 : ∀ (v4 : Int32) (v5 : Int32) (μ : Mu), J X G 6 2 y (emy y) rvI tpT 12 [(0, .ref (G.1 + a)), (1, .int v1), (3, .int v3), (4, .int v4), (5, .int v5)] [] (μ, y) (kb12 v4 v5 μ)) (μ : Mu) : J X G 6 2 y (emy y) rvI tpT 83 [(0, .ref (G.1 + a)), (1, .int v1), (3, .int v3), (4, .int v4), (5, .int v5)] [.int s0, .int s1, .ref (G.1 + (a + 20))] (μ, y) (Mo_runs_83 a kb12  v1 v3 v4 v5 s0 s1 μ) := by
  unfold Mo_runs_83
  refine J_stA (pc := 83) hX (by decide +kernel) hL.2.2.2.2.2.2.2.2.2.2.2.2.2.2.2.2.2.2.2.2.1.2 (fun μ1 => ?_)
  refine J_iload (pc := 84) 3 hX (by decide +kernel) rfl ?_
  refine J_iconst (pc := 86) (n := 1) (v := 1) hX (by decide +kernel) (by decide +kernel) ?_
  refine J_iadd (pc := 87) hX (by decide +kernel) ?_
  refine J_istore (pc := 88) [(4, .int (v4 + 1)), (0, .ref (G.1 + a)), (1, .int v1), (3, .int v3), (5, .int v5)] hX (by decide +kernel) (by decide) rfl ?_
  refine J_goto (pc := 90) (off := 80) (tgt := 170) hX (by decide +kernel) (by decide +kernel) ?_
  exact J_sub [1, 2, 3, 0, 4] _ rfl (jMo_runs_170 hL hX v1 v3 (v4 + 1) v5 hk12 μ1)
set_option maxRecDepth 100000 in
set_option maxHeartbeats 4000000 in
theorem jMo_runs_45 {X : Cx} {l : Launch} {G : Gx} {y : Ly} {a : Nat} (hL : LyMo y a ) (hX : Ok X l G prog_13_method_62_code 6 (some .int) "SaltFiguresModel")  (v1 : Int32) (v3 : Int32) (v4 : Int32) (v5 : Int32)  {kb12 : Int32 → Int32 → Mu → Option (Int32 × Mu)} (hk12 : ∀ (v4 : Int32) (v5 : Int32) (μ : Mu), J X G 6 2 y (emy y) rvI tpT 12 [(0, .ref (G.1 + a)), (1, .int v1), (3, .int v3), (4, .int v4), (5, .int v5)] [] (μ, y) (kb12 v4 v5 μ)) (μ : Mu) : J X G 6 2 y (emy y) rvI tpT 45 [(0, .ref (G.1 + a)), (1, .int v1), (3, .int v3), (4, .int v4), (5, .int v5)] [] (μ, y) (Mo_runs_45 a kb12  v1 v3 v4 v5  μ) := by
  unfold Mo_runs_45
  refine J_aload_n (k0 := 0) (pc := 45) 0 hX (by decide +kernel) rfl rfl ?_
  refine J_gr (pc := 46) hX (by decide +kernel) fl_Mo_71 hL.1 rfl hL.2.2.2.2.2.2.2.2.2.2.2.2.2.2.2.2.2.2.2.2.1.1 ?_
  refine J_iload (pc := 49) 3 hX (by decide +kernel) rfl ?_
  refine J_aload_n (k0 := 0) (pc := 51) 0 hX (by decide +kernel) rfl rfl ?_
  refine J_gr (pc := 52) hX (by decide +kernel) fl_Mo_43 hL.1 rfl hL.2.2.2.2.2.2.2.2.2.2.2.2.1.1 ?_
  refine J_iload (pc := 55) 4 hX (by decide +kernel) rfl ?_
  refine J_ldA (pc := 57) hX (by decide +kernel) hL.2.2.2.2.2.2.2.2.2.2.2.2.1.2 (fun x1 => ?_)
  refine J_if_ne (pc := 58) (off := 13) (tgt := 71) hX (by decide +kernel) (by decide +kernel) (fun _ => ?_) (fun _ => ?_)
  · refine J_aload_n (k0 := 0) (pc := 71) 0 hX (by decide +kernel) rfl rfl ?_
    refine J_gr (pc := 72) hX (by decide +kernel) fl_Mo_68 hL.1 rfl hL.2.2.2.2.2.2.2.2.2.2.2.2.2.2.2.2.2.2.2.1.1 ?_
    refine J_aload_n (k0 := 0) (pc := 75) 0 hX (by decide +kernel) rfl rfl ?_
    refine J_gr (pc := 76) hX (by decide +kernel) fl_Mo_46 hL.1 rfl hL.2.2.2.2.2.2.2.2.2.2.2.2.2.1.1 ?_
    refine J_iload (pc := 79) 4 hX (by decide +kernel) rfl ?_
    refine J_ldA (pc := 81) hX (by decide +kernel) hL.2.2.2.2.2.2.2.2.2.2.2.2.2.1.2 (fun x2 => ?_)
    refine J_ldA (pc := 82) hX (by decide +kernel) hL.2.2.2.2.2.2.2.2.2.2.2.2.2.2.2.2.2.2.2.1.2 (fun x3 => ?_)
    exact J_sub [0, 1, 2, 3, 4] _ rfl (jMo_runs_83 hL hX v1 v3 v4 v5 x3 v4 hk12 μ)
  · refine J_aload_n (k0 := 0) (pc := 61) 0 hX (by decide +kernel) rfl rfl ?_
    refine J_gr (pc := 62) hX (by decide +kernel) fl_Mo_46 hL.1 rfl hL.2.2.2.2.2.2.2.2.2.2.2.2.2.1.1 ?_
    refine J_iload (pc := 65) 4 hX (by decide +kernel) rfl ?_
    refine J_ldA (pc := 67) hX (by decide +kernel) hL.2.2.2.2.2.2.2.2.2.2.2.2.2.1.2 (fun x4 => ?_)
    refine J_goto (pc := 68) (off := 15) (tgt := 83) hX (by decide +kernel) (by decide +kernel) ?_
    exact J_sub [0, 1, 2, 3, 4] _ rfl (jMo_runs_83 hL hX v1 v3 v4 v5 x4 v4 hk12 μ)
set_option maxRecDepth 100000 in
set_option maxHeartbeats 4000000 in
theorem jMo_runs_12b {X : Cx} {l : Launch} {G : Gx} {y : Ly} {a : Nat} (hL : LyMo y a ) (hX : Ok X l G prog_13_method_62_code 6 (some .int) "SaltFiguresModel") (v1 : Int32) (v3 : Int32)  {kb12 : Int32 → Int32 → Mu → Option (Int32 × Mu)}  (hk12 : ∀ (v4 : Int32) (v5 : Int32) (μ : Mu), J X G 6 2 y (emy y) rvI tpT 12 [(0, .ref (G.1 + a)), (1, .int v1), (3, .int v3), (4, .int v4), (5, .int v5)] [] (μ, y) (kb12 v4 v5 μ)) (v4 : Int32) (v5 : Int32)  (μ : Mu) : J X G 6 2 y (emy y) rvI tpT 12 [(0, .ref (G.1 + a)), (1, .int v1), (3, .int v3), (4, .int v4), (5, .int v5)] [] (μ, y) (Mo_runs_12b a  kb12 v1 v3 v4 v5  μ) := by
  unfold Mo_runs_12b
  refine J_iload (pc := 12) 4 hX (by decide +kernel) rfl ?_
  refine J_sipush (pc := 14) (n := 400) (v := 400) hX (by decide +kernel) (by decide +kernel) ?_
  refine J_iload_n (k0 := 1) (pc := 17) 1 hX (by decide +kernel) rfl rfl ?_
  refine J_imul (pc := 18) hX (by decide +kernel) ?_
  refine J_iload_n (k0 := 3) (pc := 19) 2 hX (by decide +kernel) rfl rfl ?_
  refine J_iadd (pc := 20) hX (by decide +kernel) ?_
  refine J_icmp_ge (pc := 21) (off := 155) (tgt := 176) hX (by decide +kernel) (by decide +kernel) (fun _ => ?_) (fun _ => ?_)
  · refine J_aload_n (k0 := 0) (pc := 176) 0 hX (by decide +kernel) rfl rfl ?_
    refine J_gr (pc := 177) hX (by decide +kernel) fl_Mo_71 hL.1 rfl hL.2.2.2.2.2.2.2.2.2.2.2.2.2.2.2.2.2.2.2.2.1.1 ?_
    refine J_iconst (pc := 180) (n := 0) (v := 0) hX (by decide +kernel) (by decide +kernel) ?_
    refine J_ldA (pc := 181) hX (by decide +kernel) hL.2.2.2.2.2.2.2.2.2.2.2.2.2.2.2.2.2.2.2.2.1.2 (fun x1 => ?_)
    exact J_iret (pc := 182) hX (by decide +kernel) rfl trivial
  · refine J_aload_n (k0 := 0) (pc := 24) 0 hX (by decide +kernel) rfl rfl ?_
    refine J_gr (pc := 25) hX (by decide +kernel) fl_Mo_43 hL.1 rfl hL.2.2.2.2.2.2.2.2.2.2.2.2.1.1 ?_
    refine J_iload (pc := 28) 4 hX (by decide +kernel) rfl ?_
    refine J_ldA (pc := 30) hX (by decide +kernel) hL.2.2.2.2.2.2.2.2.2.2.2.2.1.2 (fun x2 => ?_)
    refine J_if_eq (pc := 31) (off := 14) (tgt := 45) hX (by decide +kernel) (by decide +kernel) (fun _ => ?_) (fun _ => ?_)
    · exact J_sub [0, 1, 2, 3, 4] _ rfl (jMo_runs_45 hL hX v1 v3 v4 v5 hk12 μ)
    · refine J_aload_n (k0 := 0) (pc := 34) 0 hX (by decide +kernel) rfl rfl ?_
      refine J_gr (pc := 35) hX (by decide +kernel) fl_Mo_43 hL.1 rfl hL.2.2.2.2.2.2.2.2.2.2.2.2.1.1 ?_
      refine J_iload (pc := 38) 4 hX (by decide +kernel) rfl ?_
      refine J_ldA (pc := 40) hX (by decide +kernel) hL.2.2.2.2.2.2.2.2.2.2.2.2.1.2 (fun x3 => ?_)
      refine J_iconst (pc := 41) (n := 1) (v := 1) hX (by decide +kernel) (by decide +kernel) ?_
      refine J_icmp_ne (pc := 42) (off := 51) (tgt := 93) hX (by decide +kernel) (by decide +kernel) (fun _ => ?_) (fun _ => ?_)
      · refine J_aload_n (k0 := 0) (pc := 93) 0 hX (by decide +kernel) rfl rfl ?_
        refine J_gr (pc := 94) hX (by decide +kernel) fl_Mo_43 hL.1 rfl hL.2.2.2.2.2.2.2.2.2.2.2.2.1.1 ?_
        refine J_iload (pc := 97) 4 hX (by decide +kernel) rfl ?_
        refine J_ldA (pc := 99) hX (by decide +kernel) hL.2.2.2.2.2.2.2.2.2.2.2.2.1.2 (fun x4 => ?_)
        refine J_bipush (pc := 100) (n := 9) (v := 9) hX (by decide +kernel) (by decide +kernel) ?_
        refine J_icmp_ne (pc := 102) (off := 26) (tgt := 128) hX (by decide +kernel) (by decide +kernel) (fun _ => ?_) (fun _ => ?_)
        · refine J_iload (pc := 128) 3 hX (by decide +kernel) rfl ?_
          refine J_iconst (pc := 130) (n := 1) (v := 1) hX (by decide +kernel) (by decide +kernel) ?_
          refine J_isub (pc := 131) hX (by decide +kernel) ?_
          refine J_istore (pc := 132) [(4, .int (v4 - 1)), (0, .ref (G.1 + a)), (1, .int v1), (3, .int v3), (5, .int v5)] hX (by decide +kernel) (by decide) rfl ?_
          refine J_aload_n (k0 := 0) (pc := 134) 1 hX (by decide +kernel) rfl rfl ?_
          refine J_gr (pc := 135) hX (by decide +kernel) fl_Mo_71 hL.1 rfl hL.2.2.2.2.2.2.2.2.2.2.2.2.2.2.2.2.2.2.2.2.1.1 ?_
          refine J_iload (pc := 138) 0 hX (by decide +kernel) rfl ?_
          refine J_iconst (pc := 140) (n := 1) (v := 1) hX (by decide +kernel) (by decide +kernel) ?_
          refine J_isub (pc := 141) hX (by decide +kernel) ?_
          refine J_aload_n (k0 := 0) (pc := 142) 1 hX (by decide +kernel) rfl rfl ?_
          refine J_aload_n (k0 := 0) (pc := 143) 1 hX (by decide +kernel) rfl rfl ?_
          refine J_gr (pc := 144) hX (by decide +kernel) fl_Mo_43 hL.1 rfl hL.2.2.2.2.2.2.2.2.2.2.2.2.1.1 ?_
          refine J_iload (pc := 147) 4 hX (by decide +kernel) rfl ?_
          refine J_ldA (pc := 149) hX (by decide +kernel) hL.2.2.2.2.2.2.2.2.2.2.2.2.1.2 (fun x5 => ?_)
          refine J_aload_n (k0 := 0) (pc := 150) 1 hX (by decide +kernel) rfl rfl ?_
          refine J_gr (pc := 151) hX (by decide +kernel) fl_Mo_71 hL.1 rfl hL.2.2.2.2.2.2.2.2.2.2.2.2.2.2.2.2.2.2.2.2.1.1 ?_
          refine J_iload (pc := 154) 0 hX (by decide +kernel) rfl ?_
          refine J_iconst (pc := 156) (n := 1) (v := 1) hX (by decide +kernel) (by decide +kernel) ?_
          refine J_isub (pc := 157) hX (by decide +kernel) ?_
          refine J_ldA (pc := 158) hX (by decide +kernel) hL.2.2.2.2.2.2.2.2.2.2.2.2.2.2.2.2.2.2.2.2.1.2 (fun x6 => ?_)
          refine J_aload_n (k0 := 0) (pc := 159) 1 hX (by decide +kernel) rfl rfl ?_
          refine J_gr (pc := 160) hX (by decide +kernel) fl_Mo_71 hL.1 rfl hL.2.2.2.2.2.2.2.2.2.2.2.2.2.2.2.2.2.2.2.2.1.1 ?_
          refine J_iload (pc := 163) 0 hX (by decide +kernel) rfl ?_
          refine J_ldA (pc := 165) hX (by decide +kernel) hL.2.2.2.2.2.2.2.2.2.2.2.2.2.2.2.2.2.2.2.2.1.2 (fun x7 => ?_)
          refine J_cVi (pc := 166) (idx := 318) [.int x5, .int x6, .int x7] hX (by decide +kernel) (mq mt_7 206 (by decide +kernel)) mv_Mo_twoOf hL.1 rfl rfl (Nat.le_of_ble_eq_true rfl) (Nat.le_of_ble_eq_true rfl) (c_Mo_twoOf hL x5 x6 x7 μ) (fun x9 μ8 => ?_)
          refine J_stA (pc := 169) hX (by decide +kernel) hL.2.2.2.2.2.2.2.2.2.2.2.2.2.2.2.2.2.2.2.2.1.2 (fun μ10 => ?_)
          exact J_sub [1, 2, 3, 0, 4] _ rfl (jMo_runs_170 hL hX v1 v3 (v4 - 1) v5 hk12 μ10)
        · refine J_aload_n (k0 := 0) (pc := 105) 0 hX (by decide +kernel) rfl rfl ?_
          refine J_gr (pc := 106) hX (by decide +kernel) fl_Mo_71 hL.1 rfl hL.2.2.2.2.2.2.2.2.2.2.2.2.2.2.2.2.2.2.2.2.1.1 ?_
          refine J_iload (pc := 109) 3 hX (by decide +kernel) rfl ?_
          refine J_iconst (pc := 111) (n := 1) (v := 1) hX (by decide +kernel) (by decide +kernel) ?_
          refine J_isub (pc := 112) hX (by decide +kernel) ?_
          refine J_iconst (pc := 113) (n := 1) (v := 1) hX (by decide +kernel) (by decide +kernel) ?_
          refine J_aload_n (k0 := 0) (pc := 114) 0 hX (by decide +kernel) rfl rfl ?_
          refine J_gr (pc := 115) hX (by decide +kernel) fl_Mo_71 hL.1 rfl hL.2.2.2.2.2.2.2.2.2.2.2.2.2.2.2.2.2.2.2.2.1.1 ?_
          refine J_iload (pc := 118) 3 hX (by decide +kernel) rfl ?_
          refine J_iconst (pc := 120) (n := 1) (v := 1) hX (by decide +kernel) (by decide +kernel) ?_
          refine J_isub (pc := 121) hX (by decide +kernel) ?_
          refine J_ldA (pc := 122) hX (by decide +kernel) hL.2.2.2.2.2.2.2.2.2.2.2.2.2.2.2.2.2.2.2.2.1.2 (fun x11 => ?_)
          refine J_isub (pc := 123) hX (by decide +kernel) ?_
          refine J_stA (pc := 124) hX (by decide +kernel) hL.2.2.2.2.2.2.2.2.2.2.2.2.2.2.2.2.2.2.2.2.1.2 (fun μ12 => ?_)
          refine J_goto (pc := 125) (off := 45) (tgt := 170) hX (by decide +kernel) (by decide +kernel) ?_
          exact J_sub [0, 1, 2, 3, 4] _ rfl (jMo_runs_170 hL hX v1 v3 v4 v5 hk12 μ12)
      · exact J_sub [0, 1, 2, 3, 4] _ rfl (jMo_runs_45 hL hX v1 v3 v4 v5 hk12 μ)
set_option maxRecDepth 100000 in
set_option maxHeartbeats 4000000 in
theorem jMo_runs_12 {X : Cx} {l : Launch} {G : Gx} {y : Ly} {a : Nat} (hL : LyMo y a ) (hX : Ok X l G prog_13_method_62_code 6 (some .int) "SaltFiguresModel") (v1 : Int32) (v3 : Int32)   : ∀ (n0 : Nat) (v4 : Int32) (v5 : Int32) (μ : Mu), J X G 6 2 y (emy y) rvI tpT 12 [(0, .ref (G.1 + a)), (1, .int v1), (3, .int v3), (4, .int v4), (5, .int v5)] [] (μ, y) (Mo_runs_12 a  v1 v3 n0 v4 v5 μ) := by
  intro n0
  induction n0 with
  | zero => intros; exact J_none
  | succ n0 ih => intro v4 v5 μ; exact jMo_runs_12b hL hX v1 v3  ih v4 v5 μ
set_option maxRecDepth 100000 in
set_option maxHeartbeats 4000000 in
theorem jMo_runs {X : Cx} {l : Launch} {G : Gx} {y : Ly} {a : Nat} (hL : LyMo y a ) (hX : Ok X l G prog_13_method_62_code 6 (some .int) "SaltFiguresModel") (v1 : Int32) (v2 : Int32) (v3 : Int32) (μ : Mu) : J X G 6 2 y (emy y) rvI tpT 0 [(0, .ref (G.1 + a)), (1, .int v1), (2, .int v2), (3, .int v3)] [] (μ, y) (Mo_runs a v1 v2 v3 μ) := by
  unfold Mo_runs
  refine J_iconst (pc := 0) (n := 0) (v := 0) hX (by decide +kernel) (by decide +kernel) ?_
  refine J_istore (pc := 1) [(4, .int 0), (0, .ref (G.1 + a)), (1, .int v1), (2, .int v2), (3, .int v3)] hX (by decide +kernel) (by decide) rfl ?_
  refine J_sipush (pc := 3) (n := 400) (v := 400) hX (by decide +kernel) (by decide +kernel) ?_
  refine J_iload_n (k0 := 1) (pc := 6) 2 hX (by decide +kernel) rfl rfl ?_
  refine J_imul (pc := 7) hX (by decide +kernel) ?_
  refine J_iload_n (k0 := 2) (pc := 8) 3 hX (by decide +kernel) rfl rfl ?_
  refine J_iadd (pc := 9) hX (by decide +kernel) ?_
  refine J_istore (pc := 10) [(5, .int ((400 * v1) + v2)), (4, .int 0), (0, .ref (G.1 + a)), (1, .int v1), (2, .int v2), (3, .int v3)] hX (by decide +kernel) (by decide) rfl ?_
  exact J_sub [2, 3, 5, 1, 0] _ rfl (jMo_runs_12 hL hX v1 v3 FU 0 ((400 * v1) + v2) μ)
set_option maxRecDepth 100000 in
set_option maxHeartbeats 4000000 in
theorem c_Mo_runs {l : Launch} {G : Gx} {y : Ly} {a : Nat} (hL : LyMo y a ) (v1 : Int32) (v2 : Int32) (v3 : Int32) (μ : Mu) : Cn l G ⟨"SaltFiguresModel", "runs", "(III)I"⟩ prog_13_method_62_code 6 (some .int) 2 [.ref (G.1 + a), .int v1, .int v2, .int v3] (μ, y) (emy y) rvI tpT (Mo_runs a v1 v2 v3 μ) := cn_of (by decide +kernel) (Nat.le_of_ble_eq_true rfl) (fun _ _ _ => ⟨List.prefix_refl _, trivial⟩) (fun X hX _ => jMo_runs hL hX v1 v2 v3 μ)
