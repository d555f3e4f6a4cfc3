/-! THE REFERENCE: models and their rows (by program) -/
def Mo_days_36b (a : Nat)  (kb36 : Int32 → Int32 → Mu → Option (Int32 × Mu)) (v1 : Int32) (v2 : Int32) (v3 : Int32)  (μ : Mu) : Option (Int32 × Mu) := (if v1 ≤ v3 then some (v2, μ) else cl (Mo_keepsAhead a μ) (fun _ μ1 => cl (Mo_goesBy a μ1) (fun x3 μ2 => kb36 (v2 + x3) (v3 + 1) μ2)))
def Mo_days_36 (a : Nat)  (v1 : Int32) (fu : Nat) : Int32 → Int32 → Mu → Option (Int32 × Mu) := lp (fun kb => Mo_days_36b a  kb v1) (fun _ _ _ => none) fu
def Mo_days (a : Nat) (v1 : Int32) (μ : Mu) : Option (Int32 × Mu) := pF μ a 0 0 (fun μ1 => cl (Mo_isIn a v1 1 60 μ1) (fun x3 μ2 => (if x3 = 0 then some ((-1), μ2) else ldA μ2 (a + 1) 118 0 (fun x4 => (if (x4 + v1) ≤ 9999 then Mo_days_36 a v1 FU 0 0 μ2 else some ((-1), μ2))))))
set_option maxRecDepth 100000 in
set_option maxHeartbeats 4000000 in
theorem jMo_days_36b {X : Cx} {l : Launch} {G : Gx} {y : Ly} {a : Nat} (hL : LyMo y a ) (hX : Ok X l G prog_13_method_84_code 4 (some .int) "SaltFiguresModel") (v1 : Int32)  {kb36 : Int32 → Int32 → Mu → Option (Int32 × Mu)}  (hk36 : ∀ (v2 : Int32) (v3 : Int32) (μ : Mu), J X G 4 10 y (emy y) rvI tpT 36 [(0, .ref (G.1 + a)), (1, .int v1), (2, .int v2), (3, .int v3)] [] (μ, y) (kb36 v2 v3 μ)) (v2 : Int32) (v3 : Int32)  (μ : Mu) : J X G 4 10 y (emy y) rvI tpT 36 [(0, .ref (G.1 + a)), (1, .int v1), (2, .int v2), (3, .int v3)] [] (μ, y) (Mo_days_36b a  kb36 v1 v2 v3  μ) := by
  unfold Mo_days_36b
  refine J_iload_n (k0 := 3) (pc := 36) 3 hX (by decide +kernel) rfl rfl ?_
  refine J_iload_n (k0 := 1) (pc := 37) 1 hX (by decide +kernel) rfl rfl ?_
  refine J_icmp_ge (pc := 38) (off := 20) (tgt := 58) hX (by decide +kernel) (by decide +kernel) (fun _ => ?_) (fun _ => ?_)
  · refine J_iload_n (k0 := 2) (pc := 58) 2 hX (by decide +kernel) rfl rfl ?_
    exact J_iret (pc := 59) hX (by decide +kernel) rfl trivial
  · refine J_aload_n (k0 := 0) (pc := 41) 0 hX (by decide +kernel) rfl rfl ?_
    refine J_cVv (pc := 42) (idx := 358) [] hX (by decide +kernel) (mq mt_7 170 (by decide +kernel)) mv_Mo_keepsAhead hL.1 rfl rfl (Nat.le_of_ble_eq_true rfl) (Nat.le_of_ble_eq_true rfl) (c_Mo_keepsAhead hL μ) (fun μ1 => ?_)
    refine J_iload_n (k0 := 2) (pc := 45) 2 hX (by decide +kernel) rfl rfl ?_
    refine J_aload_n (k0 := 0) (pc := 46) 0 hX (by decide +kernel) rfl rfl ?_
    refine J_cVi (pc := 47) (idx := 397) [] hX (by decide +kernel) (mq mt_7 238 (by decide +kernel)) mv_Mo_goesBy hL.1 rfl rfl (Nat.le_of_ble_eq_true rfl) (Nat.le_of_ble_eq_true rfl) (c_Mo_goesBy hL μ1) (fun x3 μ2 => ?_)
    refine J_iadd (pc := 50) hX (by decide +kernel) ?_
    refine J_istore_n (k0 := 2) (pc := 51) [(2, .int (v2 + x3)), (0, .ref (G.1 + a)), (1, .int v1), (3, .int v3)] hX (by decide +kernel) rfl (by decide) rfl ?_
    refine J_iinc (pc := 52) (n := 1) 3 [(3, .int (v3 + 1)), (2, .int (v2 + x3)), (0, .ref (G.1 + a)), (1, .int v1)] hX (by decide +kernel) rfl rfl (by decide) rfl ?_
    refine J_goto (pc := 55) (off := -19) (tgt := 36) hX (by decide +kernel) (by decide +kernel) ?_
    exact J_sub [2, 3, 1, 0] _ rfl (hk36 (v2 + x3) (v3 + 1) μ2)
set_option maxRecDepth 100000 in
set_option maxHeartbeats 4000000 in
theorem jMo_days_36 {X : Cx} {l : Launch} {G : Gx} {y : Ly} {a : Nat} (hL : LyMo y a ) (hX : Ok X l G prog_13_method_84_code 4 (some .int) "SaltFiguresModel") (v1 : Int32)   : ∀ (fu : Nat) (v2 : Int32) (v3 : Int32) (μ : Mu), J X G 4 10 y (emy y) rvI tpT 36 [(0, .ref (G.1 + a)), (1, .int v1), (2, .int v2), (3, .int v3)] [] (μ, y) (Mo_days_36 a  v1 fu v2 v3 μ) := by
  intro fu
  induction fu with
  | zero => intros; exact J_none
  | succ fu ih => intro v2 v3 μ; exact jMo_days_36b hL hX v1  ih v2 v3 μ
set_option maxRecDepth 100000 in
set_option maxHeartbeats 4000000 in
theorem jMo_days {X : Cx} {l : Launch} {G : Gx} {y : Ly} {a : Nat} (hL : LyMo y a ) (hX : Ok X l G prog_13_method_84_code 4 (some .int) "SaltFiguresModel") (v1 : Int32) (μ : Mu) : J X G 4 10 y (emy y) rvI tpT 0 [(0, .ref (G.1 + a)), (1, .int v1)] [] (μ, y) (Mo_days a v1 μ) := by
  unfold Mo_days
  refine J_aload_n (k0 := 0) (pc := 0) 0 hX (by decide +kernel) rfl rfl ?_
  refine J_iconst (pc := 1) (n := 0) (v := 0) hX (by decide +kernel) (by decide +kernel) ?_
  refine J_pF (pc := 2) hX (by decide +kernel) fl_Mo_131 hL.1 rfl (fun μ1 => ?_)
  refine J_aload_n (k0 := 0) (pc := 5) 0 hX (by decide +kernel) rfl rfl ?_
  refine J_iload_n (k0 := 1) (pc := 6) 1 hX (by decide +kernel) rfl rfl ?_
  refine J_iconst (pc := 7) (n := 1) (v := 1) hX (by decide +kernel) (by decide +kernel) ?_
  refine J_bipush (pc := 8) (n := 60) (v := 60) hX (by decide +kernel) (by decide +kernel) ?_
  refine J_cVi (pc := 10) (idx := 154) [.int v1, .int 1, .int 60] hX (by decide +kernel) (mq mt_6 226 (by decide +kernel)) mv_Mo_isIn hL.1 rfl rfl (Nat.le_of_ble_eq_true rfl) (Nat.le_of_ble_eq_true rfl) (c_Mo_isIn hL v1 1 60 μ1) (fun x3 μ2 => ?_)
  refine J_if_eq (pc := 13) (off := 17) (tgt := 30) hX (by decide +kernel) (by decide +kernel) (fun _ => ?_) (fun _ => ?_)
  · refine J_iconst (pc := 30) (n := -1) (v := (-1)) hX (by decide +kernel) (by decide +kernel) ?_
    exact J_iret (pc := 31) hX (by decide +kernel) rfl trivial
  · refine J_aload_n (k0 := 0) (pc := 16) 0 hX (by decide +kernel) rfl rfl ?_
    refine J_gr (pc := 17) hX (by decide +kernel) fl_Mo_7 hL.1 rfl hL.2.1.1 ?_
    refine J_iconst (pc := 20) (n := 0) (v := 0) hX (by decide +kernel) (by decide +kernel) ?_
    refine J_ldA (pc := 21) hX (by decide +kernel) hL.2.1.2 (fun x4 => ?_)
    refine J_iload_n (k0 := 1) (pc := 22) 1 hX (by decide +kernel) rfl rfl ?_
    refine J_iadd (pc := 23) hX (by decide +kernel) ?_
    refine J_sipush (pc := 24) (n := 9999) (v := 9999) hX (by decide +kernel) (by decide +kernel) ?_
    refine J_icmp_le (pc := 27) (off := 5) (tgt := 32) hX (by decide +kernel) (by decide +kernel) (fun _ => ?_) (fun _ => ?_)
    · refine J_iconst (pc := 32) (n := 0) (v := 0) hX (by decide +kernel) (by decide +kernel) ?_
      refine J_istore_n (k0 := 2) (pc := 33) [(2, .int 0), (0, .ref (G.1 + a)), (1, .int v1)] hX (by decide +kernel) rfl (by decide) rfl ?_
      refine J_iconst (pc := 34) (n := 0) (v := 0) hX (by decide +kernel) (by decide +kernel) ?_
      refine J_istore_n (k0 := 3) (pc := 35) [(3, .int 0), (2, .int 0), (0, .ref (G.1 + a)), (1, .int v1)] hX (by decide +kernel) rfl (by decide) rfl ?_
      exact J_sub [2, 3, 1, 0] _ rfl (jMo_days_36 hL hX v1 FU 0 0 μ2)
    · refine J_iconst (pc := 30) (n := -1) (v := (-1)) hX (by decide +kernel) (by decide +kernel) ?_
      exact J_iret (pc := 31) hX (by decide +kernel) rfl trivial
set_option maxRecDepth 100000 in
set_option maxHeartbeats 4000000 in
theorem c_Mo_days {l : Launch} {G : Gx} {y : Ly} {a : Nat} (hL : LyMo y a ) (v1 : Int32) (μ : Mu) : Cn l G ⟨"SaltFiguresModel", "days", "(I)I"⟩ prog_13_method_84_code 4 (some .int) 10 [.ref (G.1 + a), .int v1] (μ, y) (emy y) rvI tpT (Mo_days a v1 μ) := cn_of (by decide +kernel) (Nat.le_of_ble_eq_true rfl) (fun _ _ _ => ⟨List.prefix_refl _, trivial⟩) (fun X hX _ => jMo_days hL hX v1 μ)

def Mo_doorHigh (a : Nat) (v1 : Int32) (μ : Mu) : Option (Int32 × Mu) := cl (Mo_whoHas a v1 μ) (fun x2 μ1 => (if x2 = ((-1)) then some (0, μ1) else ldA μ1 (a + 1) 118 (22 + x2) (fun x3 => some (x3 / 100, μ1))))
set_option maxRecDepth 100000 in
set_option maxHeartbeats 4000000 in
theorem jMo_doorHigh {X : Cx} {l : Launch} {G : Gx} {y : Ly} {a : Nat} (hL : LyMo y a ) (hX : Ok X l G prog_13_method_90_code 3 (some .int) "SaltFiguresModel") (v1 : Int32) (μ : Mu) : J X G 3 3 y (emy y) rvI tpT 0 [(0, .ref (G.1 + a)), (1, .int v1)] [] (μ, y) (Mo_doorHigh a v1 μ) := by
  unfold Mo_doorHigh
  refine J_aload_n (k0 := 0) (pc := 0) 0 hX (by decide +kernel) rfl rfl ?_
  refine J_iload_n (k0 := 1) (pc := 1) 1 hX (by decide +kernel) rfl rfl ?_
  refine J_cVi (pc := 2) (idx := 151) [.int v1] hX (by decide +kernel) (mq mt_7 150 (by decide +kernel)) mv_Mo_whoHas hL.1 rfl rfl (Nat.le_of_ble_eq_true rfl) (Nat.le_of_ble_eq_true rfl) (c_Mo_whoHas hL v1 μ) (fun x2 μ1 => ?_)
  refine J_istore_n (k0 := 2) (pc := 5) [(2, .int x2), (0, .ref (G.1 + a)), (1, .int v1)] hX (by decide +kernel) rfl (by decide) rfl ?_
  refine J_iload_n (k0 := 2) (pc := 6) 0 hX (by decide +kernel) rfl rfl ?_
  refine J_iconst (pc := 7) (n := -1) (v := (-1)) hX (by decide +kernel) (by decide +kernel) ?_
  refine J_icmp_ne (pc := 8) (off := 7) (tgt := 15) hX (by decide +kernel) (by decide +kernel) (fun _ => ?_) (fun _ => ?_)
  · refine J_aload_n (k0 := 0) (pc := 15) 1 hX (by decide +kernel) rfl rfl ?_
    refine J_gr (pc := 16) hX (by decide +kernel) fl_Mo_7 hL.1 rfl hL.2.1.1 ?_
    refine J_bipush (pc := 19) (n := 22) (v := 22) hX (by decide +kernel) (by decide +kernel) ?_
    refine J_iload_n (k0 := 2) (pc := 21) 0 hX (by decide +kernel) rfl rfl ?_
    refine J_iadd (pc := 22) hX (by decide +kernel) ?_
    refine J_ldA (pc := 23) hX (by decide +kernel) hL.2.1.2 (fun x3 => ?_)
    refine J_bipush (pc := 24) (n := 100) (v := 100) hX (by decide +kernel) (by decide +kernel) ?_
    refine J_idivK (pc := 26) hX (by decide +kernel) (by decide +kernel) ?_
    exact J_iret (pc := 27) hX (by decide +kernel) rfl trivial
  · refine J_iconst (pc := 11) (n := 0) (v := 0) hX (by decide +kernel) (by decide +kernel) ?_
    refine J_goto (pc := 12) (off := 15) (tgt := 27) hX (by decide +kernel) (by decide +kernel) ?_
    exact J_iret (pc := 27) hX (by decide +kernel) rfl trivial
set_option maxRecDepth 100000 in
set_option maxHeartbeats 4000000 in
theorem c_Mo_doorHigh {l : Launch} {G : Gx} {y : Ly} {a : Nat} (hL : LyMo y a ) (v1 : Int32) (μ : Mu) : Cn l G ⟨"SaltFiguresModel", "doorHigh", "(I)I"⟩ prog_13_method_90_code 3 (some .int) 3 [.ref (G.1 + a), .int v1] (μ, y) (emy y) rvI tpT (Mo_doorHigh a v1 μ) := cn_of (by decide +kernel) (Nat.le_of_ble_eq_true rfl) (fun _ _ _ => ⟨List.prefix_refl _, trivial⟩) (fun X hX _ => jMo_doorHigh hL hX v1 μ)

def Mo_door_99 (a : Nat) (kb27 : Int32 → Int32 → Int32 → Int32 → Mu → Option (Int32 × Mu)) (kb43 : Int32 → Int32 → Int32 → Int32 → Int32 → Mu → Option (Int32 × Mu))  (v1 : Int32) (v2 : Int32) (v3 : Int32) (v4 : Int32) (v5 : Int32) (v6 : Int32) (v7 : Int32)  (μ : Mu) : Option (Int32 × Mu) := kb43 v2 v3 v4 v6 (v7 + 1) μ
def Mo_door_43b (a : Nat) (kb27 : Int32 → Int32 → Int32 → Int32 → Mu → Option (Int32 × Mu)) (kb43 : Int32 → Int32 → Int32 → Int32 → Int32 → Mu → Option (Int32 × Mu)) (v1 : Int32) (v5 : Int32) (v2 : Int32) (v3 : Int32) (v4 : Int32) (v6 : Int32) (v7 : Int32)  (μ : Mu) : Option (Int32 × Mu) := (if 16 ≤ v7 then kb27 v2 v3 v4 (v5 + 1) μ else cl (Mo_doorHigh a v7 μ) (fun x2 μ1 => cl (Mo_lesser a v6 x2 μ1) (fun x4 μ3 => (if v2 < (((v7 - v5) + 1) * x4) then Mo_door_99 a kb27 kb43 v1 (((v7 - v5) + 1) * x4) v5 v7 v5 x4 v7 μ3 else Mo_door_99 a kb27 kb43 v1 v2 v3 v4 v5 x4 v7 μ3))))
def Mo_door_43 (a : Nat) (kb27 : Int32 → Int32 → Int32 → Int32 → Mu → Option (Int32 × Mu)) (v1 : Int32) (v5 : Int32) (fu : Nat) : Int32 → Int32 → Int32 → Int32 → Int32 → Mu → Option (Int32 × Mu) := lp (fun kb => Mo_door_43b a kb27 kb v1 v5) (fun _ _ _ _ _ _ => none) fu
def Mo_door_27b (a : Nat)  (kb27 : Int32 → Int32 → Int32 → Int32 → Mu → Option (Int32 × Mu)) (v1 : Int32) (v2 : Int32) (v3 : Int32) (v4 : Int32) (v5 : Int32)  (μ : Mu) : Option (Int32 × Mu) := (if 16 ≤ v5 then (if v1 = 0 then some (v2, μ) else (if v1 = 1 then some (v3, μ) else some (v4, μ))) else Mo_door_43 a kb27 v1 v5 FU v2 v3 v4 100000000 v5 μ)
def Mo_door_27 (a : Nat)  (v1 : Int32) (fu : Nat) : Int32 → Int32 → Int32 → Int32 → Mu → Option (Int32 × Mu) := lp (fun kb => Mo_door_27b a  kb v1) (fun _ _ _ _ _ => none) fu
def Mo_door (a : Nat) (v1 : Int32) (μ : Mu) : Option (Int32 × Mu) := pF μ a 0 0 (fun μ1 => cl (Mo_isIn a v1 0 2 μ1) (fun x3 μ2 => (if x3 = 0 then some ((-1), μ2) else Mo_door_27 a v1 FU 0 ((-1)) ((-1)) 0 μ2)))
set_option maxRecDepth 100000 in
set_option maxHeartbeats 4000000 in
theorem jMo_door_99 {X : Cx} {l : Launch} {G : Gx} {y : Ly} {a : Nat} (hL : LyMo y a ) (hX : Ok X l G prog_13_method_91_code 8 (some .int) "SaltFiguresModel")  (v1 : Int32) (v2 : Int32) (v3 : Int32) (v4 : Int32) (v5 : Int32) (v6 : Int32) (v7 : Int32)  {kb27 : Int32 → Int32 → Int32 → Int32 → Mu → Option (Int32 × Mu)} {kb43 : Int32 → Int32 → Int32 → Int32 → Int32 → Mu → Option (Int32 × Mu)} (hk27 : ∀ (v2 : Int32) (v3 : Int32) (v4 : Int32) (v5 : Int32) (μ : Mu), J X G 8 4 y (emy y) rvI tpT 27 [(0, .ref (G.1 + a)), (1, .int v1), (2, .int v2), (3, .int v3), (4, .int v4), (5, .int v5)] [] (μ, y) (kb27 v2 v3 v4 v5 μ)) (hk43 : ∀ (v2 : Int32) (v3 : Int32) (v4 : Int32) (v6 : Int32) (v7 : Int32) (μ : Mu), J X G 8 4 y (emy y) rvI tpT 43 [(0, .ref (G.1 + a)), (1, .int v1), (2, .int v2), (3, .int v3), (4, .int v4), (5, .int v5), (6, .int v6), (7, .int v7)] [] (μ, y) (kb43 v2 v3 v4 v6 v7 μ)) (μ : Mu) : J X G 8 4 y (emy y) rvI tpT 99 [(0, .ref (G.1 + a)), (1, .int v1), (2, .int v2), (3, .int v3), (4, .int v4), (5, .int v5), (6, .int v6), (7, .int v7)] [] (μ, y) (Mo_door_99 a kb27 kb43  v1 v2 v3 v4 v5 v6 v7  μ) := by
  unfold Mo_door_99
  refine J_iinc (pc := 99) (n := 1) 7 [(7, .int (v7 + 1)), (0, .ref (G.1 + a)), (1, .int v1), (2, .int v2), (3, .int v3), (4, .int v4), (5, .int v5), (6, .int v6)] hX (by decide +kernel) rfl rfl (by decide) rfl ?_
  refine J_goto (pc := 102) (off := -59) (tgt := 43) hX (by decide +kernel) (by decide +kernel) ?_
  exact J_sub [1, 2, 3, 4, 5, 6, 7, 0] _ rfl (hk43 v2 v3 v4 v6 (v7 + 1) μ)
set_option maxRecDepth 100000 in
set_option maxHeartbeats 4000000 in
theorem jMo_door_43b {X : Cx} {l : Launch} {G : Gx} {y : Ly} {a : Nat} (hL : LyMo y a ) (hX : Ok X l G prog_13_method_91_code 8 (some .int) "SaltFiguresModel") (v1 : Int32) (v5 : Int32) {kb27 : Int32 → Int32 → Int32 → Int32 → Mu → Option (Int32 × Mu)} {kb43 : Int32 → Int32 → Int32 → Int32 → Int32 → Mu → Option (Int32 × Mu)} (hk27 : ∀ (v2 : Int32) (v3 : Int32) (v4 : Int32) (v5 : Int32) (μ : Mu), J X G 8 4 y (emy y) rvI tpT 27 [(0, .ref (G.1 + a)), (1, .int v1), (2, .int v2), (3, .int v3), (4, .int v4), (5, .int v5)] [] (μ, y) (kb27 v2 v3 v4 v5 μ)) (hk43 : ∀ (v2 : Int32) (v3 : Int32) (v4 : Int32) (v6 : Int32) (v7 : Int32) (μ : Mu), J X G 8 4 y (emy y) rvI tpT 43 [(0, .ref (G.1 + a)), (1, .int v1), (2, .int v2), (3, .int v3), (4, .int v4), (5, .int v5), (6, .int v6), (7, .int v7)] [] (μ, y) (kb43 v2 v3 v4 v6 v7 μ)) (v2 : Int32) (v3 : Int32) (v4 : Int32) (v6 : Int32) (v7 : Int32)  (μ : Mu) : J X G 8 4 y (emy y) rvI tpT 43 [(0, .ref (G.1 + a)), (1, .int v1), (2, .int v2), (3, .int v3), (4, .int v4), (5, .int v5), (6, .int v6), (7, .int v7)] [] (μ, y) (Mo_door_43b a kb27 kb43 v1 v5 v2 v3 v4 v6 v7  μ) := by
  unfold Mo_door_43b
  refine J_iload (pc := 43) 7 hX (by decide +kernel) rfl ?_
  refine J_bipush (pc := 45) (n := 16) (v := 16) hX (by decide +kernel) (by decide +kernel) ?_
  refine J_icmp_ge (pc := 47) (off := 58) (tgt := 105) hX (by decide +kernel) (by decide +kernel) (fun _ => ?_) (fun _ => ?_)
  · refine J_iinc (pc := 105) (n := 1) 5 [(5, .int (v5 + 1)), (0, .ref (G.1 + a)), (1, .int v1), (2, .int v2), (3, .int v3), (4, .int v4), (6, .int v6), (7, .int v7)] hX (by decide +kernel) rfl rfl (by decide) rfl ?_
    refine J_goto (pc := 108) (off := -81) (tgt := 27) hX (by decide +kernel) (by decide +kernel) ?_
    exact J_sub [1, 2, 3, 4, 5, 0] _ rfl (hk27 v2 v3 v4 (v5 + 1) μ)
  · refine J_aload_n (k0 := 0) (pc := 50) 0 hX (by decide +kernel) rfl rfl ?_
    refine J_iload (pc := 51) 6 hX (by decide +kernel) rfl ?_
    refine J_aload_n (k0 := 0) (pc := 53) 0 hX (by decide +kernel) rfl rfl ?_
    refine J_iload (pc := 54) 7 hX (by decide +kernel) rfl ?_
    refine J_cVi (pc := 56) (idx := 410) [.int v7] hX (by decide +kernel) (mq mt_8 73 (by decide +kernel)) mv_Mo_doorHigh hL.1 rfl rfl (Nat.le_of_ble_eq_true rfl) (Nat.le_of_ble_eq_true rfl) (c_Mo_doorHigh hL v7 μ) (fun x2 μ1 => ?_)
    refine J_cVi (pc := 59) (idx := 342) [.int v6, .int x2] hX (by decide +kernel) (mq mt_7 218 (by decide +kernel)) mv_Mo_lesser hL.1 rfl rfl (Nat.le_of_ble_eq_true rfl) (Nat.le_of_ble_eq_true rfl) (c_Mo_lesser hL v6 x2 μ1) (fun x4 μ3 => ?_)
    refine J_istore (pc := 62) [(6, .int x4), (0, .ref (G.1 + a)), (1, .int v1), (2, .int v2), (3, .int v3), (4, .int v4), (5, .int v5), (7, .int v7)] hX (by decide +kernel) (by decide) rfl ?_
    refine J_iload (pc := 64) 7 hX (by decide +kernel) rfl ?_
    refine J_iload (pc := 66) 6 hX (by decide +kernel) rfl ?_
    refine J_isub (pc := 68) hX (by decide +kernel) ?_
    refine J_iconst (pc := 69) (n := 1) (v := 1) hX (by decide +kernel) (by decide +kernel) ?_
    refine J_iadd (pc := 70) hX (by decide +kernel) ?_
    refine J_iload (pc := 71) 0 hX (by decide +kernel) rfl ?_
    refine J_imul (pc := 73) hX (by decide +kernel) ?_
    refine J_iload_n (k0 := 2) (pc := 74) 3 hX (by decide +kernel) rfl rfl ?_
    refine J_icmp_gt (pc := 75) (off := 6) (tgt := 81) hX (by decide +kernel) (by decide +kernel) (fun _ => ?_) (fun _ => ?_)
    · refine J_iload (pc := 81) 7 hX (by decide +kernel) rfl ?_
      refine J_iload (pc := 83) 6 hX (by decide +kernel) rfl ?_
      refine J_isub (pc := 85) hX (by decide +kernel) ?_
      refine J_iconst (pc := 86) (n := 1) (v := 1) hX (by decide +kernel) (by decide +kernel) ?_
      refine J_iadd (pc := 87) hX (by decide +kernel) ?_
      refine J_iload (pc := 88) 0 hX (by decide +kernel) rfl ?_
      refine J_imul (pc := 90) hX (by decide +kernel) ?_
      refine J_istore_n (k0 := 2) (pc := 91) [(2, .int (((v7 - v5) + 1) * x4)), (6, .int x4), (0, .ref (G.1 + a)), (1, .int v1), (3, .int v3), (4, .int v4), (5, .int v5), (7, .int v7)] hX (by decide +kernel) rfl (by decide) rfl ?_
      refine J_iload (pc := 92) 6 hX (by decide +kernel) rfl ?_
      refine J_istore_n (k0 := 3) (pc := 94) [(3, .int v5), (2, .int (((v7 - v5) + 1) * x4)), (6, .int x4), (0, .ref (G.1 + a)), (1, .int v1), (4, .int v4), (5, .int v5), (7, .int v7)] hX (by decide +kernel) rfl (by decide) rfl ?_
      refine J_iload (pc := 95) 7 hX (by decide +kernel) rfl ?_
      refine J_istore (pc := 97) [(4, .int v7), (3, .int v5), (2, .int (((v7 - v5) + 1) * x4)), (6, .int x4), (0, .ref (G.1 + a)), (1, .int v1), (5, .int v5), (7, .int v7)] hX (by decide +kernel) (by decide) rfl ?_
      exact J_sub [4, 5, 2, 1, 0, 6, 3, 7] _ rfl (jMo_door_99 hL hX v1 (((v7 - v5) + 1) * x4) v5 v7 v5 x4 v7 hk27 hk43 μ3)
    · refine J_goto (pc := 78) (off := 21) (tgt := 99) hX (by decide +kernel) (by decide +kernel) ?_
      exact J_sub [1, 2, 3, 4, 5, 6, 0, 7] _ rfl (jMo_door_99 hL hX v1 v2 v3 v4 v5 x4 v7 hk27 hk43 μ3)
set_option maxRecDepth 100000 in
set_option maxHeartbeats 4000000 in
theorem jMo_door_43 {X : Cx} {l : Launch} {G : Gx} {y : Ly} {a : Nat} (hL : LyMo y a ) (hX : Ok X l G prog_13_method_91_code 8 (some .int) "SaltFiguresModel") (v1 : Int32) (v5 : Int32) {kb27 : Int32 → Int32 → Int32 → Int32 → Mu → Option (Int32 × Mu)} (hk27 : ∀ (v2 : Int32) (v3 : Int32) (v4 : Int32) (v5 : Int32) (μ : Mu), J X G 8 4 y (emy y) rvI tpT 27 [(0, .ref (G.1 + a)), (1, .int v1), (2, .int v2), (3, .int v3), (4, .int v4), (5, .int v5)] [] (μ, y) (kb27 v2 v3 v4 v5 μ)) : ∀ (fu : Nat) (v2 : Int32) (v3 : Int32) (v4 : Int32) (v6 : Int32) (v7 : Int32) (μ : Mu), J X G 8 4 y (emy y) rvI tpT 43 [(0, .ref (G.1 + a)), (1, .int v1), (2, .int v2), (3, .int v3), (4, .int v4), (5, .int v5), (6, .int v6), (7, .int v7)] [] (μ, y) (Mo_door_43 a kb27 v1 v5 fu v2 v3 v4 v6 v7 μ) := by
  intro fu
  induction fu with
  | zero => intros; exact J_none
  | succ fu ih => intro v2 v3 v4 v6 v7 μ; exact jMo_door_43b hL hX v1 v5 hk27 ih v2 v3 v4 v6 v7 μ
set_option maxRecDepth 100000 in
set_option maxHeartbeats 4000000 in
theorem jMo_door_27b {X : Cx} {l : Launch} {G : Gx} {y : Ly} {a : Nat} (hL : LyMo y a ) (hX : Ok X l G prog_13_method_91_code 8 (some .int) "SaltFiguresModel") (v1 : Int32)  {kb27 : Int32 → Int32 → Int32 → Int32 → Mu → Option (Int32 × Mu)}  (hk27 : ∀ (v2 : Int32) (v3 : Int32) (v4 : Int32) (v5 : Int32) (μ : Mu), J X G 8 4 y (emy y) rvI tpT 27 [(0, .ref (G.1 + a)), (1, .int v1), (2, .int v2), (3, .int v3), (4, .int v4), (5, .int v5)] [] (μ, y) (kb27 v2 v3 v4 v5 μ)) (v2 : Int32) (v3 : Int32) (v4 : Int32) (v5 : Int32)  (μ : Mu) : J X G 8 4 y (emy y) rvI tpT 27 [(0, .ref (G.1 + a)), (1, .int v1), (2, .int v2), (3, .int v3), (4, .int v4), (5, .int v5)] [] (μ, y) (Mo_door_27b a  kb27 v1 v2 v3 v4 v5  μ) := by
  unfold Mo_door_27b
  refine J_iload (pc := 27) 5 hX (by decide +kernel) rfl ?_
  refine J_bipush (pc := 29) (n := 16) (v := 16) hX (by decide +kernel) (by decide +kernel) ?_
  refine J_icmp_ge (pc := 31) (off := 80) (tgt := 111) hX (by decide +kernel) (by decide +kernel) (fun _ => ?_) (fun _ => ?_)
  · refine J_iload_n (k0 := 1) (pc := 111) 1 hX (by decide +kernel) rfl rfl ?_
    refine J_if_ne (pc := 112) (off := 7) (tgt := 119) hX (by decide +kernel) (by decide +kernel) (fun _ => ?_) (fun _ => ?_)
    · refine J_iload_n (k0 := 1) (pc := 119) 1 hX (by decide +kernel) rfl rfl ?_
      refine J_iconst (pc := 120) (n := 1) (v := 1) hX (by decide +kernel) (by decide +kernel) ?_
      refine J_icmp_ne (pc := 121) (off := 7) (tgt := 128) hX (by decide +kernel) (by decide +kernel) (fun _ => ?_) (fun _ => ?_)
      · refine J_iload (pc := 128) 4 hX (by decide +kernel) rfl ?_
        exact J_iret (pc := 130) hX (by decide +kernel) rfl trivial
      · refine J_iload_n (k0 := 3) (pc := 124) 3 hX (by decide +kernel) rfl rfl ?_
        refine J_goto (pc := 125) (off := 5) (tgt := 130) hX (by decide +kernel) (by decide +kernel) ?_
        exact J_iret (pc := 130) hX (by decide +kernel) rfl trivial
    · refine J_iload_n (k0 := 2) (pc := 115) 2 hX (by decide +kernel) rfl rfl ?_
      refine J_goto (pc := 116) (off := 14) (tgt := 130) hX (by decide +kernel) (by decide +kernel) ?_
      exact J_iret (pc := 130) hX (by decide +kernel) rfl trivial
  · refine J_ldcw (pc := 34) (idx := 409) (v := 100000000) hX (by decide +kernel) (mq mt_8 72 (by decide +kernel)) ?_
    refine J_istore (pc := 37) [(6, .int 100000000), (0, .ref (G.1 + a)), (1, .int v1), (2, .int v2), (3, .int v3), (4, .int v4), (5, .int v5)] hX (by decide +kernel) (by decide) rfl ?_
    refine J_iload (pc := 39) 6 hX (by decide +kernel) rfl ?_
    refine J_istore (pc := 41) [(7, .int v5), (6, .int 100000000), (0, .ref (G.1 + a)), (1, .int v1), (2, .int v2), (3, .int v3), (4, .int v4), (5, .int v5)] hX (by decide +kernel) (by decide) rfl ?_
    exact J_sub [2, 3, 4, 5, 6, 7, 1, 0] _ rfl (jMo_door_43 hL hX v1 v5 hk27 FU v2 v3 v4 100000000 v5 μ)
set_option maxRecDepth 100000 in
set_option maxHeartbeats 4000000 in
theorem jMo_door_27 {X : Cx} {l : Launch} {G : Gx} {y : Ly} {a : Nat} (hL : LyMo y a ) (hX : Ok X l G prog_13_method_91_code 8 (some .int) "SaltFiguresModel") (v1 : Int32)   : ∀ (fu : Nat) (v2 : Int32) (v3 : Int32) (v4 : Int32) (v5 : Int32) (μ : Mu), J X G 8 4 y (emy y) rvI tpT 27 [(0, .ref (G.1 + a)), (1, .int v1), (2, .int v2), (3, .int v3), (4, .int v4), (5, .int v5)] [] (μ, y) (Mo_door_27 a  v1 fu v2 v3 v4 v5 μ) := by
  intro fu
  induction fu with
  | zero => intros; exact J_none
  | succ fu ih => intro v2 v3 v4 v5 μ; exact jMo_door_27b hL hX v1  ih v2 v3 v4 v5 μ
set_option maxRecDepth 100000 in
set_option maxHeartbeats 4000000 in
theorem jMo_door {X : Cx} {l : Launch} {G : Gx} {y : Ly} {a : Nat} (hL : LyMo y a ) (hX : Ok X l G prog_13_method_91_code 8 (some .int) "SaltFiguresModel") (v1 : Int32) (μ : Mu) : J X G 8 4 y (emy y) rvI tpT 0 [(0, .ref (G.1 + a)), (1, .int v1)] [] (μ, y) (Mo_door a v1 μ) := by
  unfold Mo_door
  refine J_aload_n (k0 := 0) (pc := 0) 0 hX (by decide +kernel) rfl rfl ?_
  refine J_iconst (pc := 1) (n := 0) (v := 0) hX (by decide +kernel) (by decide +kernel) ?_
  refine J_pF (pc := 2) hX (by decide +kernel) fl_Mo_131 hL.1 rfl (fun μ1 => ?_)
  refine J_aload_n (k0 := 0) (pc := 5) 0 hX (by decide +kernel) rfl rfl ?_
  refine J_iload_n (k0 := 1) (pc := 6) 1 hX (by decide +kernel) rfl rfl ?_
  refine J_iconst (pc := 7) (n := 0) (v := 0) hX (by decide +kernel) (by decide +kernel) ?_
  refine J_iconst (pc := 8) (n := 2) (v := 2) hX (by decide +kernel) (by decide +kernel) ?_
  refine J_cVi (pc := 9) (idx := 154) [.int v1, .int 0, .int 2] hX (by decide +kernel) (mq mt_6 226 (by decide +kernel)) mv_Mo_isIn hL.1 rfl rfl (Nat.le_of_ble_eq_true rfl) (Nat.le_of_ble_eq_true rfl) (c_Mo_isIn hL v1 0 2 μ1) (fun x3 μ2 => ?_)
  refine J_if_ne (pc := 12) (off := 5) (tgt := 17) hX (by decide +kernel) (by decide +kernel) (fun _ => ?_) (fun _ => ?_)
  · refine J_iconst (pc := 17) (n := 0) (v := 0) hX (by decide +kernel) (by decide +kernel) ?_
    refine J_istore_n (k0 := 2) (pc := 18) [(2, .int 0), (0, .ref (G.1 + a)), (1, .int v1)] hX (by decide +kernel) rfl (by decide) rfl ?_
    refine J_iconst (pc := 19) (n := -1) (v := (-1)) hX (by decide +kernel) (by decide +kernel) ?_
    refine J_istore_n (k0 := 3) (pc := 20) [(3, .int ((-1))), (2, .int 0), (0, .ref (G.1 + a)), (1, .int v1)] hX (by decide +kernel) rfl (by decide) rfl ?_
    refine J_iconst (pc := 21) (n := -1) (v := (-1)) hX (by decide +kernel) (by decide +kernel) ?_
    refine J_istore (pc := 22) [(4, .int ((-1))), (3, .int ((-1))), (2, .int 0), (0, .ref (G.1 + a)), (1, .int v1)] hX (by decide +kernel) (by decide) rfl ?_
    refine J_iconst (pc := 24) (n := 0) (v := 0) hX (by decide +kernel) (by decide +kernel) ?_
    refine J_istore (pc := 25) [(5, .int 0), (4, .int ((-1))), (3, .int ((-1))), (2, .int 0), (0, .ref (G.1 + a)), (1, .int v1)] hX (by decide +kernel) (by decide) rfl ?_
    exact J_sub [4, 5, 3, 2, 1, 0] _ rfl (jMo_door_27 hL hX v1 FU 0 ((-1)) ((-1)) 0 μ2)
  · refine J_iconst (pc := 15) (n := -1) (v := (-1)) hX (by decide +kernel) (by decide +kernel) ?_
    exact J_iret (pc := 16) hX (by decide +kernel) rfl trivial
set_option maxRecDepth 100000 in
set_option maxHeartbeats 4000000 in
theorem c_Mo_door {l : Launch} {G : Gx} {y : Ly} {a : Nat} (hL : LyMo y a ) (v1 : Int32) (μ : Mu) : Cn l G ⟨"SaltFiguresModel", "door", "(I)I"⟩ prog_13_method_91_code 8 (some .int) 4 [.ref (G.1 + a), .int v1] (μ, y) (emy y) rvI tpT (Mo_door a v1 μ) := cn_of (by decide +kernel) (Nat.le_of_ble_eq_true rfl) (fun _ _ _ => ⟨List.prefix_refl _, trivial⟩) (fun X hX _ => jMo_door hL hX v1 μ)

def Mo_drip (a : Nat) (v1 : Int32) (μ : Mu) : Option (Int32 × Mu) := pF μ a 0 0 (fun μ1 => (if v1 = ((-1)) then pF μ1 a 51 0 (fun μ10 => some (0, μ10)) else cl (Mo_isIn a v1 2 30 μ1) (fun x3 μ2 => (if x3 = 0 then some ((-1), μ2) else gF μ2 a 51 (fun x4 => (if x4 = 6 then some ((-1), μ2) else gF μ2 a 51 (fun x5 => stA μ2 (a + 29) 6 x5 v1 (fun μ6 => gF μ6 a 51 (fun x7 => pF μ6 a 51 (x7 + 1) (fun μ8 => gF μ8 a 51 (fun x9 => some (x9, μ8))))))))))))
set_option maxRecDepth 100000 in
set_option maxHeartbeats 4000000 in
theorem jMo_drip {X : Cx} {l : Launch} {G : Gx} {y : Ly} {a : Nat} (hL : LyMo y a ) (hX : Ok X l G prog_13_method_114_code 2 (some .int) "SaltFiguresModel") (v1 : Int32) (μ : Mu) : J X G 2 2 y (emy y) rvI tpT 0 [(0, .ref (G.1 + a)), (1, .int v1)] [] (μ, y) (Mo_drip a v1 μ) := by
  unfold Mo_drip
  refine J_aload_n (k0 := 0) (pc := 0) 0 hX (by decide +kernel) rfl rfl ?_
  refine J_iconst (pc := 1) (n := 0) (v := 0) hX (by decide +kernel) (by decide +kernel) ?_
  refine J_pF (pc := 2) hX (by decide +kernel) fl_Mo_131 hL.1 rfl (fun μ1 => ?_)
  refine J_iload_n (k0 := 1) (pc := 5) 1 hX (by decide +kernel) rfl rfl ?_
  refine J_iconst (pc := 6) (n := -1) (v := (-1)) hX (by decide +kernel) (by decide +kernel) ?_
  refine J_icmp_ne (pc := 7) (off := 10) (tgt := 17) hX (by decide +kernel) (by decide +kernel) (fun _ => ?_) (fun _ => ?_)
  · refine J_aload_n (k0 := 0) (pc := 17) 0 hX (by decide +kernel) rfl rfl ?_
    refine J_iload_n (k0 := 1) (pc := 18) 1 hX (by decide +kernel) rfl rfl ?_
    refine J_iconst (pc := 19) (n := 2) (v := 2) hX (by decide +kernel) (by decide +kernel) ?_
    refine J_bipush (pc := 20) (n := 30) (v := 30) hX (by decide +kernel) (by decide +kernel) ?_
    refine J_cVi (pc := 22) (idx := 154) [.int v1, .int 2, .int 30] hX (by decide +kernel) (mq mt_6 226 (by decide +kernel)) mv_Mo_isIn hL.1 rfl rfl (Nat.le_of_ble_eq_true rfl) (Nat.le_of_ble_eq_true rfl) (c_Mo_isIn hL v1 2 30 μ1) (fun x3 μ2 => ?_)
    refine J_if_eq (pc := 25) (off := 12) (tgt := 37) hX (by decide +kernel) (by decide +kernel) (fun _ => ?_) (fun _ => ?_)
    · refine J_iconst (pc := 37) (n := -1) (v := (-1)) hX (by decide +kernel) (by decide +kernel) ?_
      exact J_iret (pc := 38) hX (by decide +kernel) rfl trivial
    · refine J_aload_n (k0 := 0) (pc := 28) 0 hX (by decide +kernel) rfl rfl ?_
      refine J_gF (pc := 29) hX (by decide +kernel) fl_Mo_459 hL.1 rfl (fun x4 => ?_)
      refine J_bipush (pc := 32) (n := 6) (v := 6) hX (by decide +kernel) (by decide +kernel) ?_
      refine J_icmp_ne (pc := 34) (off := 5) (tgt := 39) hX (by decide +kernel) (by decide +kernel) (fun _ => ?_) (fun _ => ?_)
      · refine J_aload_n (k0 := 0) (pc := 39) 0 hX (by decide +kernel) rfl rfl ?_
        refine J_gr (pc := 40) hX (by decide +kernel) fl_Mo_98 hL.1 rfl hL.2.2.2.2.2.2.2.2.2.2.2.2.2.2.2.2.2.2.2.2.2.2.2.2.2.2.2.2.2.1.1 ?_
        refine J_aload_n (k0 := 0) (pc := 43) 0 hX (by decide +kernel) rfl rfl ?_
        refine J_gF (pc := 44) hX (by decide +kernel) fl_Mo_459 hL.1 rfl (fun x5 => ?_)
        refine J_iload_n (k0 := 1) (pc := 47) 1 hX (by decide +kernel) rfl rfl ?_
        refine J_stA (pc := 48) hX (by decide +kernel) hL.2.2.2.2.2.2.2.2.2.2.2.2.2.2.2.2.2.2.2.2.2.2.2.2.2.2.2.2.2.1.2 (fun μ6 => ?_)
        refine J_aload_n (k0 := 0) (pc := 49) 0 hX (by decide +kernel) rfl rfl ?_
        refine J_aload_n (k0 := 0) (pc := 50) 0 hX (by decide +kernel) rfl rfl ?_
        refine J_gF (pc := 51) hX (by decide +kernel) fl_Mo_459 hL.1 rfl (fun x7 => ?_)
        refine J_iconst (pc := 54) (n := 1) (v := 1) hX (by decide +kernel) (by decide +kernel) ?_
        refine J_iadd (pc := 55) hX (by decide +kernel) ?_
        refine J_pF (pc := 56) hX (by decide +kernel) fl_Mo_459 hL.1 rfl (fun μ8 => ?_)
        refine J_aload_n (k0 := 0) (pc := 59) 0 hX (by decide +kernel) rfl rfl ?_
        refine J_gF (pc := 60) hX (by decide +kernel) fl_Mo_459 hL.1 rfl (fun x9 => ?_)
        exact J_iret (pc := 63) hX (by decide +kernel) rfl trivial
      · refine J_iconst (pc := 37) (n := -1) (v := (-1)) hX (by decide +kernel) (by decide +kernel) ?_
        exact J_iret (pc := 38) hX (by decide +kernel) rfl trivial
  · refine J_aload_n (k0 := 0) (pc := 10) 0 hX (by decide +kernel) rfl rfl ?_
    refine J_iconst (pc := 11) (n := 0) (v := 0) hX (by decide +kernel) (by decide +kernel) ?_
    refine J_pF (pc := 12) hX (by decide +kernel) fl_Mo_459 hL.1 rfl (fun μ10 => ?_)
    refine J_iconst (pc := 15) (n := 0) (v := 0) hX (by decide +kernel) (by decide +kernel) ?_
    exact J_iret (pc := 16) hX (by decide +kernel) rfl trivial
set_option maxRecDepth 100000 in
set_option maxHeartbeats 4000000 in
theorem c_Mo_drip {l : Launch} {G : Gx} {y : Ly} {a : Nat} (hL : LyMo y a ) (v1 : Int32) (μ : Mu) : Cn l G ⟨"SaltFiguresModel", "drip", "(I)I"⟩ prog_13_method_114_code 2 (some .int) 2 [.ref (G.1 + a), .int v1] (μ, y) (emy y) rvI tpT (Mo_drip a v1 μ) := cn_of (by decide +kernel) (Nat.le_of_ble_eq_true rfl) (fun _ _ _ => ⟨List.prefix_refl _, trivial⟩) (fun X hX _ => jMo_drip hL hX v1 μ)

def Mo_isDry_2b (a : Nat)  (kb2 : Int32 → Mu → Option (Int32 × Mu)) (v1 : Int32) (v2 : Int32)  (μ : Mu) : Option (Int32 × Mu) := gF μ a 51 (fun x1 => (if x1 ≤ v2 then some (1, μ) else ldA μ (a + 29) 6 v2 (fun x2 => nz x2 ((if (jrem v1 x2) = 0 then some (0, μ) else kb2 (v2 + 1) μ)))))
def Mo_isDry_2 (a : Nat)  (v1 : Int32) (fu : Nat) : Int32 → Mu → Option (Int32 × Mu) := lp (fun kb => Mo_isDry_2b a  kb v1) (fun _ _ => none) fu
def Mo_isDry (a : Nat) (v1 : Int32) (μ : Mu) : Option (Int32 × Mu) := Mo_isDry_2 a v1 FU 0 μ
set_option maxRecDepth 100000 in
set_option maxHeartbeats 4000000 in
theorem jMo_isDry_2b {X : Cx} {l : Launch} {G : Gx} {y : Ly} {a : Nat} (hL : LyMo y a ) (hX : Ok X l G prog_13_method_115_code 3 (some .boolean) "SaltFiguresModel") (v1 : Int32)  {kb2 : Int32 → Mu → Option (Int32 × Mu)}  (hk2 : ∀ (v2 : Int32) (μ : Mu), J X G 3 1 y (emy y) rvI tpT 2 [(0, .ref (G.1 + a)), (1, .int v1), (2, .int v2)] [] (μ, y) (kb2 v2 μ)) (v2 : Int32)  (μ : Mu) : J X G 3 1 y (emy y) rvI tpT 2 [(0, .ref (G.1 + a)), (1, .int v1), (2, .int v2)] [] (μ, y) (Mo_isDry_2b a  kb2 v1 v2  μ) := by
  unfold Mo_isDry_2b
  refine J_iload_n (k0 := 2) (pc := 2) 2 hX (by decide +kernel) rfl rfl ?_
  refine J_aload_n (k0 := 0) (pc := 3) 0 hX (by decide +kernel) rfl rfl ?_
  refine J_gF (pc := 4) hX (by decide +kernel) fl_Mo_459 hL.1 rfl (fun x1 => ?_)
  refine J_icmp_ge (pc := 7) (off := 22) (tgt := 29) hX (by decide +kernel) (by decide +kernel) (fun _ => ?_) (fun _ => ?_)
  · refine J_iconst (pc := 29) (n := 1) (v := 1) hX (by decide +kernel) (by decide +kernel) ?_
    exact J_zret (pc := 30) hX (by decide +kernel) rfl (by decide +kernel) trivial
  · refine J_iload_n (k0 := 1) (pc := 10) 1 hX (by decide +kernel) rfl rfl ?_
    refine J_aload_n (k0 := 0) (pc := 11) 0 hX (by decide +kernel) rfl rfl ?_
    refine J_gr (pc := 12) hX (by decide +kernel) fl_Mo_98 hL.1 rfl hL.2.2.2.2.2.2.2.2.2.2.2.2.2.2.2.2.2.2.2.2.2.2.2.2.2.2.2.2.2.1.1 ?_
    refine J_iload_n (k0 := 2) (pc := 15) 2 hX (by decide +kernel) rfl rfl ?_
    refine J_ldA (pc := 16) hX (by decide +kernel) hL.2.2.2.2.2.2.2.2.2.2.2.2.2.2.2.2.2.2.2.2.2.2.2.2.2.2.2.2.2.1.2 (fun x2 => ?_)
    refine J_irem (pc := 17) hX (by decide +kernel) (fun _ => ?_)
    refine J_if_ne (pc := 18) (off := 5) (tgt := 23) hX (by decide +kernel) (by decide +kernel) (fun _ => ?_) (fun _ => ?_)
    · refine J_iinc (pc := 23) (n := 1) 2 [(2, .int (v2 + 1)), (0, .ref (G.1 + a)), (1, .int v1)] hX (by decide +kernel) rfl rfl (by decide) rfl ?_
      refine J_goto (pc := 26) (off := -24) (tgt := 2) hX (by decide +kernel) (by decide +kernel) ?_
      exact J_sub [1, 2, 0] _ rfl (hk2 (v2 + 1) μ)
    · refine J_iconst (pc := 21) (n := 0) (v := 0) hX (by decide +kernel) (by decide +kernel) ?_
      exact J_zret (pc := 22) hX (by decide +kernel) rfl (by decide +kernel) trivial
set_option maxRecDepth 100000 in
set_option maxHeartbeats 4000000 in
theorem jMo_isDry_2 {X : Cx} {l : Launch} {G : Gx} {y : Ly} {a : Nat} (hL : LyMo y a ) (hX : Ok X l G prog_13_method_115_code 3 (some .boolean) "SaltFiguresModel") (v1 : Int32)   : ∀ (fu : Nat) (v2 : Int32) (μ : Mu), J X G 3 1 y (emy y) rvI tpT 2 [(0, .ref (G.1 + a)), (1, .int v1), (2, .int v2)] [] (μ, y) (Mo_isDry_2 a  v1 fu v2 μ) := by
  intro fu
  induction fu with
  | zero => intros; exact J_none
  | succ fu ih => intro v2 μ; exact jMo_isDry_2b hL hX v1  ih v2 μ
set_option maxRecDepth 100000 in
set_option maxHeartbeats 4000000 in
theorem jMo_isDry {X : Cx} {l : Launch} {G : Gx} {y : Ly} {a : Nat} (hL : LyMo y a ) (hX : Ok X l G prog_13_method_115_code 3 (some .boolean) "SaltFiguresModel") (v1 : Int32) (μ : Mu) : J X G 3 1 y (emy y) rvI tpT 0 [(0, .ref (G.1 + a)), (1, .int v1)] [] (μ, y) (Mo_isDry a v1 μ) := by
  unfold Mo_isDry
  refine J_iconst (pc := 0) (n := 0) (v := 0) hX (by decide +kernel) (by decide +kernel) ?_
  refine J_istore_n (k0 := 2) (pc := 1) [(2, .int 0), (0, .ref (G.1 + a)), (1, .int v1)] hX (by decide +kernel) rfl (by decide) rfl ?_
  exact J_sub [1, 2, 0] _ rfl (jMo_isDry_2 hL hX v1 FU 0 μ)
set_option maxRecDepth 100000 in
set_option maxHeartbeats 4000000 in
theorem c_Mo_isDry {l : Launch} {G : Gx} {y : Ly} {a : Nat} (hL : LyMo y a ) (v1 : Int32) (μ : Mu) : Cn l G ⟨"SaltFiguresModel", "isDry", "(I)Z"⟩ prog_13_method_115_code 3 (some .boolean) 1 [.ref (G.1 + a), .int v1] (μ, y) (emy y) rvI tpT (Mo_isDry a v1 μ) := cn_of (by decide +kernel) (Nat.le_of_ble_eq_true rfl) (fun _ _ _ => ⟨List.prefix_refl _, trivial⟩) (fun X hX _ => jMo_isDry hL hX v1 μ)

def Mo_drips_97 (a : Nat) (kb80 : Int32 → Int32 → Mu → Option (Int32 × Mu))  (v1 : Int32) (v2 : Int32) (v3 : Int32)  (μ : Mu) : Option (Int32 × Mu) := kb80 v2 (v3 + 1) μ
def Mo_drips_80b (a : Nat)  (kb80 : Int32 → Int32 → Mu → Option (Int32 × Mu)) (v1 : Int32) (v2 : Int32) (v3 : Int32)  (μ : Mu) : Option (Int32 × Mu) := (if v1 < v3 then some (v2, μ) else cl (Mo_isDry a v3 μ) (fun x2 μ1 => (if x2 = 0 then Mo_drips_97 a kb80 v1 v2 v3 μ1 else Mo_drips_97 a kb80 v1 (v2 + 1) v3 μ1)))
def Mo_drips_80 (a : Nat)  (v1 : Int32) (fu : Nat) : Int32 → Int32 → Mu → Option (Int32 × Mu) := lp (fun kb => Mo_drips_80b a  kb v1) (fun _ _ _ => none) fu
def Mo_drips_14b (a : Nat)  (kb14 : Int32 → Int32 → Mu → Option (Int32 × Mu))  (v2 : Int32) (v3 : Int32)  (μ : Mu) : Option (Int32 × Mu) := gF μ a 51 (fun x1 => (if x1 ≤ v3 then gF μ a 51 (fun x2 => (if x2 = 0 then some ((-1), μ) else some (v2, μ))) else ldA μ (a + 29) 6 v3 (fun x3 => cl (Mo_common a v2 x3 μ) (fun x5 μ4 => nz x5 (ldA μ4 (a + 29) 6 v3 (fun x6 => kb14 ((v2 / x5) * x6) (v3 + 1) μ4))))))
def Mo_drips_14 (a : Nat)   (fu : Nat) : Int32 → Int32 → Mu → Option (Int32 × Mu) := lp (fun kb => Mo_drips_14b a  kb ) (fun _ _ _ => none) fu
def Mo_drips (a : Nat) (v1 : Int32) (μ : Mu) : Option (Int32 × Mu) := pF μ a 0 0 (fun μ1 => (if v1 = ((-1)) then Mo_drips_14 a FU 1 0 μ1 else cl (Mo_isIn a v1 0 10000 μ1) (fun x3 μ2 => (if x3 = 0 then some ((-1), μ2) else Mo_drips_80 a v1 FU 0 1 μ2))))
set_option maxRecDepth 100000 in
set_option maxHeartbeats 4000000 in
theorem jMo_drips_97 {X : Cx} {l : Launch} {G : Gx} {y : Ly} {a : Nat} (hL : LyMo y a ) (hX : Ok X l G prog_13_method_116_code 4 (some .int) "SaltFiguresModel")  (v1 : Int32) (v2 : Int32) (v3 : Int32)  {kb80 : Int32 → Int32 → Mu → Option (Int32 × Mu)} (hk80 : ∀ (v2 : Int32) (v3 : Int32) (μ : Mu), J X G 4 2 y (emy y) rvI tpT 80 [(0, .ref (G.1 + a)), (1, .int v1), (2, .int v2), (3, .int v3)] [] (μ, y) (kb80 v2 v3 μ)) (μ : Mu) : J X G 4 2 y (emy y) rvI tpT 97 [(0, .ref (G.1 + a)), (1, .int v1), (2, .int v2), (3, .int v3)] [] (μ, y) (Mo_drips_97 a kb80  v1 v2 v3  μ) := by
  unfold Mo_drips_97
  refine J_iinc (pc := 97) (n := 1) 3 [(3, .int (v3 + 1)), (0, .ref (G.1 + a)), (1, .int v1), (2, .int v2)] hX (by decide +kernel) rfl rfl (by decide) rfl ?_
  refine J_goto (pc := 100) (off := -20) (tgt := 80) hX (by decide +kernel) (by decide +kernel) ?_
  exact J_sub [1, 2, 3, 0] _ rfl (hk80 v2 (v3 + 1) μ)
set_option maxRecDepth 100000 in
set_option maxHeartbeats 4000000 in
theorem jMo_drips_80b {X : Cx} {l : Launch} {G : Gx} {y : Ly} {a : Nat} (hL : LyMo y a ) (hX : Ok X l G prog_13_method_116_code 4 (some .int) "SaltFiguresModel") (v1 : Int32)  {kb80 : Int32 → Int32 → Mu → Option (Int32 × Mu)}  (hk80 : ∀ (v2 : Int32) (v3 : Int32) (μ : Mu), J X G 4 2 y (emy y) rvI tpT 80 [(0, .ref (G.1 + a)), (1, .int v1), (2, .int v2), (3, .int v3)] [] (μ, y) (kb80 v2 v3 μ)) (v2 : Int32) (v3 : Int32)  (μ : Mu) : J X G 4 2 y (emy y) rvI tpT 80 [(0, .ref (G.1 + a)), (1, .int v1), (2, .int v2), (3, .int v3)] [] (μ, y) (Mo_drips_80b a  kb80 v1 v2 v3  μ) := by
  unfold Mo_drips_80b
  refine J_iload_n (k0 := 3) (pc := 80) 3 hX (by decide +kernel) rfl rfl ?_
  refine J_iload_n (k0 := 1) (pc := 81) 1 hX (by decide +kernel) rfl rfl ?_
  refine J_icmp_gt (pc := 82) (off := 21) (tgt := 103) hX (by decide +kernel) (by decide +kernel) (fun _ => ?_) (fun _ => ?_)
  · refine J_iload_n (k0 := 2) (pc := 103) 2 hX (by decide +kernel) rfl rfl ?_
    exact J_iret (pc := 104) hX (by decide +kernel) rfl trivial
  · refine J_aload_n (k0 := 0) (pc := 85) 0 hX (by decide +kernel) rfl rfl ?_
    refine J_iload_n (k0 := 3) (pc := 86) 3 hX (by decide +kernel) rfl rfl ?_
    refine J_cVi (pc := 87) (idx := 465) [.int v3] hX (by decide +kernel) (mq mt_8 185 (by decide +kernel)) mv_Mo_isDry hL.1 rfl rfl (Nat.le_of_ble_eq_true rfl) (Nat.le_of_ble_eq_true rfl) (c_Mo_isDry hL v3 μ) (fun x2 μ1 => ?_)
    refine J_if_eq (pc := 90) (off := 7) (tgt := 97) hX (by decide +kernel) (by decide +kernel) (fun _ => ?_) (fun _ => ?_)
    · exact J_sub [0, 1, 2, 3] _ rfl (jMo_drips_97 hL hX v1 v2 v3 hk80 μ1)
    · refine J_iload_n (k0 := 2) (pc := 93) 2 hX (by decide +kernel) rfl rfl ?_
      refine J_iconst (pc := 94) (n := 1) (v := 1) hX (by decide +kernel) (by decide +kernel) ?_
      refine J_iadd (pc := 95) hX (by decide +kernel) ?_
      refine J_istore_n (k0 := 2) (pc := 96) [(2, .int (v2 + 1)), (0, .ref (G.1 + a)), (1, .int v1), (3, .int v3)] hX (by decide +kernel) rfl (by decide) rfl ?_
      exact J_sub [1, 2, 0, 3] _ rfl (jMo_drips_97 hL hX v1 (v2 + 1) v3 hk80 μ1)
set_option maxRecDepth 100000 in
set_option maxHeartbeats 4000000 in
theorem jMo_drips_80 {X : Cx} {l : Launch} {G : Gx} {y : Ly} {a : Nat} (hL : LyMo y a ) (hX : Ok X l G prog_13_method_116_code 4 (some .int) "SaltFiguresModel") (v1 : Int32)   : ∀ (fu : Nat) (v2 : Int32) (v3 : Int32) (μ : Mu), J X G 4 2 y (emy y) rvI tpT 80 [(0, .ref (G.1 + a)), (1, .int v1), (2, .int v2), (3, .int v3)] [] (μ, y) (Mo_drips_80 a  v1 fu v2 v3 μ) := by
  intro fu
  induction fu with
  | zero => intros; exact J_none
  | succ fu ih => intro v2 v3 μ; exact jMo_drips_80b hL hX v1  ih v2 v3 μ
set_option maxRecDepth 100000 in
set_option maxHeartbeats 4000000 in
theorem jMo_drips_14b {X : Cx} {l : Launch} {G : Gx} {y : Ly} {a : Nat} (hL : LyMo y a ) (hX : Ok X l G prog_13_method_116_code 4 (some .int) "SaltFiguresModel")   {kb14 : Int32 → Int32 → Mu → Option (Int32 × Mu)}  (hk14 : ∀ (v2 : Int32) (v3 : Int32) (μ : Mu), J X G 4 2 y (emy y) rvI tpT 14 [(0, .ref (G.1 + a)), (2, .int v2), (3, .int v3)] [] (μ, y) (kb14 v2 v3 μ)) (v2 : Int32) (v3 : Int32)  (μ : Mu) : J X G 4 2 y (emy y) rvI tpT 14 [(0, .ref (G.1 + a)), (2, .int v2), (3, .int v3)] [] (μ, y) (Mo_drips_14b a  kb14  v2 v3  μ) := by
  unfold Mo_drips_14b
  refine J_iload_n (k0 := 3) (pc := 14) 2 hX (by decide +kernel) rfl rfl ?_
  refine J_aload_n (k0 := 0) (pc := 15) 0 hX (by decide +kernel) rfl rfl ?_
  refine J_gF (pc := 16) hX (by decide +kernel) fl_Mo_459 hL.1 rfl (fun x1 => ?_)
  refine J_icmp_ge (pc := 19) (off := 30) (tgt := 49) hX (by decide +kernel) (by decide +kernel) (fun _ => ?_) (fun _ => ?_)
  · refine J_aload_n (k0 := 0) (pc := 49) 0 hX (by decide +kernel) rfl rfl ?_
    refine J_gF (pc := 50) hX (by decide +kernel) fl_Mo_459 hL.1 rfl (fun x2 => ?_)
    refine J_if_ne (pc := 53) (off := 7) (tgt := 60) hX (by decide +kernel) (by decide +kernel) (fun _ => ?_) (fun _ => ?_)
    · refine J_iload_n (k0 := 2) (pc := 60) 1 hX (by decide +kernel) rfl rfl ?_
      exact J_iret (pc := 61) hX (by decide +kernel) rfl trivial
    · refine J_iconst (pc := 56) (n := -1) (v := (-1)) hX (by decide +kernel) (by decide +kernel) ?_
      refine J_goto (pc := 57) (off := 4) (tgt := 61) hX (by decide +kernel) (by decide +kernel) ?_
      exact J_iret (pc := 61) hX (by decide +kernel) rfl trivial
  · refine J_iload_n (k0 := 2) (pc := 22) 1 hX (by decide +kernel) rfl rfl ?_
    refine J_aload_n (k0 := 0) (pc := 23) 0 hX (by decide +kernel) rfl rfl ?_
    refine J_iload_n (k0 := 2) (pc := 24) 1 hX (by decide +kernel) rfl rfl ?_
    refine J_aload_n (k0 := 0) (pc := 25) 0 hX (by decide +kernel) rfl rfl ?_
    refine J_gr (pc := 26) hX (by decide +kernel) fl_Mo_98 hL.1 rfl hL.2.2.2.2.2.2.2.2.2.2.2.2.2.2.2.2.2.2.2.2.2.2.2.2.2.2.2.2.2.1.1 ?_
    refine J_iload_n (k0 := 3) (pc := 29) 2 hX (by decide +kernel) rfl rfl ?_
    refine J_ldA (pc := 30) hX (by decide +kernel) hL.2.2.2.2.2.2.2.2.2.2.2.2.2.2.2.2.2.2.2.2.2.2.2.2.2.2.2.2.2.1.2 (fun x3 => ?_)
    refine J_cVi (pc := 31) (idx := 462) [.int v2, .int x3] hX (by decide +kernel) (mq mt_8 181 (by decide +kernel)) mv_Mo_common hL.1 rfl rfl (Nat.le_of_ble_eq_true rfl) (Nat.le_of_ble_eq_true rfl) (c_Mo_common hL v2 x3 μ) (fun x5 μ4 => ?_)
    refine J_idiv (pc := 34) hX (by decide +kernel) (fun _ => ?_)
    refine J_aload_n (k0 := 0) (pc := 35) 0 hX (by decide +kernel) rfl rfl ?_
    refine J_gr (pc := 36) hX (by decide +kernel) fl_Mo_98 hL.1 rfl hL.2.2.2.2.2.2.2.2.2.2.2.2.2.2.2.2.2.2.2.2.2.2.2.2.2.2.2.2.2.1.1 ?_
    refine J_iload_n (k0 := 3) (pc := 39) 2 hX (by decide +kernel) rfl rfl ?_
    refine J_ldA (pc := 40) hX (by decide +kernel) hL.2.2.2.2.2.2.2.2.2.2.2.2.2.2.2.2.2.2.2.2.2.2.2.2.2.2.2.2.2.1.2 (fun x6 => ?_)
    refine J_imul (pc := 41) hX (by decide +kernel) ?_
    refine J_istore_n (k0 := 2) (pc := 42) [(2, .int ((v2 / x5) * x6)), (0, .ref (G.1 + a)), (3, .int v3)] hX (by decide +kernel) rfl (by decide) rfl ?_
    refine J_iinc (pc := 43) (n := 1) 2 [(3, .int (v3 + 1)), (2, .int ((v2 / x5) * x6)), (0, .ref (G.1 + a))] hX (by decide +kernel) rfl rfl (by decide) rfl ?_
    refine J_goto (pc := 46) (off := -32) (tgt := 14) hX (by decide +kernel) (by decide +kernel) ?_
    exact J_sub [2, 1, 0] _ rfl (hk14 ((v2 / x5) * x6) (v3 + 1) μ4)
set_option maxRecDepth 100000 in
set_option maxHeartbeats 4000000 in
theorem jMo_drips_14 {X : Cx} {l : Launch} {G : Gx} {y : Ly} {a : Nat} (hL : LyMo y a ) (hX : Ok X l G prog_13_method_116_code 4 (some .int) "SaltFiguresModel")    : ∀ (fu : Nat) (v2 : Int32) (v3 : Int32) (μ : Mu), J X G 4 2 y (emy y) rvI tpT 14 [(0, .ref (G.1 + a)), (2, .int v2), (3, .int v3)] [] (μ, y) (Mo_drips_14 a   fu v2 v3 μ) := by
  intro fu
  induction fu with
  | zero => intros; exact J_none
  | succ fu ih => intro v2 v3 μ; exact jMo_drips_14b hL hX   ih v2 v3 μ
set_option maxRecDepth 100000 in
set_option maxHeartbeats 4000000 in
theorem jMo_drips {X : Cx} {l : Launch} {G : Gx} {y : Ly} {a : Nat} (hL : LyMo y a ) (hX : Ok X l G prog_13_method_116_code 4 (some .int) "SaltFiguresModel") (v1 : Int32) (μ : Mu) : J X G 4 2 y (emy y) rvI tpT 0 [(0, .ref (G.1 + a)), (1, .int v1)] [] (μ, y) (Mo_drips a v1 μ) := by
  unfold Mo_drips
  refine J_aload_n (k0 := 0) (pc := 0) 0 hX (by decide +kernel) rfl rfl ?_
  refine J_iconst (pc := 1) (n := 0) (v := 0) hX (by decide +kernel) (by decide +kernel) ?_
  refine J_pF (pc := 2) hX (by decide +kernel) fl_Mo_131 hL.1 rfl (fun μ1 => ?_)
  refine J_iload_n (k0 := 1) (pc := 5) 1 hX (by decide +kernel) rfl rfl ?_
  refine J_iconst (pc := 6) (n := -1) (v := (-1)) hX (by decide +kernel) (by decide +kernel) ?_
  refine J_icmp_ne (pc := 7) (off := 55) (tgt := 62) hX (by decide +kernel) (by decide +kernel) (fun _ => ?_) (fun _ => ?_)
  · refine J_aload_n (k0 := 0) (pc := 62) 0 hX (by decide +kernel) rfl rfl ?_
    refine J_iload_n (k0 := 1) (pc := 63) 1 hX (by decide +kernel) rfl rfl ?_
    refine J_iconst (pc := 64) (n := 0) (v := 0) hX (by decide +kernel) (by decide +kernel) ?_
    refine J_sipush (pc := 65) (n := 10000) (v := 10000) hX (by decide +kernel) (by decide +kernel) ?_
    refine J_cVi (pc := 68) (idx := 154) [.int v1, .int 0, .int 10000] hX (by decide +kernel) (mq mt_6 226 (by decide +kernel)) mv_Mo_isIn hL.1 rfl rfl (Nat.le_of_ble_eq_true rfl) (Nat.le_of_ble_eq_true rfl) (c_Mo_isIn hL v1 0 10000 μ1) (fun x3 μ2 => ?_)
    refine J_if_ne (pc := 71) (off := 5) (tgt := 76) hX (by decide +kernel) (by decide +kernel) (fun _ => ?_) (fun _ => ?_)
    · refine J_iconst (pc := 76) (n := 0) (v := 0) hX (by decide +kernel) (by decide +kernel) ?_
      refine J_istore_n (k0 := 2) (pc := 77) [(2, .int 0), (0, .ref (G.1 + a)), (1, .int v1)] hX (by decide +kernel) rfl (by decide) rfl ?_
      refine J_iconst (pc := 78) (n := 1) (v := 1) hX (by decide +kernel) (by decide +kernel) ?_
      refine J_istore_n (k0 := 3) (pc := 79) [(3, .int 1), (2, .int 0), (0, .ref (G.1 + a)), (1, .int v1)] hX (by decide +kernel) rfl (by decide) rfl ?_
      exact J_sub [2, 3, 1, 0] _ rfl (jMo_drips_80 hL hX v1 FU 0 1 μ2)
    · refine J_iconst (pc := 74) (n := -1) (v := (-1)) hX (by decide +kernel) (by decide +kernel) ?_
      exact J_iret (pc := 75) hX (by decide +kernel) rfl trivial
  · refine J_iconst (pc := 10) (n := 1) (v := 1) hX (by decide +kernel) (by decide +kernel) ?_
    refine J_istore_n (k0 := 2) (pc := 11) [(2, .int 1), (0, .ref (G.1 + a)), (1, .int v1)] hX (by decide +kernel) rfl (by decide) rfl ?_
    refine J_iconst (pc := 12) (n := 0) (v := 0) hX (by decide +kernel) (by decide +kernel) ?_
    refine J_istore_n (k0 := 3) (pc := 13) [(3, .int 0), (2, .int 1), (0, .ref (G.1 + a)), (1, .int v1)] hX (by decide +kernel) rfl (by decide) rfl ?_
    exact J_sub [2, 1, 0] _ rfl (jMo_drips_14 hL hX FU 1 0 μ1)
set_option maxRecDepth 100000 in
set_option maxHeartbeats 4000000 in
theorem c_Mo_drips {l : Launch} {G : Gx} {y : Ly} {a : Nat} (hL : LyMo y a ) (v1 : Int32) (μ : Mu) : Cn l G ⟨"SaltFiguresModel", "drips", "(I)I"⟩ prog_13_method_116_code 4 (some .int) 2 [.ref (G.1 + a), .int v1] (μ, y) (emy y) rvI tpT (Mo_drips a v1 μ) := cn_of (by decide +kernel) (Nat.le_of_ble_eq_true rfl) (fun _ _ _ => ⟨List.prefix_refl _, trivial⟩) (fun X hX _ => jMo_drips hL hX v1 μ)

def Mo_emits (a : Nat) (v1 : Int32) (v2 : Int32) (μ : Mu) : Option (Unit × Mu) := gF μ a 23 (fun x1 => stA μ (a + 12) 1200 (800 + x1) v1 (fun μ2 => gF μ2 a 23 (fun x3 => stA μ2 (a + 13) 1200 (800 + x3) v2 (fun μ4 => gF μ4 a 23 (fun x5 => pF μ4 a 23 (x5 + 1) (fun μ6 => some ((), μ6)))))))
set_option maxRecDepth 100000 in
set_option maxHeartbeats 4000000 in
theorem jMo_emits {X : Cx} {l : Launch} {G : Gx} {y : Ly} {a : Nat} (hL : LyMo y a ) (hX : Ok X l G prog_13_method_35_code 3 none "SaltFiguresModel") (v1 : Int32) (v2 : Int32) (μ : Mu) : J X G 3 1 y (emy y) rvV tpT 0 [(0, .ref (G.1 + a)), (1, .int v1), (2, .int v2)] [] (μ, y) (Mo_emits a v1 v2 μ) := by
  unfold Mo_emits
  refine J_aload_n (k0 := 0) (pc := 0) 0 hX (by decide +kernel) rfl rfl ?_
  refine J_gr (pc := 1) hX (by decide +kernel) fl_Mo_43 hL.1 rfl hL.2.2.2.2.2.2.2.2.2.2.2.2.1.1 ?_
  refine J_sipush (pc := 4) (n := 800) (v := 800) hX (by decide +kernel) (by decide +kernel) ?_
  refine J_aload_n (k0 := 0) (pc := 7) 0 hX (by decide +kernel) rfl rfl ?_
  refine J_gF (pc := 8) hX (by decide +kernel) fl_Mo_206 hL.1 rfl (fun x1 => ?_)
  refine J_iadd (pc := 11) hX (by decide +kernel) ?_
  refine J_iload_n (k0 := 1) (pc := 12) 1 hX (by decide +kernel) rfl rfl ?_
  refine J_stA (pc := 13) hX (by decide +kernel) hL.2.2.2.2.2.2.2.2.2.2.2.2.1.2 (fun μ2 => ?_)
  refine J_aload_n (k0 := 0) (pc := 14) 0 hX (by decide +kernel) rfl rfl ?_
  refine J_gr (pc := 15) hX (by decide +kernel) fl_Mo_46 hL.1 rfl hL.2.2.2.2.2.2.2.2.2.2.2.2.2.1.1 ?_
  refine J_sipush (pc := 18) (n := 800) (v := 800) hX (by decide +kernel) (by decide +kernel) ?_
  refine J_aload_n (k0 := 0) (pc := 21) 0 hX (by decide +kernel) rfl rfl ?_
  refine J_gF (pc := 22) hX (by decide +kernel) fl_Mo_206 hL.1 rfl (fun x3 => ?_)
  refine J_iadd (pc := 25) hX (by decide +kernel) ?_
  refine J_iload_n (k0 := 2) (pc := 26) 2 hX (by decide +kernel) rfl rfl ?_
  refine J_stA (pc := 27) hX (by decide +kernel) hL.2.2.2.2.2.2.2.2.2.2.2.2.2.1.2 (fun μ4 => ?_)
  refine J_aload_n (k0 := 0) (pc := 28) 0 hX (by decide +kernel) rfl rfl ?_
  refine J_aload_n (k0 := 0) (pc := 29) 0 hX (by decide +kernel) rfl rfl ?_
  refine J_gF (pc := 30) hX (by decide +kernel) fl_Mo_206 hL.1 rfl (fun x5 => ?_)
  refine J_iconst (pc := 33) (n := 1) (v := 1) hX (by decide +kernel) (by decide +kernel) ?_
  refine J_iadd (pc := 34) hX (by decide +kernel) ?_
  refine J_pF (pc := 35) hX (by decide +kernel) fl_Mo_206 hL.1 rfl (fun μ6 => ?_)
  exact J_vret (pc := 38) hX (by decide +kernel) rfl trivial
set_option maxRecDepth 100000 in
set_option maxHeartbeats 4000000 in
theorem c_Mo_emits {l : Launch} {G : Gx} {y : Ly} {a : Nat} (hL : LyMo y a ) (v1 : Int32) (v2 : Int32) (μ : Mu) : Cn l G ⟨"SaltFiguresModel", "emits", "(II)V"⟩ prog_13_method_35_code 3 none 1 [.ref (G.1 + a), .int v1, .int v2] (μ, y) (emy y) rvV tpT (Mo_emits a v1 v2 μ) := cn_of (by decide +kernel) (Nat.le_of_ble_eq_true rfl) (fun _ _ _ => ⟨List.prefix_refl _, trivial⟩) (fun X hX _ => jMo_emits hL hX v1 v2 μ)

def Mo_end (a : Nat) (v1 : Int32) (μ : Mu) : Option (Int32 × Mu) := pF μ a 0 0 (fun μ1 => gF μ1 a 9 (fun x2 => cl (Mo_isIn a v1 0 x2 μ1) (fun x4 μ3 => (if x4 = 0 then some (0, μ3) else pF μ3 a 9 v1 (fun μ5 => some (1, μ5))))))
set_option maxRecDepth 100000 in
set_option maxHeartbeats 4000000 in
theorem jMo_end {X : Cx} {l : Launch} {G : Gx} {y : Ly} {a : Nat} (hL : LyMo y a ) (hX : Ok X l G prog_13_method_25_code 2 (some .boolean) "SaltFiguresModel") (v1 : Int32) (μ : Mu) : J X G 2 2 y (emy y) rvI tpT 0 [(0, .ref (G.1 + a)), (1, .int v1)] [] (μ, y) (Mo_end a v1 μ) := by
  unfold Mo_end
  refine J_aload_n (k0 := 0) (pc := 0) 0 hX (by decide +kernel) rfl rfl ?_
  refine J_iconst (pc := 1) (n := 0) (v := 0) hX (by decide +kernel) (by decide +kernel) ?_
  refine J_pF (pc := 2) hX (by decide +kernel) fl_Mo_131 hL.1 rfl (fun μ1 => ?_)
  refine J_aload_n (k0 := 0) (pc := 5) 0 hX (by decide +kernel) rfl rfl ?_
  refine J_iload_n (k0 := 1) (pc := 6) 1 hX (by decide +kernel) rfl rfl ?_
  refine J_iconst (pc := 7) (n := 0) (v := 0) hX (by decide +kernel) (by decide +kernel) ?_
  refine J_aload_n (k0 := 0) (pc := 8) 0 hX (by decide +kernel) rfl rfl ?_
  refine J_gF (pc := 9) hX (by decide +kernel) fl_Mo_165 hL.1 rfl (fun x2 => ?_)
  refine J_cVi (pc := 12) (idx := 154) [.int v1, .int 0, .int x2] hX (by decide +kernel) (mq mt_6 226 (by decide +kernel)) mv_Mo_isIn hL.1 rfl rfl (Nat.le_of_ble_eq_true rfl) (Nat.le_of_ble_eq_true rfl) (c_Mo_isIn hL v1 0 x2 μ1) (fun x4 μ3 => ?_)
  refine J_if_ne (pc := 15) (off := 5) (tgt := 20) hX (by decide +kernel) (by decide +kernel) (fun _ => ?_) (fun _ => ?_)
  · refine J_aload_n (k0 := 0) (pc := 20) 0 hX (by decide +kernel) rfl rfl ?_
    refine J_iload_n (k0 := 1) (pc := 21) 1 hX (by decide +kernel) rfl rfl ?_
    refine J_pF (pc := 22) hX (by decide +kernel) fl_Mo_165 hL.1 rfl (fun μ5 => ?_)
    refine J_iconst (pc := 25) (n := 1) (v := 1) hX (by decide +kernel) (by decide +kernel) ?_
    exact J_zret (pc := 26) hX (by decide +kernel) rfl (by decide +kernel) trivial
  · refine J_iconst (pc := 18) (n := 0) (v := 0) hX (by decide +kernel) (by decide +kernel) ?_
    exact J_zret (pc := 19) hX (by decide +kernel) rfl (by decide +kernel) trivial
set_option maxRecDepth 100000 in
set_option maxHeartbeats 4000000 in
theorem c_Mo_end {l : Launch} {G : Gx} {y : Ly} {a : Nat} (hL : LyMo y a ) (v1 : Int32) (μ : Mu) : Cn l G ⟨"SaltFiguresModel", "end", "(I)Z"⟩ prog_13_method_25_code 2 (some .boolean) 2 [.ref (G.1 + a), .int v1] (μ, y) (emy y) rvI tpT (Mo_end a v1 μ) := cn_of (by decide +kernel) (Nat.le_of_ble_eq_true rfl) (fun _ _ _ => ⟨List.prefix_refl _, trivial⟩) (fun X hX _ => jMo_end hL hX v1 μ)

def Mo_endsThought_2b (a : Nat)  (kb2 : Int32 → Mu → Option (Unit × Mu))  (v1 : Int32)  (μ : Mu) : Option (Unit × Mu) := (if 118 ≤ v1 then zg 0 (pF μ a 5 0 (fun μ1 => some ((), μ1))) else ldA μ (a + 3) 118 v1 (fun x2 => stA μ (a + 1) 118 v1 x2 (fun μ3 => kb2 (v1 + 1) μ3)))
def Mo_endsThought_2 (a : Nat)   (fu : Nat) : Int32 → Mu → Option (Unit × Mu) := lp (fun kb => Mo_endsThought_2b a  kb ) (fun _ _ => none) fu
def Mo_endsThought (a : Nat)  (μ : Mu) : Option (Unit × Mu) := Mo_endsThought_2 a FU 0 μ
set_option maxRecDepth 100000 in
set_option maxHeartbeats 4000000 in
theorem jMo_endsThought_2b {X : Cx} {l : Launch} {G : Gx} {y : Ly} {a : Nat} (hL : LyMo y a ) (hX : Ok X l G prog_13_method_13_code 2 none "SaltFiguresModel")   {kb2 : Int32 → Mu → Option (Unit × Mu)}  (hk2 : ∀ (v1 : Int32) (μ : Mu), J X G 2 1 y (emy y) rvV tpT 2 [(0, .ref (G.1 + a)), (1, .int v1)] [] (μ, y) (kb2 v1 μ)) (v1 : Int32)  (μ : Mu) : J X G 2 1 y (emy y) rvV tpT 2 [(0, .ref (G.1 + a)), (1, .int v1)] [] (μ, y) (Mo_endsThought_2b a  kb2  v1  μ) := by
  unfold Mo_endsThought_2b
  refine J_iload_n (k0 := 1) (pc := 2) 1 hX (by decide +kernel) rfl rfl ?_
  refine J_bipush (pc := 3) (n := 118) (v := 118) hX (by decide +kernel) (by decide +kernel) ?_
  refine J_icmp_ge (pc := 5) (off := 21) (tgt := 26) hX (by decide +kernel) (by decide +kernel) (fun _ => ?_) (fun _ => ?_)
  · refine J_aload_n (k0 := 0) (pc := 26) 0 hX (by decide +kernel) rfl rfl ?_
    refine J_iconst (pc := 27) (n := 0) (v := 0) hX (by decide +kernel) (by decide +kernel) ?_
    refine J_pFz (pc := 28) hX (by decide +kernel) fl_Mo_138 hL.1 rfl (fun μ1 => ?_)
    exact J_vret (pc := 31) hX (by decide +kernel) rfl trivial
  · refine J_aload_n (k0 := 0) (pc := 8) 0 hX (by decide +kernel) rfl rfl ?_
    refine J_gr (pc := 9) hX (by decide +kernel) fl_Mo_7 hL.1 rfl hL.2.1.1 ?_
    refine J_iload_n (k0 := 1) (pc := 12) 1 hX (by decide +kernel) rfl rfl ?_
    refine J_aload_n (k0 := 0) (pc := 13) 0 hX (by decide +kernel) rfl rfl ?_
    refine J_gr (pc := 14) hX (by decide +kernel) fl_Mo_16 hL.1 rfl hL.2.2.2.1.1 ?_
    refine J_iload_n (k0 := 1) (pc := 17) 1 hX (by decide +kernel) rfl rfl ?_
    refine J_ldA (pc := 18) hX (by decide +kernel) hL.2.2.2.1.2 (fun x2 => ?_)
    refine J_stA (pc := 19) hX (by decide +kernel) hL.2.1.2 (fun μ3 => ?_)
    refine J_iinc (pc := 20) (n := 1) 1 [(1, .int (v1 + 1)), (0, .ref (G.1 + a))] hX (by decide +kernel) rfl rfl (by decide) rfl ?_
    refine J_goto (pc := 23) (off := -21) (tgt := 2) hX (by decide +kernel) (by decide +kernel) ?_
    exact J_sub [1, 0] _ rfl (hk2 (v1 + 1) μ3)
set_option maxRecDepth 100000 in
set_option maxHeartbeats 4000000 in
theorem jMo_endsThought_2 {X : Cx} {l : Launch} {G : Gx} {y : Ly} {a : Nat} (hL : LyMo y a ) (hX : Ok X l G prog_13_method_13_code 2 none "SaltFiguresModel")    : ∀ (fu : Nat) (v1 : Int32) (μ : Mu), J X G 2 1 y (emy y) rvV tpT 2 [(0, .ref (G.1 + a)), (1, .int v1)] [] (μ, y) (Mo_endsThought_2 a   fu v1 μ) := by
  intro fu
  induction fu with
  | zero => intros; exact J_none
  | succ fu ih => intro v1 μ; exact jMo_endsThought_2b hL hX   ih v1 μ
set_option maxRecDepth 100000 in
set_option maxHeartbeats 4000000 in
theorem jMo_endsThought {X : Cx} {l : Launch} {G : Gx} {y : Ly} {a : Nat} (hL : LyMo y a ) (hX : Ok X l G prog_13_method_13_code 2 none "SaltFiguresModel")  (μ : Mu) : J X G 2 1 y (emy y) rvV tpT 0 [(0, .ref (G.1 + a))] [] (μ, y) (Mo_endsThought a  μ) := by
  unfold Mo_endsThought
  refine J_iconst (pc := 0) (n := 0) (v := 0) hX (by decide +kernel) (by decide +kernel) ?_
  refine J_istore_n (k0 := 1) (pc := 1) [(1, .int 0), (0, .ref (G.1 + a))] hX (by decide +kernel) rfl (by decide) rfl ?_
  exact J_sub [1, 0] _ rfl (jMo_endsThought_2 hL hX FU 0 μ)
set_option maxRecDepth 100000 in
set_option maxHeartbeats 4000000 in
theorem c_Mo_endsThought {l : Launch} {G : Gx} {y : Ly} {a : Nat} (hL : LyMo y a )  (μ : Mu) : Cn l G ⟨"SaltFiguresModel", "endsThought", "()V"⟩ prog_13_method_13_code 2 none 1 [.ref (G.1 + a)] (μ, y) (emy y) rvV tpT (Mo_endsThought a  μ) := cn_of (by decide +kernel) (Nat.le_of_ble_eq_true rfl) (fun _ _ _ => ⟨List.prefix_refl _, trivial⟩) (fun X hX _ => jMo_endsThought hL hX  μ)

def Mo_errs (a : Nat) (v1 : Int32) (μ : Mu) : Option (Int32 × Mu) := pF μ a 27 v1 (fun μ1 => gF μ1 a 11 (fun x2 => pF μ1 a 28 x2 (fun μ3 => some ((-1), μ3))))
set_option maxRecDepth 100000 in
set_option maxHeartbeats 4000000 in
theorem jMo_errs {X : Cx} {l : Launch} {G : Gx} {y : Ly} {a : Nat} (hL : LyMo y a ) (hX : Ok X l G prog_13_method_32_code 2 (some .int) "SaltFiguresModel") (v1 : Int32) (μ : Mu) : J X G 2 1 y (emy y) rvI tpT 0 [(0, .ref (G.1 + a)), (1, .int v1)] [] (μ, y) (Mo_errs a v1 μ) := by
  unfold Mo_errs
  refine J_aload_n (k0 := 0) (pc := 0) 0 hX (by decide +kernel) rfl rfl ?_
  refine J_iload_n (k0 := 1) (pc := 1) 1 hX (by decide +kernel) rfl rfl ?_
  refine J_pF (pc := 2) hX (by decide +kernel) fl_Mo_200 hL.1 rfl (fun μ1 => ?_)
  refine J_aload_n (k0 := 0) (pc := 5) 0 hX (by decide +kernel) rfl rfl ?_
  refine J_aload_n (k0 := 0) (pc := 6) 0 hX (by decide +kernel) rfl rfl ?_
  refine J_gF (pc := 7) hX (by decide +kernel) fl_Mo_178 hL.1 rfl (fun x2 => ?_)
  refine J_pF (pc := 10) hX (by decide +kernel) fl_Mo_203 hL.1 rfl (fun μ3 => ?_)
  refine J_iconst (pc := 13) (n := -1) (v := (-1)) hX (by decide +kernel) (by decide +kernel) ?_
  exact J_iret (pc := 14) hX (by decide +kernel) rfl trivial
set_option maxRecDepth 100000 in
set_option maxHeartbeats 4000000 in
theorem c_Mo_errs {l : Launch} {G : Gx} {y : Ly} {a : Nat} (hL : LyMo y a ) (v1 : Int32) (μ : Mu) : Cn l G ⟨"SaltFiguresModel", "errs", "(I)I"⟩ prog_13_method_32_code 2 (some .int) 1 [.ref (G.1 + a), .int v1] (μ, y) (emy y) rvI tpT (Mo_errs a v1 μ) := cn_of (by decide +kernel) (Nat.le_of_ble_eq_true rfl) (fun _ _ _ => ⟨List.prefix_refl _, trivial⟩) (fun X hX _ => jMo_errs hL hX v1 μ)

def Mo_fault (a : Nat) (v1 : Int32) (μ : Mu) : Option (Int32 × Mu) := pF μ a 0 0 (fun μ1 => (if v1 = 0 then gF μ1 a 29 (fun x3 => some (x3, μ1)) else (if v1 = 1 then gF μ1 a 30 (fun x2 => some (x2, μ1)) else some ((-1), μ1))))
set_option maxRecDepth 100000 in
set_option maxHeartbeats 4000000 in
theorem jMo_fault {X : Cx} {l : Launch} {G : Gx} {y : Ly} {a : Nat} (hL : LyMo y a ) (hX : Ok X l G prog_13_method_60_code 2 (some .int) "SaltFiguresModel") (v1 : Int32) (μ : Mu) : J X G 2 1 y (emy y) rvI tpT 0 [(0, .ref (G.1 + a)), (1, .int v1)] [] (μ, y) (Mo_fault a v1 μ) := by
  unfold Mo_fault
  refine J_aload_n (k0 := 0) (pc := 0) 0 hX (by decide +kernel) rfl rfl ?_
  refine J_iconst (pc := 1) (n := 0) (v := 0) hX (by decide +kernel) (by decide +kernel) ?_
  refine J_pF (pc := 2) hX (by decide +kernel) fl_Mo_131 hL.1 rfl (fun μ1 => ?_)
  refine J_iload_n (k0 := 1) (pc := 5) 1 hX (by decide +kernel) rfl rfl ?_
  refine J_if_ne (pc := 6) (off := 10) (tgt := 16) hX (by decide +kernel) (by decide +kernel) (fun _ => ?_) (fun _ => ?_)
  · refine J_iload_n (k0 := 1) (pc := 16) 1 hX (by decide +kernel) rfl rfl ?_
    refine J_iconst (pc := 17) (n := 1) (v := 1) hX (by decide +kernel) (by decide +kernel) ?_
    refine J_icmp_ne (pc := 18) (off := 10) (tgt := 28) hX (by decide +kernel) (by decide +kernel) (fun _ => ?_) (fun _ => ?_)
    · refine J_iconst (pc := 28) (n := -1) (v := (-1)) hX (by decide +kernel) (by decide +kernel) ?_
      exact J_iret (pc := 29) hX (by decide +kernel) rfl trivial
    · refine J_aload_n (k0 := 0) (pc := 21) 0 hX (by decide +kernel) rfl rfl ?_
      refine J_gF (pc := 22) hX (by decide +kernel) fl_Mo_52 hL.1 rfl (fun x2 => ?_)
      refine J_goto (pc := 25) (off := 4) (tgt := 29) hX (by decide +kernel) (by decide +kernel) ?_
      exact J_iret (pc := 29) hX (by decide +kernel) rfl trivial
  · refine J_aload_n (k0 := 0) (pc := 9) 0 hX (by decide +kernel) rfl rfl ?_
    refine J_gF (pc := 10) hX (by decide +kernel) fl_Mo_306 hL.1 rfl (fun x3 => ?_)
    refine J_goto (pc := 13) (off := 16) (tgt := 29) hX (by decide +kernel) (by decide +kernel) ?_
    exact J_iret (pc := 29) hX (by decide +kernel) rfl trivial
set_option maxRecDepth 100000 in
set_option maxHeartbeats 4000000 in
theorem c_Mo_fault {l : Launch} {G : Gx} {y : Ly} {a : Nat} (hL : LyMo y a ) (v1 : Int32) (μ : Mu) : Cn l G ⟨"SaltFiguresModel", "fault", "(I)I"⟩ prog_13_method_60_code 2 (some .int) 1 [.ref (G.1 + a), .int v1] (μ, y) (emy y) rvI tpT (Mo_fault a v1 μ) := cn_of (by decide +kernel) (Nat.le_of_ble_eq_true rfl) (fun _ _ _ => ⟨List.prefix_refl _, trivial⟩) (fun X hX _ => jMo_fault hL hX v1 μ)

def Mo_types_3b (a : Nat)  (kb3 : Int32 → Mu → Option (Unit × Mu)) (v1 : Int32) (v2 : Int32)  (μ : Mu) : Option (Unit × Mu) := (if v2 < 0 then some ((), μ) else gF μ a 9 (fun x1 => stA μ (a + 5) 400 x1 ((jshr v1 v2) &&& 255) (fun μ2 => gF μ2 a 9 (fun x3 => pF μ2 a 9 (x3 + 1) (fun μ4 => kb3 (v2 + (-8)) μ4)))))
def Mo_types_3 (a : Nat)  (v1 : Int32) (fu : Nat) : Int32 → Mu → Option (Unit × Mu) := lp (fun kb => Mo_types_3b a  kb v1) (fun _ _ => none) fu
def Mo_types (a : Nat) (v1 : Int32) (μ : Mu) : Option (Unit × Mu) := Mo_types_3 a v1 FU 24 μ
set_option maxRecDepth 100000 in
set_option maxHeartbeats 4000000 in
theorem jMo_types_3b {X : Cx} {l : Launch} {G : Gx} {y : Ly} {a : Nat} (hL : LyMo y a ) (hX : Ok X l G prog_13_method_23_code 3 none "SaltFiguresModel") (v1 : Int32)  {kb3 : Int32 → Mu → Option (Unit × Mu)}  (hk3 : ∀ (v2 : Int32) (μ : Mu), J X G 3 1 y (emy y) rvV tpT 3 [(0, .ref (G.1 + a)), (1, .int v1), (2, .int v2)] [] (μ, y) (kb3 v2 μ)) (v2 : Int32)  (μ : Mu) : J X G 3 1 y (emy y) rvV tpT 3 [(0, .ref (G.1 + a)), (1, .int v1), (2, .int v2)] [] (μ, y) (Mo_types_3b a  kb3 v1 v2  μ) := by
  unfold Mo_types_3b
  refine J_iload_n (k0 := 2) (pc := 3) 2 hX (by decide +kernel) rfl rfl ?_
  refine J_if_lt (pc := 4) (off := 35) (tgt := 39) hX (by decide +kernel) (by decide +kernel) (fun _ => ?_) (fun _ => ?_)
  · exact J_vret (pc := 39) hX (by decide +kernel) rfl trivial
  · refine J_aload_n (k0 := 0) (pc := 7) 0 hX (by decide +kernel) rfl rfl ?_
    refine J_gr (pc := 8) hX (by decide +kernel) fl_Mo_22 hL.1 rfl hL.2.2.2.2.2.1.1 ?_
    refine J_aload_n (k0 := 0) (pc := 11) 0 hX (by decide +kernel) rfl rfl ?_
    refine J_gF (pc := 12) hX (by decide +kernel) fl_Mo_165 hL.1 rfl (fun x1 => ?_)
    refine J_iload_n (k0 := 1) (pc := 15) 1 hX (by decide +kernel) rfl rfl ?_
    refine J_iload_n (k0 := 2) (pc := 16) 2 hX (by decide +kernel) rfl rfl ?_
    refine J_ishr (pc := 17) hX (by decide +kernel) ?_
    refine J_sipush (pc := 18) (n := 255) (v := 255) hX (by decide +kernel) (by decide +kernel) ?_
    refine J_iand (pc := 21) hX (by decide +kernel) ?_
    refine J_stA (pc := 22) hX (by decide +kernel) hL.2.2.2.2.2.1.2 (fun μ2 => ?_)
    refine J_aload_n (k0 := 0) (pc := 23) 0 hX (by decide +kernel) rfl rfl ?_
    refine J_aload_n (k0 := 0) (pc := 24) 0 hX (by decide +kernel) rfl rfl ?_
    refine J_gF (pc := 25) hX (by decide +kernel) fl_Mo_165 hL.1 rfl (fun x3 => ?_)
    refine J_iconst (pc := 28) (n := 1) (v := 1) hX (by decide +kernel) (by decide +kernel) ?_
    refine J_iadd (pc := 29) hX (by decide +kernel) ?_
    refine J_pF (pc := 30) hX (by decide +kernel) fl_Mo_165 hL.1 rfl (fun μ4 => ?_)
    refine J_iinc (pc := 33) (n := -8) 2 [(2, .int (v2 + (-8))), (0, .ref (G.1 + a)), (1, .int v1)] hX (by decide +kernel) rfl rfl (by decide) rfl ?_
    refine J_goto (pc := 36) (off := -33) (tgt := 3) hX (by decide +kernel) (by decide +kernel) ?_
    exact J_sub [1, 2, 0] _ rfl (hk3 (v2 + (-8)) μ4)
set_option maxRecDepth 100000 in
set_option maxHeartbeats 4000000 in
theorem jMo_types_3 {X : Cx} {l : Launch} {G : Gx} {y : Ly} {a : Nat} (hL : LyMo y a ) (hX : Ok X l G prog_13_method_23_code 3 none "SaltFiguresModel") (v1 : Int32)   : ∀ (fu : Nat) (v2 : Int32) (μ : Mu), J X G 3 1 y (emy y) rvV tpT 3 [(0, .ref (G.1 + a)), (1, .int v1), (2, .int v2)] [] (μ, y) (Mo_types_3 a  v1 fu v2 μ) := by
  intro fu
  induction fu with
  | zero => intros; exact J_none
  | succ fu ih => intro v2 μ; exact jMo_types_3b hL hX v1  ih v2 μ
set_option maxRecDepth 100000 in
set_option maxHeartbeats 4000000 in
theorem jMo_types {X : Cx} {l : Launch} {G : Gx} {y : Ly} {a : Nat} (hL : LyMo y a ) (hX : Ok X l G prog_13_method_23_code 3 none "SaltFiguresModel") (v1 : Int32) (μ : Mu) : J X G 3 1 y (emy y) rvV tpT 0 [(0, .ref (G.1 + a)), (1, .int v1)] [] (μ, y) (Mo_types a v1 μ) := by
  unfold Mo_types
  refine J_bipush (pc := 0) (n := 24) (v := 24) hX (by decide +kernel) (by decide +kernel) ?_
  refine J_istore_n (k0 := 2) (pc := 2) [(2, .int 24), (0, .ref (G.1 + a)), (1, .int v1)] hX (by decide +kernel) rfl (by decide) rfl ?_
  exact J_sub [1, 2, 0] _ rfl (jMo_types_3 hL hX v1 FU 24 μ)
set_option maxRecDepth 100000 in
set_option maxHeartbeats 4000000 in
theorem c_Mo_types {l : Launch} {G : Gx} {y : Ly} {a : Nat} (hL : LyMo y a ) (v1 : Int32) (μ : Mu) : Cn l G ⟨"SaltFiguresModel", "types", "(I)V"⟩ prog_13_method_23_code 3 none 1 [.ref (G.1 + a), .int v1] (μ, y) (emy y) rvV tpT (Mo_types a v1 μ) := cn_of (by decide +kernel) (Nat.le_of_ble_eq_true rfl) (fun _ _ _ => ⟨List.prefix_refl _, trivial⟩) (fun X hX _ => jMo_types hL hX v1 μ)

def Mo_feed (a : Nat) (v1 : Int32) (v2 : Int32) (v3 : Int32) (v4 : Int32) (v5 : Int32) (μ : Mu) : Option (Int32 × Mu) := pF μ a 0 0 (fun μ1 => gF μ1 a 9 (fun x2 => (if x2 ≤ 380 then cl (Mo_types a v1 μ1) (fun _ μ3 => cl (Mo_types a v2 μ3) (fun _ μ4 => cl (Mo_types a v3 μ4) (fun _ μ5 => cl (Mo_types a v4 μ5) (fun _ μ6 => cl (Mo_types a v5 μ6) (fun _ μ7 => gF μ7 a 9 (fun x8 => some (x8, μ7))))))) else some ((-1), μ1))))
set_option maxRecDepth 100000 in
set_option maxHeartbeats 4000000 in
theorem jMo_feed {X : Cx} {l : Launch} {G : Gx} {y : Ly} {a : Nat} (hL : LyMo y a ) (hX : Ok X l G prog_13_method_24_code 6 (some .int) "SaltFiguresModel") (v1 : Int32) (v2 : Int32) (v3 : Int32) (v4 : Int32) (v5 : Int32) (μ : Mu) : J X G 6 2 y (emy y) rvI tpT 0 [(0, .ref (G.1 + a)), (1, .int v1), (2, .int v2), (3, .int v3), (4, .int v4), (5, .int v5)] [] (μ, y) (Mo_feed a v1 v2 v3 v4 v5 μ) := by
  unfold Mo_feed
  refine J_aload_n (k0 := 0) (pc := 0) 0 hX (by decide +kernel) rfl rfl ?_
  refine J_iconst (pc := 1) (n := 0) (v := 0) hX (by decide +kernel) (by decide +kernel) ?_
  refine J_pF (pc := 2) hX (by decide +kernel) fl_Mo_131 hL.1 rfl (fun μ1 => ?_)
  refine J_aload_n (k0 := 0) (pc := 5) 0 hX (by decide +kernel) rfl rfl ?_
  refine J_gF (pc := 6) hX (by decide +kernel) fl_Mo_165 hL.1 rfl (fun x2 => ?_)
  refine J_sipush (pc := 9) (n := 380) (v := 380) hX (by decide +kernel) (by decide +kernel) ?_
  refine J_icmp_le (pc := 12) (off := 5) (tgt := 17) hX (by decide +kernel) (by decide +kernel) (fun _ => ?_) (fun _ => ?_)
  · refine J_aload_n (k0 := 0) (pc := 17) 0 hX (by decide +kernel) rfl rfl ?_
    refine J_iload_n (k0 := 1) (pc := 18) 1 hX (by decide +kernel) rfl rfl ?_
    refine J_cVv (pc := 19) (idx := 168) [.int v1] hX (by decide +kernel) (mq mt_7 6 (by decide +kernel)) mv_Mo_types hL.1 rfl rfl (Nat.le_of_ble_eq_true rfl) (Nat.le_of_ble_eq_true rfl) (c_Mo_types hL v1 μ1) (fun μ3 => ?_)
    refine J_aload_n (k0 := 0) (pc := 22) 0 hX (by decide +kernel) rfl rfl ?_
    refine J_iload_n (k0 := 2) (pc := 23) 2 hX (by decide +kernel) rfl rfl ?_
    refine J_cVv (pc := 24) (idx := 168) [.int v2] hX (by decide +kernel) (mq mt_7 6 (by decide +kernel)) mv_Mo_types hL.1 rfl rfl (Nat.le_of_ble_eq_true rfl) (Nat.le_of_ble_eq_true rfl) (c_Mo_types hL v2 μ3) (fun μ4 => ?_)
    refine J_aload_n (k0 := 0) (pc := 27) 0 hX (by decide +kernel) rfl rfl ?_
    refine J_iload_n (k0 := 3) (pc := 28) 3 hX (by decide +kernel) rfl rfl ?_
    refine J_cVv (pc := 29) (idx := 168) [.int v3] hX (by decide +kernel) (mq mt_7 6 (by decide +kernel)) mv_Mo_types hL.1 rfl rfl (Nat.le_of_ble_eq_true rfl) (Nat.le_of_ble_eq_true rfl) (c_Mo_types hL v3 μ4) (fun μ5 => ?_)
    refine J_aload_n (k0 := 0) (pc := 32) 0 hX (by decide +kernel) rfl rfl ?_
    refine J_iload (pc := 33) 4 hX (by decide +kernel) rfl ?_
    refine J_cVv (pc := 35) (idx := 168) [.int v4] hX (by decide +kernel) (mq mt_7 6 (by decide +kernel)) mv_Mo_types hL.1 rfl rfl (Nat.le_of_ble_eq_true rfl) (Nat.le_of_ble_eq_true rfl) (c_Mo_types hL v4 μ5) (fun μ6 => ?_)
    refine J_aload_n (k0 := 0) (pc := 38) 0 hX (by decide +kernel) rfl rfl ?_
    refine J_iload (pc := 39) 5 hX (by decide +kernel) rfl ?_
    refine J_cVv (pc := 41) (idx := 168) [.int v5] hX (by decide +kernel) (mq mt_7 6 (by decide +kernel)) mv_Mo_types hL.1 rfl rfl (Nat.le_of_ble_eq_true rfl) (Nat.le_of_ble_eq_true rfl) (c_Mo_types hL v5 μ6) (fun μ7 => ?_)
    refine J_aload_n (k0 := 0) (pc := 44) 0 hX (by decide +kernel) rfl rfl ?_
    refine J_gF (pc := 45) hX (by decide +kernel) fl_Mo_165 hL.1 rfl (fun x8 => ?_)
    exact J_iret (pc := 48) hX (by decide +kernel) rfl trivial
  · refine J_iconst (pc := 15) (n := -1) (v := (-1)) hX (by decide +kernel) (by decide +kernel) ?_
    exact J_iret (pc := 16) hX (by decide +kernel) rfl trivial
set_option maxRecDepth 100000 in
set_option maxHeartbeats 4000000 in
theorem c_Mo_feed {l : Launch} {G : Gx} {y : Ly} {a : Nat} (hL : LyMo y a ) (v1 : Int32) (v2 : Int32) (v3 : Int32) (v4 : Int32) (v5 : Int32) (μ : Mu) : Cn l G ⟨"SaltFiguresModel", "feed", "(IIIII)I"⟩ prog_13_method_24_code 6 (some .int) 2 [.ref (G.1 + a), .int v1, .int v2, .int v3, .int v4, .int v5] (μ, y) (emy y) rvI tpT (Mo_feed a v1 v2 v3 v4 v5 μ) := cn_of (by decide +kernel) (Nat.le_of_ble_eq_true rfl) (fun _ _ _ => ⟨List.prefix_refl _, trivial⟩) (fun X hX _ => jMo_feed hL hX v1 v2 v3 v4 v5 μ)

def Mo_goodTaking_26 (a : Nat) (kb2 : Int32 → Mu → Option (Int32 × Mu))  (v1 : Int32) (v2 : Int32)  (μ : Mu) : Option (Int32 × Mu) := kb2 (v2 + 1) μ
def Mo_goodTaking_2b (a : Nat)  (kb2 : Int32 → Mu → Option (Int32 × Mu)) (v1 : Int32) (v2 : Int32)  (μ : Mu) : Option (Int32 × Mu) := (if v1 ≤ v2 then some ((-1), μ) else nz v2 ((if (jrem v1 v2) = 0 then ldA μ (a + 38) 301 (v1 - v2) (fun x1 => (if x1 = 0 then some (v2, μ) else Mo_goodTaking_26 a kb2 v1 v2 μ)) else Mo_goodTaking_26 a kb2 v1 v2 μ)))
def Mo_goodTaking_2 (a : Nat)  (v1 : Int32) (fu : Nat) : Int32 → Mu → Option (Int32 × Mu) := lp (fun kb => Mo_goodTaking_2b a  kb v1) (fun _ _ => none) fu
def Mo_goodTaking (a : Nat) (v1 : Int32) (μ : Mu) : Option (Int32 × Mu) := Mo_goodTaking_2 a v1 FU 1 μ
set_option maxRecDepth 100000 in
set_option maxHeartbeats 4000000 in
theorem jMo_goodTaking_26 {X : Cx} {l : Launch} {G : Gx} {y : Ly} {a : Nat} (hL : LyMo y a ) (hX : Ok X l G prog_13_method_129_code 3 (some .int) "SaltFiguresModel")  (v1 : Int32) (v2 : Int32)  {kb2 : Int32 → Mu → Option (Int32 × Mu)} (hk2 : ∀ (v2 : Int32) (μ : Mu), J X G 3 1 y (emy y) rvI tpT 2 [(0, .ref (G.1 + a)), (1, .int v1), (2, .int v2)] [] (μ, y) (kb2 v2 μ)) (μ : Mu) : J X G 3 1 y (emy y) rvI tpT 26 [(0, .ref (G.1 + a)), (1, .int v1), (2, .int v2)] [] (μ, y) (Mo_goodTaking_26 a kb2  v1 v2  μ) := by
  unfold Mo_goodTaking_26
  refine J_iinc (pc := 26) (n := 1) 2 [(2, .int (v2 + 1)), (0, .ref (G.1 + a)), (1, .int v1)] hX (by decide +kernel) rfl rfl (by decide) rfl ?_
  refine J_goto (pc := 29) (off := -27) (tgt := 2) hX (by decide +kernel) (by decide +kernel) ?_
  exact J_sub [1, 2, 0] _ rfl (hk2 (v2 + 1) μ)
set_option maxRecDepth 100000 in
set_option maxHeartbeats 4000000 in
theorem jMo_goodTaking_2b {X : Cx} {l : Launch} {G : Gx} {y : Ly} {a : Nat} (hL : LyMo y a ) (hX : Ok X l G prog_13_method_129_code 3 (some .int) "SaltFiguresModel") (v1 : Int32)  {kb2 : Int32 → Mu → Option (Int32 × Mu)}  (hk2 : ∀ (v2 : Int32) (μ : Mu), J X G 3 1 y (emy y) rvI tpT 2 [(0, .ref (G.1 + a)), (1, .int v1), (2, .int v2)] [] (μ, y) (kb2 v2 μ)) (v2 : Int32)  (μ : Mu) : J X G 3 1 y (emy y) rvI tpT 2 [(0, .ref (G.1 + a)), (1, .int v1), (2, .int v2)] [] (μ, y) (Mo_goodTaking_2b a  kb2 v1 v2  μ) := by
  unfold Mo_goodTaking_2b
  refine J_iload_n (k0 := 2) (pc := 2) 2 hX (by decide +kernel) rfl rfl ?_
  refine J_iload_n (k0 := 1) (pc := 3) 1 hX (by decide +kernel) rfl rfl ?_
  refine J_icmp_ge (pc := 4) (off := 28) (tgt := 32) hX (by decide +kernel) (by decide +kernel) (fun _ => ?_) (fun _ => ?_)
  · refine J_iconst (pc := 32) (n := -1) (v := (-1)) hX (by decide +kernel) (by decide +kernel) ?_
    exact J_iret (pc := 33) hX (by decide +kernel) rfl trivial
  · refine J_iload_n (k0 := 1) (pc := 7) 1 hX (by decide +kernel) rfl rfl ?_
    refine J_iload_n (k0 := 2) (pc := 8) 2 hX (by decide +kernel) rfl rfl ?_
    refine J_irem (pc := 9) hX (by decide +kernel) (fun _ => ?_)
    refine J_if_ne (pc := 10) (off := 16) (tgt := 26) hX (by decide +kernel) (by decide +kernel) (fun _ => ?_) (fun _ => ?_)
    · exact J_sub [0, 1, 2] _ rfl (jMo_goodTaking_26 hL hX v1 v2 hk2 μ)
    · refine J_aload_n (k0 := 0) (pc := 13) 0 hX (by decide +kernel) rfl rfl ?_
      refine J_gr (pc := 14) hX (by decide +kernel) fl_Mo_125 hL.1 rfl hL.2.2.2.2.2.2.2.2.2.2.2.2.2.2.2.2.2.2.2.2.2.2.2.2.2.2.2.2.2.2.2.2.2.2.2.2.2.2.1.1 ?_
      refine J_iload_n (k0 := 1) (pc := 17) 1 hX (by decide +kernel) rfl rfl ?_
      refine J_iload_n (k0 := 2) (pc := 18) 2 hX (by decide +kernel) rfl rfl ?_
      refine J_isub (pc := 19) hX (by decide +kernel) ?_
      refine J_ldA (pc := 20) hX (by decide +kernel) hL.2.2.2.2.2.2.2.2.2.2.2.2.2.2.2.2.2.2.2.2.2.2.2.2.2.2.2.2.2.2.2.2.2.2.2.2.2.2.1.2 (fun x1 => ?_)
      refine J_if_ne (pc := 21) (off := 5) (tgt := 26) hX (by decide +kernel) (by decide +kernel) (fun _ => ?_) (fun _ => ?_)
      · exact J_sub [0, 1, 2] _ rfl (jMo_goodTaking_26 hL hX v1 v2 hk2 μ)
      · refine J_iload_n (k0 := 2) (pc := 24) 2 hX (by decide +kernel) rfl rfl ?_
        exact J_iret (pc := 25) hX (by decide +kernel) rfl trivial
set_option maxRecDepth 100000 in
set_option maxHeartbeats 4000000 in
theorem jMo_goodTaking_2 {X : Cx} {l : Launch} {G : Gx} {y : Ly} {a : Nat} (hL : LyMo y a ) (hX : Ok X l G prog_13_method_129_code 3 (some .int) "SaltFiguresModel") (v1 : Int32)   : ∀ (fu : Nat) (v2 : Int32) (μ : Mu), J X G 3 1 y (emy y) rvI tpT 2 [(0, .ref (G.1 + a)), (1, .int v1), (2, .int v2)] [] (μ, y) (Mo_goodTaking_2 a  v1 fu v2 μ) := by
  intro fu
  induction fu with
  | zero => intros; exact J_none
  | succ fu ih => intro v2 μ; exact jMo_goodTaking_2b hL hX v1  ih v2 μ
set_option maxRecDepth 100000 in
set_option maxHeartbeats 4000000 in
theorem jMo_goodTaking {X : Cx} {l : Launch} {G : Gx} {y : Ly} {a : Nat} (hL : LyMo y a ) (hX : Ok X l G prog_13_method_129_code 3 (some .int) "SaltFiguresModel") (v1 : Int32) (μ : Mu) : J X G 3 1 y (emy y) rvI tpT 0 [(0, .ref (G.1 + a)), (1, .int v1)] [] (μ, y) (Mo_goodTaking a v1 μ) := by
  unfold Mo_goodTaking
  refine J_iconst (pc := 0) (n := 1) (v := 1) hX (by decide +kernel) (by decide +kernel) ?_
  refine J_istore_n (k0 := 2) (pc := 1) [(2, .int 1), (0, .ref (G.1 + a)), (1, .int v1)] hX (by decide +kernel) rfl (by decide) rfl ?_
  exact J_sub [1, 2, 0] _ rfl (jMo_goodTaking_2 hL hX v1 FU 1 μ)
set_option maxRecDepth 100000 in
set_option maxHeartbeats 4000000 in
theorem c_Mo_goodTaking {l : Launch} {G : Gx} {y : Ly} {a : Nat} (hL : LyMo y a ) (v1 : Int32) (μ : Mu) : Cn l G ⟨"SaltFiguresModel", "goodTaking", "(I)I"⟩ prog_13_method_129_code 3 (some .int) 1 [.ref (G.1 + a), .int v1] (μ, y) (emy y) rvI tpT (Mo_goodTaking a v1 μ) := cn_of (by decide +kernel) (Nat.le_of_ble_eq_true rfl) (fun _ _ _ => ⟨List.prefix_refl _, trivial⟩) (fun X hX _ => jMo_goodTaking hL hX v1 μ)

def Mo_game_61 (a : Nat) (kb34 : Int32 → Int32 → Mu → Option (Int32 × Mu))  (v1 : Int32) (v2 : Int32) (v3 : Int32) (v4 : Int32) (s0 : Int32) (s1 : Int32) (μ : Mu) : Option (Int32 × Mu) := stA μ (a + 38) 301 s1 s0 (fun μ1 => ldA μ1 (a + 38) 301 v4 (fun x2 => kb34 (v3 + x2) (v4 + 1) μ1))
def Mo_game_34b (a : Nat)  (kb34 : Int32 → Int32 → Mu → Option (Int32 × Mu)) (v1 : Int32) (v2 : Int32) (v3 : Int32) (v4 : Int32)  (μ : Mu) : Option (Int32 × Mu) := (if v1 < v4 then (if v2 = 0 then ldA μ (a + 38) 301 v1 (fun x3 => some (x3, μ)) else (if v2 = 1 then cl (Mo_goodTaking a v1 μ) (fun x2 μ1 => some (x2, μ1)) else some (v3, μ))) else cl (Mo_goodTaking a v4 μ) (fun x5 μ4 => (if x5 = ((-1)) then Mo_game_61 a kb34 v1 v2 v3 v4 0 v4 μ4 else Mo_game_61 a kb34 v1 v2 v3 v4 1 v4 μ4)))
def Mo_game_34 (a : Nat)  (v1 : Int32) (v2 : Int32) (fu : Nat) : Int32 → Int32 → Mu → Option (Int32 × Mu) := lp (fun kb => Mo_game_34b a  kb v1 v2) (fun _ _ _ => none) fu
def Mo_game (a : Nat) (v1 : Int32) (v2 : Int32) (μ : Mu) : Option (Int32 × Mu) := pF μ a 0 0 (fun μ1 => cl (Mo_isIn a v1 1 300 μ1) (fun x3 μ2 => (if x3 = 0 then some ((-1), μ2) else cl (Mo_isIn a v2 0 2 μ2) (fun x5 μ4 => (if x5 = 0 then some ((-1), μ4) else Mo_game_34 a v1 v2 FU 0 1 μ4)))))
set_option maxRecDepth 100000 in
set_option maxHeartbeats 4000000 in
theorem jMo_game_61 {X : Cx} {l : Launch} {G : Gx} {y : Ly} {a : Nat} (hL : LyMo y a ) (hX : Ok X l G prog_13_method_130_code 5 (some .int) "SaltFiguresModel")  (v1 : Int32) (v2 : Int32) (v3 : Int32) (v4 : Int32) (s0 : Int32) (s1 : Int32) {kb34 : Int32 → Int32 → Mu → Option (Int32 × Mu)} (hk34 : ∀ (v3 : Int32) (v4 : Int32) (μ : Mu), J X G 5 2 y (emy y) rvI tpT 34 [(0, .ref (G.1 + a)), (1, .int v1), (2, .int v2), (3, .int v3), (4, .int v4)] [] (μ, y) (kb34 v3 v4 μ)) (μ : Mu) : J X G 5 2 y (emy y) rvI tpT 61 [(0, .ref (G.1 + a)), (1, .int v1), (2, .int v2), (3, .int v3), (4, .int v4)] [.int s0, .int s1, .ref (G.1 + (a + 38))] (μ, y) (Mo_game_61 a kb34  v1 v2 v3 v4 s0 s1 μ) := by
  unfold Mo_game_61
  refine J_stA (pc := 61) hX (by decide +kernel) hL.2.2.2.2.2.2.2.2.2.2.2.2.2.2.2.2.2.2.2.2.2.2.2.2.2.2.2.2.2.2.2.2.2.2.2.2.2.2.1.2 (fun μ1 => ?_)
  refine J_iload_n (k0 := 3) (pc := 62) 3 hX (by decide +kernel) rfl rfl ?_
  refine J_aload_n (k0 := 0) (pc := 63) 0 hX (by decide +kernel) rfl rfl ?_
  refine J_gr (pc := 64) hX (by decide +kernel) fl_Mo_125 hL.1 rfl hL.2.2.2.2.2.2.2.2.2.2.2.2.2.2.2.2.2.2.2.2.2.2.2.2.2.2.2.2.2.2.2.2.2.2.2.2.2.2.1.1 ?_
  refine J_iload (pc := 67) 4 hX (by decide +kernel) rfl ?_
  refine J_ldA (pc := 69) hX (by decide +kernel) hL.2.2.2.2.2.2.2.2.2.2.2.2.2.2.2.2.2.2.2.2.2.2.2.2.2.2.2.2.2.2.2.2.2.2.2.2.2.2.1.2 (fun x2 => ?_)
  refine J_iadd (pc := 70) hX (by decide +kernel) ?_
  refine J_istore_n (k0 := 3) (pc := 71) [(3, .int (v3 + x2)), (0, .ref (G.1 + a)), (1, .int v1), (2, .int v2), (4, .int v4)] hX (by decide +kernel) rfl (by decide) rfl ?_
  refine J_iinc (pc := 72) (n := 1) 4 [(4, .int (v4 + 1)), (3, .int (v3 + x2)), (0, .ref (G.1 + a)), (1, .int v1), (2, .int v2)] hX (by decide +kernel) rfl rfl (by decide) rfl ?_
  refine J_goto (pc := 75) (off := -41) (tgt := 34) hX (by decide +kernel) (by decide +kernel) ?_
  exact J_sub [2, 3, 4, 1, 0] _ rfl (hk34 (v3 + x2) (v4 + 1) μ1)
set_option maxRecDepth 100000 in
set_option maxHeartbeats 4000000 in
theorem jMo_game_34b {X : Cx} {l : Launch} {G : Gx} {y : Ly} {a : Nat} (hL : LyMo y a ) (hX : Ok X l G prog_13_method_130_code 5 (some .int) "SaltFiguresModel") (v1 : Int32) (v2 : Int32)  {kb34 : Int32 → Int32 → Mu → Option (Int32 × Mu)}  (hk34 : ∀ (v3 : Int32) (v4 : Int32) (μ : Mu), J X G 5 2 y (emy y) rvI tpT 34 [(0, .ref (G.1 + a)), (1, .int v1), (2, .int v2), (3, .int v3), (4, .int v4)] [] (μ, y) (kb34 v3 v4 μ)) (v3 : Int32) (v4 : Int32)  (μ : Mu) : J X G 5 2 y (emy y) rvI tpT 34 [(0, .ref (G.1 + a)), (1, .int v1), (2, .int v2), (3, .int v3), (4, .int v4)] [] (μ, y) (Mo_game_34b a  kb34 v1 v2 v3 v4  μ) := by
  unfold Mo_game_34b
  refine J_iload (pc := 34) 4 hX (by decide +kernel) rfl ?_
  refine J_iload_n (k0 := 1) (pc := 36) 1 hX (by decide +kernel) rfl rfl ?_
  refine J_icmp_gt (pc := 37) (off := 41) (tgt := 78) hX (by decide +kernel) (by decide +kernel) (fun _ => ?_) (fun _ => ?_)
  · refine J_iload_n (k0 := 2) (pc := 78) 2 hX (by decide +kernel) rfl rfl ?_
    refine J_if_ne (pc := 79) (off := 12) (tgt := 91) hX (by decide +kernel) (by decide +kernel) (fun _ => ?_) (fun _ => ?_)
    · refine J_iload_n (k0 := 2) (pc := 91) 2 hX (by decide +kernel) rfl rfl ?_
      refine J_iconst (pc := 92) (n := 1) (v := 1) hX (by decide +kernel) (by decide +kernel) ?_
      refine J_icmp_ne (pc := 93) (off := 11) (tgt := 104) hX (by decide +kernel) (by decide +kernel) (fun _ => ?_) (fun _ => ?_)
      · refine J_iload_n (k0 := 3) (pc := 104) 3 hX (by decide +kernel) rfl rfl ?_
        exact J_iret (pc := 105) hX (by decide +kernel) rfl trivial
      · refine J_aload_n (k0 := 0) (pc := 96) 0 hX (by decide +kernel) rfl rfl ?_
        refine J_iload_n (k0 := 1) (pc := 97) 1 hX (by decide +kernel) rfl rfl ?_
        refine J_cVi (pc := 98) (idx := 489) [.int v1] hX (by decide +kernel) (mq mt_9 1 (by decide +kernel)) mv_Mo_goodTaking hL.1 rfl rfl (Nat.le_of_ble_eq_true rfl) (Nat.le_of_ble_eq_true rfl) (c_Mo_goodTaking hL v1 μ) (fun x2 μ1 => ?_)
        refine J_goto (pc := 101) (off := 4) (tgt := 105) hX (by decide +kernel) (by decide +kernel) ?_
        exact J_iret (pc := 105) hX (by decide +kernel) rfl trivial
    · refine J_aload_n (k0 := 0) (pc := 82) 0 hX (by decide +kernel) rfl rfl ?_
      refine J_gr (pc := 83) hX (by decide +kernel) fl_Mo_125 hL.1 rfl hL.2.2.2.2.2.2.2.2.2.2.2.2.2.2.2.2.2.2.2.2.2.2.2.2.2.2.2.2.2.2.2.2.2.2.2.2.2.2.1.1 ?_
      refine J_iload_n (k0 := 1) (pc := 86) 1 hX (by decide +kernel) rfl rfl ?_
      refine J_ldA (pc := 87) hX (by decide +kernel) hL.2.2.2.2.2.2.2.2.2.2.2.2.2.2.2.2.2.2.2.2.2.2.2.2.2.2.2.2.2.2.2.2.2.2.2.2.2.2.1.2 (fun x3 => ?_)
      refine J_goto (pc := 88) (off := 17) (tgt := 105) hX (by decide +kernel) (by decide +kernel) ?_
      exact J_iret (pc := 105) hX (by decide +kernel) rfl trivial
  · refine J_aload_n (k0 := 0) (pc := 40) 0 hX (by decide +kernel) rfl rfl ?_
    refine J_gr (pc := 41) hX (by decide +kernel) fl_Mo_125 hL.1 rfl hL.2.2.2.2.2.2.2.2.2.2.2.2.2.2.2.2.2.2.2.2.2.2.2.2.2.2.2.2.2.2.2.2.2.2.2.2.2.2.1.1 ?_
    refine J_iload (pc := 44) 4 hX (by decide +kernel) rfl ?_
    refine J_aload_n (k0 := 0) (pc := 46) 0 hX (by decide +kernel) rfl rfl ?_
    refine J_iload (pc := 47) 4 hX (by decide +kernel) rfl ?_
    refine J_cVi (pc := 49) (idx := 489) [.int v4] hX (by decide +kernel) (mq mt_9 1 (by decide +kernel)) mv_Mo_goodTaking hL.1 rfl rfl (Nat.le_of_ble_eq_true rfl) (Nat.le_of_ble_eq_true rfl) (c_Mo_goodTaking hL v4 μ) (fun x5 μ4 => ?_)
    refine J_iconst (pc := 52) (n := -1) (v := (-1)) hX (by decide +kernel) (by decide +kernel) ?_
    refine J_icmp_ne (pc := 53) (off := 7) (tgt := 60) hX (by decide +kernel) (by decide +kernel) (fun _ => ?_) (fun _ => ?_)
    · refine J_iconst (pc := 60) (n := 1) (v := 1) hX (by decide +kernel) (by decide +kernel) ?_
      exact J_sub [0, 1, 2, 3, 4] _ rfl (jMo_game_61 hL hX v1 v2 v3 v4 1 v4 hk34 μ4)
    · refine J_iconst (pc := 56) (n := 0) (v := 0) hX (by decide +kernel) (by decide +kernel) ?_
      refine J_goto (pc := 57) (off := 4) (tgt := 61) hX (by decide +kernel) (by decide +kernel) ?_
      exact J_sub [0, 1, 2, 3, 4] _ rfl (jMo_game_61 hL hX v1 v2 v3 v4 0 v4 hk34 μ4)
set_option maxRecDepth 100000 in
set_option maxHeartbeats 4000000 in
theorem jMo_game_34 {X : Cx} {l : Launch} {G : Gx} {y : Ly} {a : Nat} (hL : LyMo y a ) (hX : Ok X l G prog_13_method_130_code 5 (some .int) "SaltFiguresModel") (v1 : Int32) (v2 : Int32)   : ∀ (fu : Nat) (v3 : Int32) (v4 : Int32) (μ : Mu), J X G 5 2 y (emy y) rvI tpT 34 [(0, .ref (G.1 + a)), (1, .int v1), (2, .int v2), (3, .int v3), (4, .int v4)] [] (μ, y) (Mo_game_34 a  v1 v2 fu v3 v4 μ) := by
  intro fu
  induction fu with
  | zero => intros; exact J_none
  | succ fu ih => intro v3 v4 μ; exact jMo_game_34b hL hX v1 v2  ih v3 v4 μ
set_option maxRecDepth 100000 in
set_option maxHeartbeats 4000000 in
theorem jMo_game {X : Cx} {l : Launch} {G : Gx} {y : Ly} {a : Nat} (hL : LyMo y a ) (hX : Ok X l G prog_13_method_130_code 5 (some .int) "SaltFiguresModel") (v1 : Int32) (v2 : Int32) (μ : Mu) : J X G 5 2 y (emy y) rvI tpT 0 [(0, .ref (G.1 + a)), (1, .int v1), (2, .int v2)] [] (μ, y) (Mo_game a v1 v2 μ) := by
  unfold Mo_game
  refine J_aload_n (k0 := 0) (pc := 0) 0 hX (by decide +kernel) rfl rfl ?_
  refine J_iconst (pc := 1) (n := 0) (v := 0) hX (by decide +kernel) (by decide +kernel) ?_
  refine J_pF (pc := 2) hX (by decide +kernel) fl_Mo_131 hL.1 rfl (fun μ1 => ?_)
  refine J_aload_n (k0 := 0) (pc := 5) 0 hX (by decide +kernel) rfl rfl ?_
  refine J_iload_n (k0 := 1) (pc := 6) 1 hX (by decide +kernel) rfl rfl ?_
  refine J_iconst (pc := 7) (n := 1) (v := 1) hX (by decide +kernel) (by decide +kernel) ?_
  refine J_sipush (pc := 8) (n := 300) (v := 300) hX (by decide +kernel) (by decide +kernel) ?_
  refine J_cVi (pc := 11) (idx := 154) [.int v1, .int 1, .int 300] hX (by decide +kernel) (mq mt_6 226 (by decide +kernel)) mv_Mo_isIn hL.1 rfl rfl (Nat.le_of_ble_eq_true rfl) (Nat.le_of_ble_eq_true rfl) (c_Mo_isIn hL v1 1 300 μ1) (fun x3 μ2 => ?_)
  refine J_if_eq (pc := 14) (off := 13) (tgt := 27) hX (by decide +kernel) (by decide +kernel) (fun _ => ?_) (fun _ => ?_)
  · refine J_iconst (pc := 27) (n := -1) (v := (-1)) hX (by decide +kernel) (by decide +kernel) ?_
    exact J_iret (pc := 28) hX (by decide +kernel) rfl trivial
  · refine J_aload_n (k0 := 0) (pc := 17) 0 hX (by decide +kernel) rfl rfl ?_
    refine J_iload_n (k0 := 2) (pc := 18) 2 hX (by decide +kernel) rfl rfl ?_
    refine J_iconst (pc := 19) (n := 0) (v := 0) hX (by decide +kernel) (by decide +kernel) ?_
    refine J_iconst (pc := 20) (n := 2) (v := 2) hX (by decide +kernel) (by decide +kernel) ?_
    refine J_cVi (pc := 21) (idx := 154) [.int v2, .int 0, .int 2] hX (by decide +kernel) (mq mt_6 226 (by decide +kernel)) mv_Mo_isIn hL.1 rfl rfl (Nat.le_of_ble_eq_true rfl) (Nat.le_of_ble_eq_true rfl) (c_Mo_isIn hL v2 0 2 μ2) (fun x5 μ4 => ?_)
    refine J_if_ne (pc := 24) (off := 5) (tgt := 29) hX (by decide +kernel) (by decide +kernel) (fun _ => ?_) (fun _ => ?_)
    · refine J_iconst (pc := 29) (n := 0) (v := 0) hX (by decide +kernel) (by decide +kernel) ?_
      refine J_istore_n (k0 := 3) (pc := 30) [(3, .int 0), (0, .ref (G.1 + a)), (1, .int v1), (2, .int v2)] hX (by decide +kernel) rfl (by decide) rfl ?_
      refine J_iconst (pc := 31) (n := 1) (v := 1) hX (by decide +kernel) (by decide +kernel) ?_
      refine J_istore (pc := 32) [(4, .int 1), (3, .int 0), (0, .ref (G.1 + a)), (1, .int v1), (2, .int v2)] hX (by decide +kernel) (by decide) rfl ?_
      exact J_sub [2, 3, 4, 1, 0] _ rfl (jMo_game_34 hL hX v1 v2 FU 0 1 μ4)
    · refine J_iconst (pc := 27) (n := -1) (v := (-1)) hX (by decide +kernel) (by decide +kernel) ?_
      exact J_iret (pc := 28) hX (by decide +kernel) rfl trivial
set_option maxRecDepth 100000 in
set_option maxHeartbeats 4000000 in
theorem c_Mo_game {l : Launch} {G : Gx} {y : Ly} {a : Nat} (hL : LyMo y a ) (v1 : Int32) (v2 : Int32) (μ : Mu) : Cn l G ⟨"SaltFiguresModel", "game", "(II)I"⟩ prog_13_method_130_code 5 (some .int) 2 [.ref (G.1 + a), .int v1, .int v2] (μ, y) (emy y) rvI tpT (Mo_game a v1 v2 μ) := cn_of (by decide +kernel) (Nat.le_of_ble_eq_true rfl) (fun _ _ _ => ⟨List.prefix_refl _, trivial⟩) (fun X hX _ => jMo_game hL hX v1 v2 μ)

def Mo_thinks_2b (a : Nat)  (kb2 : Int32 → Mu → Option (Unit × Mu))  (v1 : Int32)  (μ : Mu) : Option (Unit × Mu) := (if 118 ≤ v1 then zg 1 (pF μ a 5 1 (fun μ1 => some ((), μ1))) else ldA μ (a + 1) 118 v1 (fun x2 => stA μ (a + 3) 118 v1 x2 (fun μ3 => kb2 (v1 + 1) μ3)))
def Mo_thinks_2 (a : Nat)   (fu : Nat) : Int32 → Mu → Option (Unit × Mu) := lp (fun kb => Mo_thinks_2b a  kb ) (fun _ _ => none) fu
def Mo_thinks (a : Nat)  (μ : Mu) : Option (Unit × Mu) := Mo_thinks_2 a FU 0 μ
set_option maxRecDepth 100000 in
set_option maxHeartbeats 4000000 in
theorem jMo_thinks_2b {X : Cx} {l : Launch} {G : Gx} {y : Ly} {a : Nat} (hL : LyMo y a ) (hX : Ok X l G prog_13_method_12_code 2 none "SaltFiguresModel")   {kb2 : Int32 → Mu → Option (Unit × Mu)}  (hk2 : ∀ (v1 : Int32) (μ : Mu), J X G 2 1 y (emy y) rvV tpT 2 [(0, .ref (G.1 + a)), (1, .int v1)] [] (μ, y) (kb2 v1 μ)) (v1 : Int32)  (μ : Mu) : J X G 2 1 y (emy y) rvV tpT 2 [(0, .ref (G.1 + a)), (1, .int v1)] [] (μ, y) (Mo_thinks_2b a  kb2  v1  μ) := by
  unfold Mo_thinks_2b
  refine J_iload_n (k0 := 1) (pc := 2) 1 hX (by decide +kernel) rfl rfl ?_
  refine J_bipush (pc := 3) (n := 118) (v := 118) hX (by decide +kernel) (by decide +kernel) ?_
  refine J_icmp_ge (pc := 5) (off := 21) (tgt := 26) hX (by decide +kernel) (by decide +kernel) (fun _ => ?_) (fun _ => ?_)
  · refine J_aload_n (k0 := 0) (pc := 26) 0 hX (by decide +kernel) rfl rfl ?_
    refine J_iconst (pc := 27) (n := 1) (v := 1) hX (by decide +kernel) (by decide +kernel) ?_
    refine J_pFz (pc := 28) hX (by decide +kernel) fl_Mo_138 hL.1 rfl (fun μ1 => ?_)
    exact J_vret (pc := 31) hX (by decide +kernel) rfl trivial
  · refine J_aload_n (k0 := 0) (pc := 8) 0 hX (by decide +kernel) rfl rfl ?_
    refine J_gr (pc := 9) hX (by decide +kernel) fl_Mo_16 hL.1 rfl hL.2.2.2.1.1 ?_
    refine J_iload_n (k0 := 1) (pc := 12) 1 hX (by decide +kernel) rfl rfl ?_
    refine J_aload_n (k0 := 0) (pc := 13) 0 hX (by decide +kernel) rfl rfl ?_
    refine J_gr (pc := 14) hX (by decide +kernel) fl_Mo_7 hL.1 rfl hL.2.1.1 ?_
    refine J_iload_n (k0 := 1) (pc := 17) 1 hX (by decide +kernel) rfl rfl ?_
    refine J_ldA (pc := 18) hX (by decide +kernel) hL.2.1.2 (fun x2 => ?_)
    refine J_stA (pc := 19) hX (by decide +kernel) hL.2.2.2.1.2 (fun μ3 => ?_)
    refine J_iinc (pc := 20) (n := 1) 1 [(1, .int (v1 + 1)), (0, .ref (G.1 + a))] hX (by decide +kernel) rfl rfl (by decide) rfl ?_
    refine J_goto (pc := 23) (off := -21) (tgt := 2) hX (by decide +kernel) (by decide +kernel) ?_
    exact J_sub [1, 0] _ rfl (hk2 (v1 + 1) μ3)
set_option maxRecDepth 100000 in
set_option maxHeartbeats 4000000 in
theorem jMo_thinks_2 {X : Cx} {l : Launch} {G : Gx} {y : Ly} {a : Nat} (hL : LyMo y a ) (hX : Ok X l G prog_13_method_12_code 2 none "SaltFiguresModel")    : ∀ (fu : Nat) (v1 : Int32) (μ : Mu), J X G 2 1 y (emy y) rvV tpT 2 [(0, .ref (G.1 + a)), (1, .int v1)] [] (μ, y) (Mo_thinks_2 a   fu v1 μ) := by
  intro fu
  induction fu with
  | zero => intros; exact J_none
  | succ fu ih => intro v1 μ; exact jMo_thinks_2b hL hX   ih v1 μ
set_option maxRecDepth 100000 in
set_option maxHeartbeats 4000000 in
theorem jMo_thinks {X : Cx} {l : Launch} {G : Gx} {y : Ly} {a : Nat} (hL : LyMo y a ) (hX : Ok X l G prog_13_method_12_code 2 none "SaltFiguresModel")  (μ : Mu) : J X G 2 1 y (emy y) rvV tpT 0 [(0, .ref (G.1 + a))] [] (μ, y) (Mo_thinks a  μ) := by
  unfold Mo_thinks
  refine J_iconst (pc := 0) (n := 0) (v := 0) hX (by decide +kernel) (by decide +kernel) ?_
  refine J_istore_n (k0 := 1) (pc := 1) [(1, .int 0), (0, .ref (G.1 + a))] hX (by decide +kernel) rfl (by decide) rfl ?_
  exact J_sub [1, 0] _ rfl (jMo_thinks_2 hL hX FU 0 μ)
set_option maxRecDepth 100000 in
set_option maxHeartbeats 4000000 in
theorem c_Mo_thinks {l : Launch} {G : Gx} {y : Ly} {a : Nat} (hL : LyMo y a )  (μ : Mu) : Cn l G ⟨"SaltFiguresModel", "thinks", "()V"⟩ prog_13_method_12_code 2 none 1 [.ref (G.1 + a)] (μ, y) (emy y) rvV tpT (Mo_thinks a  μ) := cn_of (by decide +kernel) (Nat.le_of_ble_eq_true rfl) (fun _ _ _ => ⟨List.prefix_refl _, trivial⟩) (fun X hX _ => jMo_thinks hL hX  μ)

def Mo_sumOf_4b (a : Nat)  (kb4 : Int32 → Int32 → Mu → Option (Int32 × Mu)) (v1 : Int32) (v2 : Int32) (v3 : Int32)  (μ : Mu) : Option (Int32 × Mu) := gF μ a 6 (fun x1 => (if x1 ≤ v3 then some (v2, μ) else ldA μ (a + 1) 118 (v1 + v3) (fun x2 => kb4 (v2 + x2) (v3 + 1) μ)))
def Mo_sumOf_4 (a : Nat)  (v1 : Int32) (fu : Nat) : Int32 → Int32 → Mu → Option (Int32 × Mu) := lp (fun kb => Mo_sumOf_4b a  kb v1) (fun _ _ _ => none) fu
def Mo_sumOf (a : Nat) (v1 : Int32) (μ : Mu) : Option (Int32 × Mu) := Mo_sumOf_4 a v1 FU 0 0 μ
set_option maxRecDepth 100000 in
set_option maxHeartbeats 4000000 in
theorem jMo_sumOf_4b {X : Cx} {l : Launch} {G : Gx} {y : Ly} {a : Nat} (hL : LyMo y a ) (hX : Ok X l G prog_13_method_87_code 4 (some .int) "SaltFiguresModel") (v1 : Int32)  {kb4 : Int32 → Int32 → Mu → Option (Int32 × Mu)}  (hk4 : ∀ (v2 : Int32) (v3 : Int32) (μ : Mu), J X G 4 1 y (emy y) rvI tpT 4 [(0, .ref (G.1 + a)), (1, .int v1), (2, .int v2), (3, .int v3)] [] (μ, y) (kb4 v2 v3 μ)) (v2 : Int32) (v3 : Int32)  (μ : Mu) : J X G 4 1 y (emy y) rvI tpT 4 [(0, .ref (G.1 + a)), (1, .int v1), (2, .int v2), (3, .int v3)] [] (μ, y) (Mo_sumOf_4b a  kb4 v1 v2 v3  μ) := by
  unfold Mo_sumOf_4b
  refine J_iload_n (k0 := 3) (pc := 4) 3 hX (by decide +kernel) rfl rfl ?_
  refine J_aload_n (k0 := 0) (pc := 5) 0 hX (by decide +kernel) rfl rfl ?_
  refine J_gF (pc := 6) hX (by decide +kernel) fl_Mo_144 hL.1 rfl (fun x1 => ?_)
  refine J_icmp_ge (pc := 9) (off := 20) (tgt := 29) hX (by decide +kernel) (by decide +kernel) (fun _ => ?_) (fun _ => ?_)
  · refine J_iload_n (k0 := 2) (pc := 29) 2 hX (by decide +kernel) rfl rfl ?_
    exact J_iret (pc := 30) hX (by decide +kernel) rfl trivial
  · refine J_iload_n (k0 := 2) (pc := 12) 2 hX (by decide +kernel) rfl rfl ?_
    refine J_aload_n (k0 := 0) (pc := 13) 0 hX (by decide +kernel) rfl rfl ?_
    refine J_gr (pc := 14) hX (by decide +kernel) fl_Mo_7 hL.1 rfl hL.2.1.1 ?_
    refine J_iload_n (k0 := 1) (pc := 17) 1 hX (by decide +kernel) rfl rfl ?_
    refine J_iload_n (k0 := 3) (pc := 18) 3 hX (by decide +kernel) rfl rfl ?_
    refine J_iadd (pc := 19) hX (by decide +kernel) ?_
    refine J_ldA (pc := 20) hX (by decide +kernel) hL.2.1.2 (fun x2 => ?_)
    refine J_iadd (pc := 21) hX (by decide +kernel) ?_
    refine J_istore_n (k0 := 2) (pc := 22) [(2, .int (v2 + x2)), (0, .ref (G.1 + a)), (1, .int v1), (3, .int v3)] hX (by decide +kernel) rfl (by decide) rfl ?_
    refine J_iinc (pc := 23) (n := 1) 3 [(3, .int (v3 + 1)), (2, .int (v2 + x2)), (0, .ref (G.1 + a)), (1, .int v1)] hX (by decide +kernel) rfl rfl (by decide) rfl ?_
    refine J_goto (pc := 26) (off := -22) (tgt := 4) hX (by decide +kernel) (by decide +kernel) ?_
    exact J_sub [2, 3, 1, 0] _ rfl (hk4 (v2 + x2) (v3 + 1) μ)
set_option maxRecDepth 100000 in
set_option maxHeartbeats 4000000 in
theorem jMo_sumOf_4 {X : Cx} {l : Launch} {G : Gx} {y : Ly} {a : Nat} (hL : LyMo y a ) (hX : Ok X l G prog_13_method_87_code 4 (some .int) "SaltFiguresModel") (v1 : Int32)   : ∀ (fu : Nat) (v2 : Int32) (v3 : Int32) (μ : Mu), J X G 4 1 y (emy y) rvI tpT 4 [(0, .ref (G.1 + a)), (1, .int v1), (2, .int v2), (3, .int v3)] [] (μ, y) (Mo_sumOf_4 a  v1 fu v2 v3 μ) := by
  intro fu
  induction fu with
  | zero => intros; exact J_none
  | succ fu ih => intro v2 v3 μ; exact jMo_sumOf_4b hL hX v1  ih v2 v3 μ
set_option maxRecDepth 100000 in
set_option maxHeartbeats 4000000 in
theorem jMo_sumOf {X : Cx} {l : Launch} {G : Gx} {y : Ly} {a : Nat} (hL : LyMo y a ) (hX : Ok X l G prog_13_method_87_code 4 (some .int) "SaltFiguresModel") (v1 : Int32) (μ : Mu) : J X G 4 1 y (emy y) rvI tpT 0 [(0, .ref (G.1 + a)), (1, .int v1)] [] (μ, y) (Mo_sumOf a v1 μ) := by
  unfold Mo_sumOf
  refine J_iconst (pc := 0) (n := 0) (v := 0) hX (by decide +kernel) (by decide +kernel) ?_
  refine J_istore_n (k0 := 2) (pc := 1) [(2, .int 0), (0, .ref (G.1 + a)), (1, .int v1)] hX (by decide +kernel) rfl (by decide) rfl ?_
  refine J_iconst (pc := 2) (n := 0) (v := 0) hX (by decide +kernel) (by decide +kernel) ?_
  refine J_istore_n (k0 := 3) (pc := 3) [(3, .int 0), (2, .int 0), (0, .ref (G.1 + a)), (1, .int v1)] hX (by decide +kernel) rfl (by decide) rfl ?_
  exact J_sub [2, 3, 1, 0] _ rfl (jMo_sumOf_4 hL hX v1 FU 0 0 μ)
set_option maxRecDepth 100000 in
set_option maxHeartbeats 4000000 in
theorem c_Mo_sumOf {l : Launch} {G : Gx} {y : Ly} {a : Nat} (hL : LyMo y a ) (v1 : Int32) (μ : Mu) : Cn l G ⟨"SaltFiguresModel", "sumOf", "(I)I"⟩ prog_13_method_87_code 4 (some .int) 1 [.ref (G.1 + a), .int v1] (μ, y) (emy y) rvI tpT (Mo_sumOf a v1 μ) := cn_of (by decide +kernel) (Nat.le_of_ble_eq_true rfl) (fun _ _ _ => ⟨List.prefix_refl _, trivial⟩) (fun X hX _ => jMo_sumOf hL hX v1 μ)

def Mo_goes_97 (a : Nat)    (s0 : Int32) (μ : Mu) : Option (Int32 × Mu) := cl (Mo_endsThought a μ) (fun _ μ1 => some (s0, μ1))
def Mo_goes_34b (a : Nat)  (kb34 : Int32 → Mu → Option (Int32 × Mu)) (v1 : Int32) (v2 : Int32) (v3 : Int32)  (μ : Mu) : Option (Int32 × Mu) := (if v1 ≤ v3 then (if v2 = 0 then cl (Mo_sumOf a 22 μ) (fun x7 μ6 => Mo_goes_97 a x7 μ6) else (if v2 = 1 then ldA μ (a + 1) 118 4 (fun x5 => Mo_goes_97 a x5 μ) else (if v2 = 2 then cl (Mo_sumOf a 38 μ) (fun x4 μ3 => Mo_goes_97 a x4 μ3) else cl (Mo_sumOf a 70 μ) (fun x2 μ1 => Mo_goes_97 a x2 μ1)))) else cl (Mo_goesBy a μ) (fun x9 μ8 => kb34 (v3 + 1) μ8))
def Mo_goes_34 (a : Nat)  (v1 : Int32) (v2 : Int32) (fu : Nat) : Int32 → Mu → Option (Int32 × Mu) := lp (fun kb => Mo_goes_34b a  kb v1 v2) (fun _ _ => none) fu
def Mo_goes (a : Nat) (v1 : Int32) (v2 : Int32) (μ : Mu) : Option (Int32 × Mu) := pF μ a 0 0 (fun μ1 => cl (Mo_isIn a v1 1 60 μ1) (fun x3 μ2 => (if x3 = 0 then some ((-1), μ2) else cl (Mo_isIn a v2 0 3 μ2) (fun x5 μ4 => (if x5 = 0 then some ((-1), μ4) else cl (Mo_thinks a μ4) (fun _ μ6 => Mo_goes_34 a v1 v2 FU 0 μ6))))))
set_option maxRecDepth 100000 in
set_option maxHeartbeats 4000000 in
theorem jMo_goes_97 {X : Cx} {l : Launch} {G : Gx} {y : Ly} {a : Nat} (hL : LyMo y a ) (hX : Ok X l G prog_13_method_88_code 4 (some .int) "SaltFiguresModel")   (s0 : Int32)   (μ : Mu) : J X G 4 10 y (emy y) rvI tpT 97 [(0, .ref (G.1 + a))] [.int s0] (μ, y) (Mo_goes_97 a    s0 μ) := by
  unfold Mo_goes_97
  refine J_istore_n (k0 := 3) (pc := 97) [(3, .int s0), (0, .ref (G.1 + a))] hX (by decide +kernel) rfl (by decide) rfl ?_
  refine J_aload_n (k0 := 0) (pc := 98) 1 hX (by decide +kernel) rfl rfl ?_
  refine J_cVv (pc := 99) (idx := 406) [] hX (by decide +kernel) (mq mt_8 60 (by decide +kernel)) mv_Mo_endsThought hL.1 rfl rfl (Nat.le_of_ble_eq_true rfl) (Nat.le_of_ble_eq_true rfl) (c_Mo_endsThought hL μ) (fun μ1 => ?_)
  refine J_iload_n (k0 := 3) (pc := 102) 0 hX (by decide +kernel) rfl rfl ?_
  exact J_iret (pc := 103) hX (by decide +kernel) rfl trivial
set_option maxRecDepth 100000 in
set_option maxHeartbeats 4000000 in
theorem jMo_goes_34b {X : Cx} {l : Launch} {G : Gx} {y : Ly} {a : Nat} (hL : LyMo y a ) (hX : Ok X l G prog_13_method_88_code 4 (some .int) "SaltFiguresModel") (v1 : Int32) (v2 : Int32)  {kb34 : Int32 → Mu → Option (Int32 × Mu)}  (hk34 : ∀ (v3 : Int32) (μ : Mu), J X G 4 10 y (emy y) rvI tpT 34 [(0, .ref (G.1 + a)), (1, .int v1), (2, .int v2), (3, .int v3)] [] (μ, y) (kb34 v3 μ)) (v3 : Int32)  (μ : Mu) : J X G 4 10 y (emy y) rvI tpT 34 [(0, .ref (G.1 + a)), (1, .int v1), (2, .int v2), (3, .int v3)] [] (μ, y) (Mo_goes_34b a  kb34 v1 v2 v3  μ) := by
  unfold Mo_goes_34b
  refine J_iload_n (k0 := 3) (pc := 34) 3 hX (by decide +kernel) rfl rfl ?_
  refine J_iload_n (k0 := 1) (pc := 35) 1 hX (by decide +kernel) rfl rfl ?_
  refine J_icmp_ge (pc := 36) (off := 14) (tgt := 50) hX (by decide +kernel) (by decide +kernel) (fun _ => ?_) (fun _ => ?_)
  · refine J_iload_n (k0 := 2) (pc := 50) 2 hX (by decide +kernel) rfl rfl ?_
    refine J_if_ne (pc := 51) (off := 12) (tgt := 63) hX (by decide +kernel) (by decide +kernel) (fun _ => ?_) (fun _ => ?_)
    · refine J_iload_n (k0 := 2) (pc := 63) 2 hX (by decide +kernel) rfl rfl ?_
      refine J_iconst (pc := 64) (n := 1) (v := 1) hX (by decide +kernel) (by decide +kernel) ?_
      refine J_icmp_ne (pc := 65) (off := 12) (tgt := 77) hX (by decide +kernel) (by decide +kernel) (fun _ => ?_) (fun _ => ?_)
      · refine J_iload_n (k0 := 2) (pc := 77) 2 hX (by decide +kernel) rfl rfl ?_
        refine J_iconst (pc := 78) (n := 2) (v := 2) hX (by decide +kernel) (by decide +kernel) ?_
        refine J_icmp_ne (pc := 79) (off := 12) (tgt := 91) hX (by decide +kernel) (by decide +kernel) (fun _ => ?_) (fun _ => ?_)
        · refine J_aload_n (k0 := 0) (pc := 91) 0 hX (by decide +kernel) rfl rfl ?_
          refine J_bipush (pc := 92) (n := 70) (v := 70) hX (by decide +kernel) (by decide +kernel) ?_
          refine J_cVi (pc := 94) (idx := 403) [.int 70] hX (by decide +kernel) (mq mt_8 56 (by decide +kernel)) mv_Mo_sumOf hL.1 rfl rfl (Nat.le_of_ble_eq_true rfl) (Nat.le_of_ble_eq_true rfl) (c_Mo_sumOf hL 70 μ) (fun x2 μ1 => ?_)
          exact J_sub [0] _ rfl (jMo_goes_97 hL hX x2 μ1)
        · refine J_aload_n (k0 := 0) (pc := 82) 0 hX (by decide +kernel) rfl rfl ?_
          refine J_bipush (pc := 83) (n := 38) (v := 38) hX (by decide +kernel) (by decide +kernel) ?_
          refine J_cVi (pc := 85) (idx := 403) [.int 38] hX (by decide +kernel) (mq mt_8 56 (by decide +kernel)) mv_Mo_sumOf hL.1 rfl rfl (Nat.le_of_ble_eq_true rfl) (Nat.le_of_ble_eq_true rfl) (c_Mo_sumOf hL 38 μ) (fun x4 μ3 => ?_)
          refine J_goto (pc := 88) (off := 9) (tgt := 97) hX (by decide +kernel) (by decide +kernel) ?_
          exact J_sub [0] _ rfl (jMo_goes_97 hL hX x4 μ3)
      · refine J_aload_n (k0 := 0) (pc := 68) 0 hX (by decide +kernel) rfl rfl ?_
        refine J_gr (pc := 69) hX (by decide +kernel) fl_Mo_7 hL.1 rfl hL.2.1.1 ?_
        refine J_iconst (pc := 72) (n := 4) (v := 4) hX (by decide +kernel) (by decide +kernel) ?_
        refine J_ldA (pc := 73) hX (by decide +kernel) hL.2.1.2 (fun x5 => ?_)
        refine J_goto (pc := 74) (off := 23) (tgt := 97) hX (by decide +kernel) (by decide +kernel) ?_
        exact J_sub [0] _ rfl (jMo_goes_97 hL hX x5 μ)
    · refine J_aload_n (k0 := 0) (pc := 54) 0 hX (by decide +kernel) rfl rfl ?_
      refine J_bipush (pc := 55) (n := 22) (v := 22) hX (by decide +kernel) (by decide +kernel) ?_
      refine J_cVi (pc := 57) (idx := 403) [.int 22] hX (by decide +kernel) (mq mt_8 56 (by decide +kernel)) mv_Mo_sumOf hL.1 rfl rfl (Nat.le_of_ble_eq_true rfl) (Nat.le_of_ble_eq_true rfl) (c_Mo_sumOf hL 22 μ) (fun x7 μ6 => ?_)
      refine J_goto (pc := 60) (off := 37) (tgt := 97) hX (by decide +kernel) (by decide +kernel) ?_
      exact J_sub [0] _ rfl (jMo_goes_97 hL hX x7 μ6)
  · refine J_aload_n (k0 := 0) (pc := 39) 0 hX (by decide +kernel) rfl rfl ?_
    refine J_cVi (pc := 40) (idx := 397) [] hX (by decide +kernel) (mq mt_7 238 (by decide +kernel)) mv_Mo_goesBy hL.1 rfl rfl (Nat.le_of_ble_eq_true rfl) (Nat.le_of_ble_eq_true rfl) (c_Mo_goesBy hL μ) (fun x9 μ8 => ?_)
    refine J_pop (pc := 43) hX (by decide +kernel) rfl ?_
    refine J_iinc (pc := 44) (n := 1) 3 [(3, .int (v3 + 1)), (0, .ref (G.1 + a)), (1, .int v1), (2, .int v2)] hX (by decide +kernel) rfl rfl (by decide) rfl ?_
    refine J_goto (pc := 47) (off := -13) (tgt := 34) hX (by decide +kernel) (by decide +kernel) ?_
    exact J_sub [1, 2, 3, 0] _ rfl (hk34 (v3 + 1) μ8)
set_option maxRecDepth 100000 in
set_option maxHeartbeats 4000000 in
theorem jMo_goes_34 {X : Cx} {l : Launch} {G : Gx} {y : Ly} {a : Nat} (hL : LyMo y a ) (hX : Ok X l G prog_13_method_88_code 4 (some .int) "SaltFiguresModel") (v1 : Int32) (v2 : Int32)   : ∀ (fu : Nat) (v3 : Int32) (μ : Mu), J X G 4 10 y (emy y) rvI tpT 34 [(0, .ref (G.1 + a)), (1, .int v1), (2, .int v2), (3, .int v3)] [] (μ, y) (Mo_goes_34 a  v1 v2 fu v3 μ) := by
  intro fu
  induction fu with
  | zero => intros; exact J_none
  | succ fu ih => intro v3 μ; exact jMo_goes_34b hL hX v1 v2  ih v3 μ
set_option maxRecDepth 100000 in
set_option maxHeartbeats 4000000 in
theorem jMo_goes {X : Cx} {l : Launch} {G : Gx} {y : Ly} {a : Nat} (hL : LyMo y a ) (hX : Ok X l G prog_13_method_88_code 4 (some .int) "SaltFiguresModel") (v1 : Int32) (v2 : Int32) (μ : Mu) : J X G 4 10 y (emy y) rvI tpT 0 [(0, .ref (G.1 + a)), (1, .int v1), (2, .int v2)] [] (μ, y) (Mo_goes a v1 v2 μ) := by
  unfold Mo_goes
  refine J_aload_n (k0 := 0) (pc := 0) 0 hX (by decide +kernel) rfl rfl ?_
  refine J_iconst (pc := 1) (n := 0) (v := 0) hX (by decide +kernel) (by decide +kernel) ?_
  refine J_pF (pc := 2) hX (by decide +kernel) fl_Mo_131 hL.1 rfl (fun μ1 => ?_)
  refine J_aload_n (k0 := 0) (pc := 5) 0 hX (by decide +kernel) rfl rfl ?_
  refine J_iload_n (k0 := 1) (pc := 6) 1 hX (by decide +kernel) rfl rfl ?_
  refine J_iconst (pc := 7) (n := 1) (v := 1) hX (by decide +kernel) (by decide +kernel) ?_
  refine J_bipush (pc := 8) (n := 60) (v := 60) hX (by decide +kernel) (by decide +kernel) ?_
  refine J_cVi (pc := 10) (idx := 154) [.int v1, .int 1, .int 60] hX (by decide +kernel) (mq mt_6 226 (by decide +kernel)) mv_Mo_isIn hL.1 rfl rfl (Nat.le_of_ble_eq_true rfl) (Nat.le_of_ble_eq_true rfl) (c_Mo_isIn hL v1 1 60 μ1) (fun x3 μ2 => ?_)
  refine J_if_eq (pc := 13) (off := 13) (tgt := 26) hX (by decide +kernel) (by decide +kernel) (fun _ => ?_) (fun _ => ?_)
  · refine J_iconst (pc := 26) (n := -1) (v := (-1)) hX (by decide +kernel) (by decide +kernel) ?_
    exact J_iret (pc := 27) hX (by decide +kernel) rfl trivial
  · refine J_aload_n (k0 := 0) (pc := 16) 0 hX (by decide +kernel) rfl rfl ?_
    refine J_iload_n (k0 := 2) (pc := 17) 2 hX (by decide +kernel) rfl rfl ?_
    refine J_iconst (pc := 18) (n := 0) (v := 0) hX (by decide +kernel) (by decide +kernel) ?_
    refine J_iconst (pc := 19) (n := 3) (v := 3) hX (by decide +kernel) (by decide +kernel) ?_
    refine J_cVi (pc := 20) (idx := 154) [.int v2, .int 0, .int 3] hX (by decide +kernel) (mq mt_6 226 (by decide +kernel)) mv_Mo_isIn hL.1 rfl rfl (Nat.le_of_ble_eq_true rfl) (Nat.le_of_ble_eq_true rfl) (c_Mo_isIn hL v2 0 3 μ2) (fun x5 μ4 => ?_)
    refine J_if_ne (pc := 23) (off := 5) (tgt := 28) hX (by decide +kernel) (by decide +kernel) (fun _ => ?_) (fun _ => ?_)
    · refine J_aload_n (k0 := 0) (pc := 28) 0 hX (by decide +kernel) rfl rfl ?_
      refine J_cVv (pc := 29) (idx := 400) [] hX (by decide +kernel) (mq mt_8 52 (by decide +kernel)) mv_Mo_thinks hL.1 rfl rfl (Nat.le_of_ble_eq_true rfl) (Nat.le_of_ble_eq_true rfl) (c_Mo_thinks hL μ4) (fun μ6 => ?_)
      refine J_iconst (pc := 32) (n := 0) (v := 0) hX (by decide +kernel) (by decide +kernel) ?_
      refine J_istore_n (k0 := 3) (pc := 33) [(3, .int 0), (0, .ref (G.1 + a)), (1, .int v1), (2, .int v2)] hX (by decide +kernel) rfl (by decide) rfl ?_
      exact J_sub [1, 2, 3, 0] _ rfl (jMo_goes_34 hL hX v1 v2 FU 0 μ6)
    · refine J_iconst (pc := 26) (n := -1) (v := (-1)) hX (by decide +kernel) (by decide +kernel) ?_
      exact J_iret (pc := 27) hX (by decide +kernel) rfl trivial
set_option maxRecDepth 100000 in
set_option maxHeartbeats 4000000 in
theorem c_Mo_goes {l : Launch} {G : Gx} {y : Ly} {a : Nat} (hL : LyMo y a ) (v1 : Int32) (v2 : Int32) (μ : Mu) : Cn l G ⟨"SaltFiguresModel", "goes", "(II)I"⟩ prog_13_method_88_code 4 (some .int) 10 [.ref (G.1 + a), .int v1, .int v2] (μ, y) (emy y) rvI tpT (Mo_goes a v1 v2 μ) := cn_of (by decide +kernel) (Nat.le_of_ble_eq_true rfl) (fun _ _ _ => ⟨List.prefix_refl _, trivial⟩) (fun X hX _ => jMo_goes hL hX v1 v2 μ)

def Mo_heap (a : Nat) (v1 : Int32) (μ : Mu) : Option (Int32 × Mu) := pF μ a 0 0 (fun μ1 => (if v1 = ((-1)) then pF μ1 a 61 0 (fun μ10 => some (0, μ10)) else cl (Mo_isIn a v1 0 99 μ1) (fun x3 μ2 => (if x3 = 0 then some ((-1), μ2) else gF μ2 a 61 (fun x4 => (if x4 = 8 then some ((-1), μ2) else gF μ2 a 61 (fun x5 => stA μ2 (a + 36) 8 x5 v1 (fun μ6 => gF μ6 a 61 (fun x7 => pF μ6 a 61 (x7 + 1) (fun μ8 => gF μ8 a 61 (fun x9 => some (x9, μ8))))))))))))
set_option maxRecDepth 100000 in
set_option maxHeartbeats 4000000 in
theorem jMo_heap {X : Cx} {l : Launch} {G : Gx} {y : Ly} {a : Nat} (hL : LyMo y a ) (hX : Ok X l G prog_13_method_126_code 2 (some .int) "SaltFiguresModel") (v1 : Int32) (μ : Mu) : J X G 2 2 y (emy y) rvI tpT 0 [(0, .ref (G.1 + a)), (1, .int v1)] [] (μ, y) (Mo_heap a v1 μ) := by
  unfold Mo_heap
  refine J_aload_n (k0 := 0) (pc := 0) 0 hX (by decide +kernel) rfl rfl ?_
  refine J_iconst (pc := 1) (n := 0) (v := 0) hX (by decide +kernel) (by decide +kernel) ?_
  refine J_pF (pc := 2) hX (by decide +kernel) fl_Mo_131 hL.1 rfl (fun μ1 => ?_)
  refine J_iload_n (k0 := 1) (pc := 5) 1 hX (by decide +kernel) rfl rfl ?_
  refine J_iconst (pc := 6) (n := -1) (v := (-1)) hX (by decide +kernel) (by decide +kernel) ?_
  refine J_icmp_ne (pc := 7) (off := 10) (tgt := 17) hX (by decide +kernel) (by decide +kernel) (fun _ => ?_) (fun _ => ?_)
  · refine J_aload_n (k0 := 0) (pc := 17) 0 hX (by decide +kernel) rfl rfl ?_
    refine J_iload_n (k0 := 1) (pc := 18) 1 hX (by decide +kernel) rfl rfl ?_
    refine J_iconst (pc := 19) (n := 0) (v := 0) hX (by decide +kernel) (by decide +kernel) ?_
    refine J_bipush (pc := 20) (n := 99) (v := 99) hX (by decide +kernel) (by decide +kernel) ?_
    refine J_cVi (pc := 22) (idx := 154) [.int v1, .int 0, .int 99] hX (by decide +kernel) (mq mt_6 226 (by decide +kernel)) mv_Mo_isIn hL.1 rfl rfl (Nat.le_of_ble_eq_true rfl) (Nat.le_of_ble_eq_true rfl) (c_Mo_isIn hL v1 0 99 μ1) (fun x3 μ2 => ?_)
    refine J_if_eq (pc := 25) (off := 12) (tgt := 37) hX (by decide +kernel) (by decide +kernel) (fun _ => ?_) (fun _ => ?_)
    · refine J_iconst (pc := 37) (n := -1) (v := (-1)) hX (by decide +kernel) (by decide +kernel) ?_
      exact J_iret (pc := 38) hX (by decide +kernel) rfl trivial
    · refine J_aload_n (k0 := 0) (pc := 28) 0 hX (by decide +kernel) rfl rfl ?_
      refine J_gF (pc := 29) hX (by decide +kernel) fl_Mo_483 hL.1 rfl (fun x4 => ?_)
      refine J_bipush (pc := 32) (n := 8) (v := 8) hX (by decide +kernel) (by decide +kernel) ?_
      refine J_icmp_ne (pc := 34) (off := 5) (tgt := 39) hX (by decide +kernel) (by decide +kernel) (fun _ => ?_) (fun _ => ?_)
      · refine J_aload_n (k0 := 0) (pc := 39) 0 hX (by decide +kernel) rfl rfl ?_
        refine J_gr (pc := 40) hX (by decide +kernel) fl_Mo_119 hL.1 rfl hL.2.2.2.2.2.2.2.2.2.2.2.2.2.2.2.2.2.2.2.2.2.2.2.2.2.2.2.2.2.2.2.2.2.2.2.2.1.1 ?_
        refine J_aload_n (k0 := 0) (pc := 43) 0 hX (by decide +kernel) rfl rfl ?_
        refine J_gF (pc := 44) hX (by decide +kernel) fl_Mo_483 hL.1 rfl (fun x5 => ?_)
        refine J_iload_n (k0 := 1) (pc := 47) 1 hX (by decide +kernel) rfl rfl ?_
        refine J_stA (pc := 48) hX (by decide +kernel) hL.2.2.2.2.2.2.2.2.2.2.2.2.2.2.2.2.2.2.2.2.2.2.2.2.2.2.2.2.2.2.2.2.2.2.2.2.1.2 (fun μ6 => ?_)
        refine J_aload_n (k0 := 0) (pc := 49) 0 hX (by decide +kernel) rfl rfl ?_
        refine J_aload_n (k0 := 0) (pc := 50) 0 hX (by decide +kernel) rfl rfl ?_
        refine J_gF (pc := 51) hX (by decide +kernel) fl_Mo_483 hL.1 rfl (fun x7 => ?_)
        refine J_iconst (pc := 54) (n := 1) (v := 1) hX (by decide +kernel) (by decide +kernel) ?_
        refine J_iadd (pc := 55) hX (by decide +kernel) ?_
        refine J_pF (pc := 56) hX (by decide +kernel) fl_Mo_483 hL.1 rfl (fun μ8 => ?_)
        refine J_aload_n (k0 := 0) (pc := 59) 0 hX (by decide +kernel) rfl rfl ?_
        refine J_gF (pc := 60) hX (by decide +kernel) fl_Mo_483 hL.1 rfl (fun x9 => ?_)
        exact J_iret (pc := 63) hX (by decide +kernel) rfl trivial
      · refine J_iconst (pc := 37) (n := -1) (v := (-1)) hX (by decide +kernel) (by decide +kernel) ?_
        exact J_iret (pc := 38) hX (by decide +kernel) rfl trivial
  · refine J_aload_n (k0 := 0) (pc := 10) 0 hX (by decide +kernel) rfl rfl ?_
    refine J_iconst (pc := 11) (n := 0) (v := 0) hX (by decide +kernel) (by decide +kernel) ?_
    refine J_pF (pc := 12) hX (by decide +kernel) fl_Mo_483 hL.1 rfl (fun μ10 => ?_)
    refine J_iconst (pc := 15) (n := 0) (v := 0) hX (by decide +kernel) (by decide +kernel) ?_
    exact J_iret (pc := 16) hX (by decide +kernel) rfl trivial
set_option maxRecDepth 100000 in
set_option maxHeartbeats 4000000 in
theorem c_Mo_heap {l : Launch} {G : Gx} {y : Ly} {a : Nat} (hL : LyMo y a ) (v1 : Int32) (μ : Mu) : Cn l G ⟨"SaltFiguresModel", "heap", "(I)I"⟩ prog_13_method_126_code 2 (some .int) 2 [.ref (G.1 + a), .int v1] (μ, y) (emy y) rvI tpT (Mo_heap a v1 μ) := cn_of (by decide +kernel) (Nat.le_of_ble_eq_true rfl) (fun _ _ _ => ⟨List.prefix_refl _, trivial⟩) (fun X hX _ => jMo_heap hL hX v1 μ)

def Mo_steepPlace_33 (a : Nat) (kb7 : Int32 → Mu → Option (Int32 × Mu))  (v1 : Int32) (s0 : Int32) (s1 : Int32) (μ : Mu) : Option (Int32 × Mu) := (if (s1 - s0) < 3 then kb7 (v1 + (-1)) μ else some (v1, μ))
def Mo_steepPlace_7b (a : Nat)  (kb7 : Int32 → Mu → Option (Int32 × Mu))  (v1 : Int32)  (μ : Mu) : Option (Int32 × Mu) := (if v1 < 0 then some ((-1), μ) else ldA μ (a + 37) 8 v1 (fun x1 => (if v1 = 0 then Mo_steepPlace_33 a kb7 v1 0 x1 μ else ldA μ (a + 37) 8 (v1 - 1) (fun x2 => Mo_steepPlace_33 a kb7 v1 x2 x1 μ))))
def Mo_steepPlace_7 (a : Nat)   (fu : Nat) : Int32 → Mu → Option (Int32 × Mu) := lp (fun kb => Mo_steepPlace_7b a  kb ) (fun _ _ => none) fu
def Mo_steepPlace (a : Nat)  (μ : Mu) : Option (Int32 × Mu) := gF μ a 61 (fun x1 => Mo_steepPlace_7 a FU (x1 - 1) μ)
set_option maxRecDepth 100000 in
set_option maxHeartbeats 4000000 in
theorem jMo_steepPlace_33 {X : Cx} {l : Launch} {G : Gx} {y : Ly} {a : Nat} (hL : LyMo y a ) (hX : Ok X l G prog_13_method_127_code 2 (some .int) "SaltFiguresModel")  (v1 : Int32) (s0 : Int32) (s1 : Int32) {kb7 : Int32 → Mu → Option (Int32 × Mu)} (hk7 : ∀ (v1 : Int32) (μ : Mu), J X G 2 1 y (emy y) rvI tpT 7 [(0, .ref (G.1 + a)), (1, .int v1)] [] (μ, y) (kb7 v1 μ)) (μ : Mu) : J X G 2 1 y (emy y) rvI tpT 33 [(0, .ref (G.1 + a)), (1, .int v1)] [.int s0, .int s1] (μ, y) (Mo_steepPlace_33 a kb7  v1 s0 s1 μ) := by
  unfold Mo_steepPlace_33
  refine J_isub (pc := 33) hX (by decide +kernel) ?_
  refine J_iconst (pc := 34) (n := 3) (v := 3) hX (by decide +kernel) (by decide +kernel) ?_
  refine J_icmp_lt (pc := 35) (off := 5) (tgt := 40) hX (by decide +kernel) (by decide +kernel) (fun _ => ?_) (fun _ => ?_)
  · refine J_iinc (pc := 40) (n := -1) 1 [(1, .int (v1 + (-1))), (0, .ref (G.1 + a))] hX (by decide +kernel) rfl rfl (by decide) rfl ?_
    refine J_goto (pc := 43) (off := -36) (tgt := 7) hX (by decide +kernel) (by decide +kernel) ?_
    exact J_sub [1, 0] _ rfl (hk7 (v1 + (-1)) μ)
  · refine J_iload_n (k0 := 1) (pc := 38) 1 hX (by decide +kernel) rfl rfl ?_
    exact J_iret (pc := 39) hX (by decide +kernel) rfl trivial
set_option maxRecDepth 100000 in
set_option maxHeartbeats 4000000 in
theorem jMo_steepPlace_7b {X : Cx} {l : Launch} {G : Gx} {y : Ly} {a : Nat} (hL : LyMo y a ) (hX : Ok X l G prog_13_method_127_code 2 (some .int) "SaltFiguresModel")   {kb7 : Int32 → Mu → Option (Int32 × Mu)}  (hk7 : ∀ (v1 : Int32) (μ : Mu), J X G 2 1 y (emy y) rvI tpT 7 [(0, .ref (G.1 + a)), (1, .int v1)] [] (μ, y) (kb7 v1 μ)) (v1 : Int32)  (μ : Mu) : J X G 2 1 y (emy y) rvI tpT 7 [(0, .ref (G.1 + a)), (1, .int v1)] [] (μ, y) (Mo_steepPlace_7b a  kb7  v1  μ) := by
  unfold Mo_steepPlace_7b
  refine J_iload_n (k0 := 1) (pc := 7) 1 hX (by decide +kernel) rfl rfl ?_
  refine J_if_lt (pc := 8) (off := 38) (tgt := 46) hX (by decide +kernel) (by decide +kernel) (fun _ => ?_) (fun _ => ?_)
  · refine J_iconst (pc := 46) (n := -1) (v := (-1)) hX (by decide +kernel) (by decide +kernel) ?_
    exact J_iret (pc := 47) hX (by decide +kernel) rfl trivial
  · refine J_aload_n (k0 := 0) (pc := 11) 0 hX (by decide +kernel) rfl rfl ?_
    refine J_gr (pc := 12) hX (by decide +kernel) fl_Mo_122 hL.1 rfl hL.2.2.2.2.2.2.2.2.2.2.2.2.2.2.2.2.2.2.2.2.2.2.2.2.2.2.2.2.2.2.2.2.2.2.2.2.2.1.1 ?_
    refine J_iload_n (k0 := 1) (pc := 15) 1 hX (by decide +kernel) rfl rfl ?_
    refine J_ldA (pc := 16) hX (by decide +kernel) hL.2.2.2.2.2.2.2.2.2.2.2.2.2.2.2.2.2.2.2.2.2.2.2.2.2.2.2.2.2.2.2.2.2.2.2.2.2.1.2 (fun x1 => ?_)
    refine J_iload_n (k0 := 1) (pc := 17) 1 hX (by decide +kernel) rfl rfl ?_
    refine J_if_ne (pc := 18) (off := 7) (tgt := 25) hX (by decide +kernel) (by decide +kernel) (fun _ => ?_) (fun _ => ?_)
    · refine J_aload_n (k0 := 0) (pc := 25) 0 hX (by decide +kernel) rfl rfl ?_
      refine J_gr (pc := 26) hX (by decide +kernel) fl_Mo_122 hL.1 rfl hL.2.2.2.2.2.2.2.2.2.2.2.2.2.2.2.2.2.2.2.2.2.2.2.2.2.2.2.2.2.2.2.2.2.2.2.2.2.1.1 ?_
      refine J_iload_n (k0 := 1) (pc := 29) 1 hX (by decide +kernel) rfl rfl ?_
      refine J_iconst (pc := 30) (n := 1) (v := 1) hX (by decide +kernel) (by decide +kernel) ?_
      refine J_isub (pc := 31) hX (by decide +kernel) ?_
      refine J_ldA (pc := 32) hX (by decide +kernel) hL.2.2.2.2.2.2.2.2.2.2.2.2.2.2.2.2.2.2.2.2.2.2.2.2.2.2.2.2.2.2.2.2.2.2.2.2.2.1.2 (fun x2 => ?_)
      exact J_sub [0, 1] _ rfl (jMo_steepPlace_33 hL hX v1 x2 x1 hk7 μ)
    · refine J_iconst (pc := 21) (n := 0) (v := 0) hX (by decide +kernel) (by decide +kernel) ?_
      refine J_goto (pc := 22) (off := 11) (tgt := 33) hX (by decide +kernel) (by decide +kernel) ?_
      exact J_sub [0, 1] _ rfl (jMo_steepPlace_33 hL hX v1 0 x1 hk7 μ)
set_option maxRecDepth 100000 in
set_option maxHeartbeats 4000000 in
theorem jMo_steepPlace_7 {X : Cx} {l : Launch} {G : Gx} {y : Ly} {a : Nat} (hL : LyMo y a ) (hX : Ok X l G prog_13_method_127_code 2 (some .int) "SaltFiguresModel")    : ∀ (fu : Nat) (v1 : Int32) (μ : Mu), J X G 2 1 y (emy y) rvI tpT 7 [(0, .ref (G.1 + a)), (1, .int v1)] [] (μ, y) (Mo_steepPlace_7 a   fu v1 μ) := by
  intro fu
  induction fu with
  | zero => intros; exact J_none
  | succ fu ih => intro v1 μ; exact jMo_steepPlace_7b hL hX   ih v1 μ
set_option maxRecDepth 100000 in
set_option maxHeartbeats 4000000 in
theorem jMo_steepPlace {X : Cx} {l : Launch} {G : Gx} {y : Ly} {a : Nat} (hL : LyMo y a ) (hX : Ok X l G prog_13_method_127_code 2 (some .int) "SaltFiguresModel")  (μ : Mu) : J X G 2 1 y (emy y) rvI tpT 0 [(0, .ref (G.1 + a))] [] (μ, y) (Mo_steepPlace a  μ) := by
  unfold Mo_steepPlace
  refine J_aload_n (k0 := 0) (pc := 0) 0 hX (by decide +kernel) rfl rfl ?_
  refine J_gF (pc := 1) hX (by decide +kernel) fl_Mo_483 hL.1 rfl (fun x1 => ?_)
  refine J_iconst (pc := 4) (n := 1) (v := 1) hX (by decide +kernel) (by decide +kernel) ?_
  refine J_isub (pc := 5) hX (by decide +kernel) ?_
  refine J_istore_n (k0 := 1) (pc := 6) [(1, .int (x1 - 1)), (0, .ref (G.1 + a))] hX (by decide +kernel) rfl (by decide) rfl ?_
  exact J_sub [1, 0] _ rfl (jMo_steepPlace_7 hL hX FU (x1 - 1) μ)
set_option maxRecDepth 100000 in
set_option maxHeartbeats 4000000 in
theorem c_Mo_steepPlace {l : Launch} {G : Gx} {y : Ly} {a : Nat} (hL : LyMo y a )  (μ : Mu) : Cn l G ⟨"SaltFiguresModel", "steepPlace", "()I"⟩ prog_13_method_127_code 2 (some .int) 1 [.ref (G.1 + a)] (μ, y) (emy y) rvI tpT (Mo_steepPlace a  μ) := cn_of (by decide +kernel) (Nat.le_of_ble_eq_true rfl) (fun _ _ _ => ⟨List.prefix_refl _, trivial⟩) (fun X hX _ => jMo_steepPlace hL hX  μ)

def Mo_heaped_96 (a : Nat) (kb55 : Int32 → Int32 → Mu → Option (Int32 × Mu))  (v1 : Int32) (v2 : Int32)  (μ : Mu) : Option (Int32 × Mu) := cl (Mo_steepPlace a μ) (fun x2 μ1 => kb55 (v2 + 1) x2 μ1)
def Mo_heaped_55b (a : Nat)  (kb55 : Int32 → Int32 → Mu → Option (Int32 × Mu)) (v1 : Int32) (v2 : Int32) (v3 : Int32)  (μ : Mu) : Option (Int32 × Mu) := (if v3 = ((-1)) then (if v1 = 0 then some (v2, μ) else ldA μ (a + 37) 8 (v1 - 1) (fun x1 => some (x1, μ))) else ldA μ (a + 37) 8 v3 (fun x2 => stA μ (a + 37) 8 v3 (x2 - 1) (fun μ3 => (if v3 ≤ 0 then Mo_heaped_96 a kb55 v1 v2 μ3 else ldA μ3 (a + 37) 8 (v3 - 1) (fun x4 => stA μ3 (a + 37) 8 (v3 - 1) (x4 + 1) (fun μ5 => Mo_heaped_96 a kb55 v1 v2 μ5))))))
def Mo_heaped_55 (a : Nat)  (v1 : Int32) (fu : Nat) : Int32 → Int32 → Mu → Option (Int32 × Mu) := lp (fun kb => Mo_heaped_55b a  kb v1) (fun _ _ _ => none) fu
def Mo_heaped_22b (a : Nat)  (kb22 : Int32 → Mu → Option (Int32 × Mu)) (v1 : Int32) (v2 : Int32)  (μ : Mu) : Option (Int32 × Mu) := gF μ a 61 (fun x1 => (if x1 ≤ v2 then cl (Mo_steepPlace a μ) (fun x3 μ2 => Mo_heaped_55 a v1 FU 0 x3 μ2) else ldA μ (a + 36) 8 v2 (fun x4 => stA μ (a + 37) 8 v2 x4 (fun μ5 => kb22 (v2 + 1) μ5))))
def Mo_heaped_22 (a : Nat)  (v1 : Int32) (fu : Nat) : Int32 → Mu → Option (Int32 × Mu) := lp (fun kb => Mo_heaped_22b a  kb v1) (fun _ _ => none) fu
def Mo_heaped (a : Nat) (v1 : Int32) (μ : Mu) : Option (Int32 × Mu) := pF μ a 0 0 (fun μ1 => gF μ1 a 61 (fun x2 => cl (Mo_isIn a v1 0 x2 μ1) (fun x4 μ3 => (if x4 = 0 then some ((-1), μ3) else Mo_heaped_22 a v1 FU 0 μ3))))
set_option maxRecDepth 100000 in
set_option maxHeartbeats 4000000 in
theorem jMo_heaped_96 {X : Cx} {l : Launch} {G : Gx} {y : Ly} {a : Nat} (hL : LyMo y a ) (hX : Ok X l G prog_13_method_128_code 4 (some .int) "SaltFiguresModel")  (v1 : Int32) (v2 : Int32)  {kb55 : Int32 → Int32 → Mu → Option (Int32 × Mu)} (hk55 : ∀ (v2 : Int32) (v3 : Int32) (μ : Mu), J X G 4 2 y (emy y) rvI tpT 55 [(0, .ref (G.1 + a)), (1, .int v1), (2, .int v2), (3, .int v3)] [] (μ, y) (kb55 v2 v3 μ)) (μ : Mu) : J X G 4 2 y (emy y) rvI tpT 96 [(0, .ref (G.1 + a)), (1, .int v1), (2, .int v2)] [] (μ, y) (Mo_heaped_96 a kb55  v1 v2  μ) := by
  unfold Mo_heaped_96
  refine J_iload_n (k0 := 2) (pc := 96) 2 hX (by decide +kernel) rfl rfl ?_
  refine J_iconst (pc := 97) (n := 1) (v := 1) hX (by decide +kernel) (by decide +kernel) ?_
  refine J_iadd (pc := 98) hX (by decide +kernel) ?_
  refine J_istore_n (k0 := 2) (pc := 99) [(2, .int (v2 + 1)), (0, .ref (G.1 + a)), (1, .int v1)] hX (by decide +kernel) rfl (by decide) rfl ?_
  refine J_aload_n (k0 := 0) (pc := 100) 1 hX (by decide +kernel) rfl rfl ?_
  refine J_cVi (pc := 101) (idx := 486) [] hX (by decide +kernel) (mq mt_8 233 (by decide +kernel)) mv_Mo_steepPlace hL.1 rfl rfl (Nat.le_of_ble_eq_true rfl) (Nat.le_of_ble_eq_true rfl) (c_Mo_steepPlace hL μ) (fun x2 μ1 => ?_)
  refine J_istore_n (k0 := 3) (pc := 104) [(3, .int x2), (2, .int (v2 + 1)), (0, .ref (G.1 + a)), (1, .int v1)] hX (by decide +kernel) rfl (by decide) rfl ?_
  refine J_goto (pc := 105) (off := -50) (tgt := 55) hX (by decide +kernel) (by decide +kernel) ?_
  exact J_sub [2, 3, 1, 0] _ rfl (hk55 (v2 + 1) x2 μ1)
set_option maxRecDepth 100000 in
set_option maxHeartbeats 4000000 in
theorem jMo_heaped_55b {X : Cx} {l : Launch} {G : Gx} {y : Ly} {a : Nat} (hL : LyMo y a ) (hX : Ok X l G prog_13_method_128_code 4 (some .int) "SaltFiguresModel") (v1 : Int32)  {kb55 : Int32 → Int32 → Mu → Option (Int32 × Mu)}  (hk55 : ∀ (v2 : Int32) (v3 : Int32) (μ : Mu), J X G 4 2 y (emy y) rvI tpT 55 [(0, .ref (G.1 + a)), (1, .int v1), (2, .int v2), (3, .int v3)] [] (μ, y) (kb55 v2 v3 μ)) (v2 : Int32) (v3 : Int32)  (μ : Mu) : J X G 4 2 y (emy y) rvI tpT 55 [(0, .ref (G.1 + a)), (1, .int v1), (2, .int v2), (3, .int v3)] [] (μ, y) (Mo_heaped_55b a  kb55 v1 v2 v3  μ) := by
  unfold Mo_heaped_55b
  refine J_iload_n (k0 := 3) (pc := 55) 3 hX (by decide +kernel) rfl rfl ?_
  refine J_iconst (pc := 56) (n := -1) (v := (-1)) hX (by decide +kernel) (by decide +kernel) ?_
  refine J_icmp_eq (pc := 57) (off := 51) (tgt := 108) hX (by decide +kernel) (by decide +kernel) (fun _ => ?_) (fun _ => ?_)
  · refine J_iload_n (k0 := 1) (pc := 108) 1 hX (by decide +kernel) rfl rfl ?_
    refine J_if_ne (pc := 109) (off := 7) (tgt := 116) hX (by decide +kernel) (by decide +kernel) (fun _ => ?_) (fun _ => ?_)
    · refine J_aload_n (k0 := 0) (pc := 116) 0 hX (by decide +kernel) rfl rfl ?_
      refine J_gr (pc := 117) hX (by decide +kernel) fl_Mo_122 hL.1 rfl hL.2.2.2.2.2.2.2.2.2.2.2.2.2.2.2.2.2.2.2.2.2.2.2.2.2.2.2.2.2.2.2.2.2.2.2.2.2.1.1 ?_
      refine J_iload_n (k0 := 1) (pc := 120) 1 hX (by decide +kernel) rfl rfl ?_
      refine J_iconst (pc := 121) (n := 1) (v := 1) hX (by decide +kernel) (by decide +kernel) ?_
      refine J_isub (pc := 122) hX (by decide +kernel) ?_
      refine J_ldA (pc := 123) hX (by decide +kernel) hL.2.2.2.2.2.2.2.2.2.2.2.2.2.2.2.2.2.2.2.2.2.2.2.2.2.2.2.2.2.2.2.2.2.2.2.2.2.1.2 (fun x1 => ?_)
      exact J_iret (pc := 124) hX (by decide +kernel) rfl trivial
    · refine J_iload_n (k0 := 2) (pc := 112) 2 hX (by decide +kernel) rfl rfl ?_
      refine J_goto (pc := 113) (off := 11) (tgt := 124) hX (by decide +kernel) (by decide +kernel) ?_
      exact J_iret (pc := 124) hX (by decide +kernel) rfl trivial
  · refine J_aload_n (k0 := 0) (pc := 60) 0 hX (by decide +kernel) rfl rfl ?_
    refine J_gr (pc := 61) hX (by decide +kernel) fl_Mo_122 hL.1 rfl hL.2.2.2.2.2.2.2.2.2.2.2.2.2.2.2.2.2.2.2.2.2.2.2.2.2.2.2.2.2.2.2.2.2.2.2.2.2.1.1 ?_
    refine J_iload_n (k0 := 3) (pc := 64) 3 hX (by decide +kernel) rfl rfl ?_
    refine J_aload_n (k0 := 0) (pc := 65) 0 hX (by decide +kernel) rfl rfl ?_
    refine J_gr (pc := 66) hX (by decide +kernel) fl_Mo_122 hL.1 rfl hL.2.2.2.2.2.2.2.2.2.2.2.2.2.2.2.2.2.2.2.2.2.2.2.2.2.2.2.2.2.2.2.2.2.2.2.2.2.1.1 ?_
    refine J_iload_n (k0 := 3) (pc := 69) 3 hX (by decide +kernel) rfl rfl ?_
    refine J_ldA (pc := 70) hX (by decide +kernel) hL.2.2.2.2.2.2.2.2.2.2.2.2.2.2.2.2.2.2.2.2.2.2.2.2.2.2.2.2.2.2.2.2.2.2.2.2.2.1.2 (fun x2 => ?_)
    refine J_iconst (pc := 71) (n := 1) (v := 1) hX (by decide +kernel) (by decide +kernel) ?_
    refine J_isub (pc := 72) hX (by decide +kernel) ?_
    refine J_stA (pc := 73) hX (by decide +kernel) hL.2.2.2.2.2.2.2.2.2.2.2.2.2.2.2.2.2.2.2.2.2.2.2.2.2.2.2.2.2.2.2.2.2.2.2.2.2.1.2 (fun μ3 => ?_)
    refine J_iload_n (k0 := 3) (pc := 74) 3 hX (by decide +kernel) rfl rfl ?_
    refine J_if_le (pc := 75) (off := 21) (tgt := 96) hX (by decide +kernel) (by decide +kernel) (fun _ => ?_) (fun _ => ?_)
    · exact J_sub [0, 1, 2] _ rfl (jMo_heaped_96 hL hX v1 v2 hk55 μ3)
    · refine J_aload_n (k0 := 0) (pc := 78) 0 hX (by decide +kernel) rfl rfl ?_
      refine J_gr (pc := 79) hX (by decide +kernel) fl_Mo_122 hL.1 rfl hL.2.2.2.2.2.2.2.2.2.2.2.2.2.2.2.2.2.2.2.2.2.2.2.2.2.2.2.2.2.2.2.2.2.2.2.2.2.1.1 ?_
      refine J_iload_n (k0 := 3) (pc := 82) 3 hX (by decide +kernel) rfl rfl ?_
      refine J_iconst (pc := 83) (n := 1) (v := 1) hX (by decide +kernel) (by decide +kernel) ?_
      refine J_isub (pc := 84) hX (by decide +kernel) ?_
      refine J_aload_n (k0 := 0) (pc := 85) 0 hX (by decide +kernel) rfl rfl ?_
      refine J_gr (pc := 86) hX (by decide +kernel) fl_Mo_122 hL.1 rfl hL.2.2.2.2.2.2.2.2.2.2.2.2.2.2.2.2.2.2.2.2.2.2.2.2.2.2.2.2.2.2.2.2.2.2.2.2.2.1.1 ?_
      refine J_iload_n (k0 := 3) (pc := 89) 3 hX (by decide +kernel) rfl rfl ?_
      refine J_iconst (pc := 90) (n := 1) (v := 1) hX (by decide +kernel) (by decide +kernel) ?_
      refine J_isub (pc := 91) hX (by decide +kernel) ?_
      refine J_ldA (pc := 92) hX (by decide +kernel) hL.2.2.2.2.2.2.2.2.2.2.2.2.2.2.2.2.2.2.2.2.2.2.2.2.2.2.2.2.2.2.2.2.2.2.2.2.2.1.2 (fun x4 => ?_)
      refine J_iconst (pc := 93) (n := 1) (v := 1) hX (by decide +kernel) (by decide +kernel) ?_
      refine J_iadd (pc := 94) hX (by decide +kernel) ?_
      refine J_stA (pc := 95) hX (by decide +kernel) hL.2.2.2.2.2.2.2.2.2.2.2.2.2.2.2.2.2.2.2.2.2.2.2.2.2.2.2.2.2.2.2.2.2.2.2.2.2.1.2 (fun μ5 => ?_)
      exact J_sub [0, 1, 2] _ rfl (jMo_heaped_96 hL hX v1 v2 hk55 μ5)
set_option maxRecDepth 100000 in
set_option maxHeartbeats 4000000 in
theorem jMo_heaped_55 {X : Cx} {l : Launch} {G : Gx} {y : Ly} {a : Nat} (hL : LyMo y a ) (hX : Ok X l G prog_13_method_128_code 4 (some .int) "SaltFiguresModel") (v1 : Int32)   : ∀ (fu : Nat) (v2 : Int32) (v3 : Int32) (μ : Mu), J X G 4 2 y (emy y) rvI tpT 55 [(0, .ref (G.1 + a)), (1, .int v1), (2, .int v2), (3, .int v3)] [] (μ, y) (Mo_heaped_55 a  v1 fu v2 v3 μ) := by
  intro fu
  induction fu with
  | zero => intros; exact J_none
  | succ fu ih => intro v2 v3 μ; exact jMo_heaped_55b hL hX v1  ih v2 v3 μ
set_option maxRecDepth 100000 in
set_option maxHeartbeats 4000000 in
theorem jMo_heaped_22b {X : Cx} {l : Launch} {G : Gx} {y : Ly} {a : Nat} (hL : LyMo y a ) (hX : Ok X l G prog_13_method_128_code 4 (some .int) "SaltFiguresModel") (v1 : Int32)  {kb22 : Int32 → Mu → Option (Int32 × Mu)}  (hk22 : ∀ (v2 : Int32) (μ : Mu), J X G 4 2 y (emy y) rvI tpT 22 [(0, .ref (G.1 + a)), (1, .int v1), (2, .int v2)] [] (μ, y) (kb22 v2 μ)) (v2 : Int32)  (μ : Mu) : J X G 4 2 y (emy y) rvI tpT 22 [(0, .ref (G.1 + a)), (1, .int v1), (2, .int v2)] [] (μ, y) (Mo_heaped_22b a  kb22 v1 v2  μ) := by
  unfold Mo_heaped_22b
  refine J_iload_n (k0 := 2) (pc := 22) 2 hX (by decide +kernel) rfl rfl ?_
  refine J_aload_n (k0 := 0) (pc := 23) 0 hX (by decide +kernel) rfl rfl ?_
  refine J_gF (pc := 24) hX (by decide +kernel) fl_Mo_483 hL.1 rfl (fun x1 => ?_)
  refine J_icmp_ge (pc := 27) (off := 21) (tgt := 48) hX (by decide +kernel) (by decide +kernel) (fun _ => ?_) (fun _ => ?_)
  · refine J_iconst (pc := 48) (n := 0) (v := 0) hX (by decide +kernel) (by decide +kernel) ?_
    refine J_istore_n (k0 := 2) (pc := 49) [(2, .int 0), (0, .ref (G.1 + a)), (1, .int v1)] hX (by decide +kernel) rfl (by decide) rfl ?_
    refine J_aload_n (k0 := 0) (pc := 50) 1 hX (by decide +kernel) rfl rfl ?_
    refine J_cVi (pc := 51) (idx := 486) [] hX (by decide +kernel) (mq mt_8 233 (by decide +kernel)) mv_Mo_steepPlace hL.1 rfl rfl (Nat.le_of_ble_eq_true rfl) (Nat.le_of_ble_eq_true rfl) (c_Mo_steepPlace hL μ) (fun x3 μ2 => ?_)
    refine J_istore_n (k0 := 3) (pc := 54) [(3, .int x3), (2, .int 0), (0, .ref (G.1 + a)), (1, .int v1)] hX (by decide +kernel) rfl (by decide) rfl ?_
    exact J_sub [2, 3, 1, 0] _ rfl (jMo_heaped_55 hL hX v1 FU 0 x3 μ2)
  · refine J_aload_n (k0 := 0) (pc := 30) 0 hX (by decide +kernel) rfl rfl ?_
    refine J_gr (pc := 31) hX (by decide +kernel) fl_Mo_122 hL.1 rfl hL.2.2.2.2.2.2.2.2.2.2.2.2.2.2.2.2.2.2.2.2.2.2.2.2.2.2.2.2.2.2.2.2.2.2.2.2.2.1.1 ?_
    refine J_iload_n (k0 := 2) (pc := 34) 2 hX (by decide +kernel) rfl rfl ?_
    refine J_aload_n (k0 := 0) (pc := 35) 0 hX (by decide +kernel) rfl rfl ?_
    refine J_gr (pc := 36) hX (by decide +kernel) fl_Mo_119 hL.1 rfl hL.2.2.2.2.2.2.2.2.2.2.2.2.2.2.2.2.2.2.2.2.2.2.2.2.2.2.2.2.2.2.2.2.2.2.2.2.1.1 ?_
    refine J_iload_n (k0 := 2) (pc := 39) 2 hX (by decide +kernel) rfl rfl ?_
    refine J_ldA (pc := 40) hX (by decide +kernel) hL.2.2.2.2.2.2.2.2.2.2.2.2.2.2.2.2.2.2.2.2.2.2.2.2.2.2.2.2.2.2.2.2.2.2.2.2.1.2 (fun x4 => ?_)
    refine J_stA (pc := 41) hX (by decide +kernel) hL.2.2.2.2.2.2.2.2.2.2.2.2.2.2.2.2.2.2.2.2.2.2.2.2.2.2.2.2.2.2.2.2.2.2.2.2.2.1.2 (fun μ5 => ?_)
    refine J_iinc (pc := 42) (n := 1) 2 [(2, .int (v2 + 1)), (0, .ref (G.1 + a)), (1, .int v1)] hX (by decide +kernel) rfl rfl (by decide) rfl ?_
    refine J_goto (pc := 45) (off := -23) (tgt := 22) hX (by decide +kernel) (by decide +kernel) ?_
    exact J_sub [1, 2, 0] _ rfl (hk22 (v2 + 1) μ5)
set_option maxRecDepth 100000 in
set_option maxHeartbeats 4000000 in
theorem jMo_heaped_22 {X : Cx} {l : Launch} {G : Gx} {y : Ly} {a : Nat} (hL : LyMo y a ) (hX : Ok X l G prog_13_method_128_code 4 (some .int) "SaltFiguresModel") (v1 : Int32)   : ∀ (fu : Nat) (v2 : Int32) (μ : Mu), J X G 4 2 y (emy y) rvI tpT 22 [(0, .ref (G.1 + a)), (1, .int v1), (2, .int v2)] [] (μ, y) (Mo_heaped_22 a  v1 fu v2 μ) := by
  intro fu
  induction fu with
  | zero => intros; exact J_none
  | succ fu ih => intro v2 μ; exact jMo_heaped_22b hL hX v1  ih v2 μ
set_option maxRecDepth 100000 in
set_option maxHeartbeats 4000000 in
theorem jMo_heaped {X : Cx} {l : Launch} {G : Gx} {y : Ly} {a : Nat} (hL : LyMo y a ) (hX : Ok X l G prog_13_method_128_code 4 (some .int) "SaltFiguresModel") (v1 : Int32) (μ : Mu) : J X G 4 2 y (emy y) rvI tpT 0 [(0, .ref (G.1 + a)), (1, .int v1)] [] (μ, y) (Mo_heaped a v1 μ) := by
  unfold Mo_heaped
  refine J_aload_n (k0 := 0) (pc := 0) 0 hX (by decide +kernel) rfl rfl ?_
  refine J_iconst (pc := 1) (n := 0) (v := 0) hX (by decide +kernel) (by decide +kernel) ?_
  refine J_pF (pc := 2) hX (by decide +kernel) fl_Mo_131 hL.1 rfl (fun μ1 => ?_)
  refine J_aload_n (k0 := 0) (pc := 5) 0 hX (by decide +kernel) rfl rfl ?_
  refine J_iload_n (k0 := 1) (pc := 6) 1 hX (by decide +kernel) rfl rfl ?_
  refine J_iconst (pc := 7) (n := 0) (v := 0) hX (by decide +kernel) (by decide +kernel) ?_
  refine J_aload_n (k0 := 0) (pc := 8) 0 hX (by decide +kernel) rfl rfl ?_
  refine J_gF (pc := 9) hX (by decide +kernel) fl_Mo_483 hL.1 rfl (fun x2 => ?_)
  refine J_cVi (pc := 12) (idx := 154) [.int v1, .int 0, .int x2] hX (by decide +kernel) (mq mt_6 226 (by decide +kernel)) mv_Mo_isIn hL.1 rfl rfl (Nat.le_of_ble_eq_true rfl) (Nat.le_of_ble_eq_true rfl) (c_Mo_isIn hL v1 0 x2 μ1) (fun x4 μ3 => ?_)
  refine J_if_ne (pc := 15) (off := 5) (tgt := 20) hX (by decide +kernel) (by decide +kernel) (fun _ => ?_) (fun _ => ?_)
  · refine J_iconst (pc := 20) (n := 0) (v := 0) hX (by decide +kernel) (by decide +kernel) ?_
    refine J_istore_n (k0 := 2) (pc := 21) [(2, .int 0), (0, .ref (G.1 + a)), (1, .int v1)] hX (by decide +kernel) rfl (by decide) rfl ?_
    exact J_sub [1, 2, 0] _ rfl (jMo_heaped_22 hL hX v1 FU 0 μ3)
  · refine J_iconst (pc := 18) (n := -1) (v := (-1)) hX (by decide +kernel) (by decide +kernel) ?_
    exact J_iret (pc := 19) hX (by decide +kernel) rfl trivial
set_option maxRecDepth 100000 in
set_option maxHeartbeats 4000000 in
theorem c_Mo_heaped {l : Launch} {G : Gx} {y : Ly} {a : Nat} (hL : LyMo y a ) (v1 : Int32) (μ : Mu) : Cn l G ⟨"SaltFiguresModel", "heaped", "(I)I"⟩ prog_13_method_128_code 4 (some .int) 2 [.ref (G.1 + a), .int v1] (μ, y) (emy y) rvI tpT (Mo_heaped a v1 μ) := cn_of (by decide +kernel) (Nat.le_of_ble_eq_true rfl) (fun _ _ _ => ⟨List.prefix_refl _, trivial⟩) (fun X hX _ => jMo_heaped hL hX v1 μ)

def Mo_high_72 (a : Nat)   (v3 : Int32)  (μ : Mu) : Option (Int32 × Mu) := cl (Mo_endsThought a μ) (fun _ μ1 => (if v3 ≤ 60 then some (v3, μ1) else some ((-1), μ1)))
def Mo_high_41b (a : Nat)  (kb41 : Int32 → Mu → Option (Int32 × Mu)) (v1 : Int32) (v2 : Int32) (v3 : Int32)  (μ : Mu) : Option (Int32 × Mu) := (if 60 < v3 then Mo_high_72 a v3 μ else ldA μ (a + 1) 118 (22 + v1) (fun x1 => (if v2 ≤ x1 then Mo_high_72 a v3 μ else cl (Mo_goesBy a μ) (fun x3 μ2 => kb41 (v3 + 1) μ2))))
def Mo_high_41 (a : Nat)  (v1 : Int32) (v2 : Int32) (fu : Nat) : Int32 → Mu → Option (Int32 × Mu) := lp (fun kb => Mo_high_41b a  kb v1 v2) (fun _ _ => none) fu
def Mo_high (a : Nat) (v1 : Int32) (v2 : Int32) (μ : Mu) : Option (Int32 × Mu) := pF μ a 0 0 (fun μ1 => cl (Mo_isPerson a v1 μ1) (fun x3 μ2 => (if x3 = 0 then some ((-1), μ2) else cl (Mo_isAlive a v1 μ2) (fun x5 μ4 => (if x5 = 0 then some ((-1), μ4) else cl (Mo_isIn a v2 1 9999 μ4) (fun x7 μ6 => (if x7 = 0 then some ((-1), μ6) else cl (Mo_thinks a μ6) (fun _ μ8 => Mo_high_41 a v1 v2 FU 0 μ8))))))))
set_option maxRecDepth 100000 in
set_option maxHeartbeats 4000000 in
theorem jMo_high_72 {X : Cx} {l : Launch} {G : Gx} {y : Ly} {a : Nat} (hL : LyMo y a ) (hX : Ok X l G prog_13_method_89_code 4 (some .int) "SaltFiguresModel")  (v3 : Int32)    (μ : Mu) : J X G 4 10 y (emy y) rvI tpT 72 [(0, .ref (G.1 + a)), (3, .int v3)] [] (μ, y) (Mo_high_72 a   v3  μ) := by
  unfold Mo_high_72
  refine J_aload_n (k0 := 0) (pc := 72) 0 hX (by decide +kernel) rfl rfl ?_
  refine J_cVv (pc := 73) (idx := 406) [] hX (by decide +kernel) (mq mt_8 60 (by decide +kernel)) mv_Mo_endsThought hL.1 rfl rfl (Nat.le_of_ble_eq_true rfl) (Nat.le_of_ble_eq_true rfl) (c_Mo_endsThought hL μ) (fun μ1 => ?_)
  refine J_iload_n (k0 := 3) (pc := 76) 1 hX (by decide +kernel) rfl rfl ?_
  refine J_bipush (pc := 77) (n := 60) (v := 60) hX (by decide +kernel) (by decide +kernel) ?_
  refine J_icmp_le (pc := 79) (off := 7) (tgt := 86) hX (by decide +kernel) (by decide +kernel) (fun _ => ?_) (fun _ => ?_)
  · refine J_iload_n (k0 := 3) (pc := 86) 1 hX (by decide +kernel) rfl rfl ?_
    exact J_iret (pc := 87) hX (by decide +kernel) rfl trivial
  · refine J_iconst (pc := 82) (n := -1) (v := (-1)) hX (by decide +kernel) (by decide +kernel) ?_
    refine J_goto (pc := 83) (off := 4) (tgt := 87) hX (by decide +kernel) (by decide +kernel) ?_
    exact J_iret (pc := 87) hX (by decide +kernel) rfl trivial
set_option maxRecDepth 100000 in
set_option maxHeartbeats 4000000 in
theorem jMo_high_41b {X : Cx} {l : Launch} {G : Gx} {y : Ly} {a : Nat} (hL : LyMo y a ) (hX : Ok X l G prog_13_method_89_code 4 (some .int) "SaltFiguresModel") (v1 : Int32) (v2 : Int32)  {kb41 : Int32 → Mu → Option (Int32 × Mu)}  (hk41 : ∀ (v3 : Int32) (μ : Mu), J X G 4 10 y (emy y) rvI tpT 41 [(0, .ref (G.1 + a)), (1, .int v1), (2, .int v2), (3, .int v3)] [] (μ, y) (kb41 v3 μ)) (v3 : Int32)  (μ : Mu) : J X G 4 10 y (emy y) rvI tpT 41 [(0, .ref (G.1 + a)), (1, .int v1), (2, .int v2), (3, .int v3)] [] (μ, y) (Mo_high_41b a  kb41 v1 v2 v3  μ) := by
  unfold Mo_high_41b
  refine J_iload_n (k0 := 3) (pc := 41) 3 hX (by decide +kernel) rfl rfl ?_
  refine J_bipush (pc := 42) (n := 60) (v := 60) hX (by decide +kernel) (by decide +kernel) ?_
  refine J_icmp_gt (pc := 44) (off := 28) (tgt := 72) hX (by decide +kernel) (by decide +kernel) (fun _ => ?_) (fun _ => ?_)
  · exact J_sub [0, 3] _ rfl (jMo_high_72 hL hX v3 μ)
  · refine J_aload_n (k0 := 0) (pc := 47) 0 hX (by decide +kernel) rfl rfl ?_
    refine J_gr (pc := 48) hX (by decide +kernel) fl_Mo_7 hL.1 rfl hL.2.1.1 ?_
    refine J_bipush (pc := 51) (n := 22) (v := 22) hX (by decide +kernel) (by decide +kernel) ?_
    refine J_iload_n (k0 := 1) (pc := 53) 1 hX (by decide +kernel) rfl rfl ?_
    refine J_iadd (pc := 54) hX (by decide +kernel) ?_
    refine J_ldA (pc := 55) hX (by decide +kernel) hL.2.1.2 (fun x1 => ?_)
    refine J_iload_n (k0 := 2) (pc := 56) 2 hX (by decide +kernel) rfl rfl ?_
    refine J_icmp_ge (pc := 57) (off := 15) (tgt := 72) hX (by decide +kernel) (by decide +kernel) (fun _ => ?_) (fun _ => ?_)
    · exact J_sub [0, 3] _ rfl (jMo_high_72 hL hX v3 μ)
    · refine J_aload_n (k0 := 0) (pc := 60) 0 hX (by decide +kernel) rfl rfl ?_
      refine J_cVi (pc := 61) (idx := 397) [] hX (by decide +kernel) (mq mt_7 238 (by decide +kernel)) mv_Mo_goesBy hL.1 rfl rfl (Nat.le_of_ble_eq_true rfl) (Nat.le_of_ble_eq_true rfl) (c_Mo_goesBy hL μ) (fun x3 μ2 => ?_)
      refine J_pop (pc := 64) hX (by decide +kernel) rfl ?_
      refine J_iload_n (k0 := 3) (pc := 65) 3 hX (by decide +kernel) rfl rfl ?_
      refine J_iconst (pc := 66) (n := 1) (v := 1) hX (by decide +kernel) (by decide +kernel) ?_
      refine J_iadd (pc := 67) hX (by decide +kernel) ?_
      refine J_istore_n (k0 := 3) (pc := 68) [(3, .int (v3 + 1)), (0, .ref (G.1 + a)), (1, .int v1), (2, .int v2)] hX (by decide +kernel) rfl (by decide) rfl ?_
      refine J_goto (pc := 69) (off := -28) (tgt := 41) hX (by decide +kernel) (by decide +kernel) ?_
      exact J_sub [1, 2, 3, 0] _ rfl (hk41 (v3 + 1) μ2)
set_option maxRecDepth 100000 in
set_option maxHeartbeats 4000000 in
theorem jMo_high_41 {X : Cx} {l : Launch} {G : Gx} {y : Ly} {a : Nat} (hL : LyMo y a ) (hX : Ok X l G prog_13_method_89_code 4 (some .int) "SaltFiguresModel") (v1 : Int32) (v2 : Int32)   : ∀ (fu : Nat) (v3 : Int32) (μ : Mu), J X G 4 10 y (emy y) rvI tpT 41 [(0, .ref (G.1 + a)), (1, .int v1), (2, .int v2), (3, .int v3)] [] (μ, y) (Mo_high_41 a  v1 v2 fu v3 μ) := by
  intro fu
  induction fu with
  | zero => intros; exact J_none
  | succ fu ih => intro v3 μ; exact jMo_high_41b hL hX v1 v2  ih v3 μ
set_option maxRecDepth 100000 in
set_option maxHeartbeats 4000000 in
theorem jMo_high {X : Cx} {l : Launch} {G : Gx} {y : Ly} {a : Nat} (hL : LyMo y a ) (hX : Ok X l G prog_13_method_89_code 4 (some .int) "SaltFiguresModel") (v1 : Int32) (v2 : Int32) (μ : Mu) : J X G 4 10 y (emy y) rvI tpT 0 [(0, .ref (G.1 + a)), (1, .int v1), (2, .int v2)] [] (μ, y) (Mo_high a v1 v2 μ) := by
  unfold Mo_high
  refine J_aload_n (k0 := 0) (pc := 0) 0 hX (by decide +kernel) rfl rfl ?_
  refine J_iconst (pc := 1) (n := 0) (v := 0) hX (by decide +kernel) (by decide +kernel) ?_
  refine J_pF (pc := 2) hX (by decide +kernel) fl_Mo_131 hL.1 rfl (fun μ1 => ?_)
  refine J_aload_n (k0 := 0) (pc := 5) 0 hX (by decide +kernel) rfl rfl ?_
  refine J_iload_n (k0 := 1) (pc := 6) 1 hX (by decide +kernel) rfl rfl ?_
  refine J_cVi (pc := 7) (idx := 158) [.int v1] hX (by decide +kernel) (mq mt_6 234 (by decide +kernel)) mv_Mo_isPerson hL.1 rfl rfl (Nat.le_of_ble_eq_true rfl) (Nat.le_of_ble_eq_true rfl) (c_Mo_isPerson hL v1 μ1) (fun x3 μ2 => ?_)
  refine J_if_eq (pc := 10) (off := 23) (tgt := 33) hX (by decide +kernel) (by decide +kernel) (fun _ => ?_) (fun _ => ?_)
  · refine J_iconst (pc := 33) (n := -1) (v := (-1)) hX (by decide +kernel) (by decide +kernel) ?_
    exact J_iret (pc := 34) hX (by decide +kernel) rfl trivial
  · refine J_aload_n (k0 := 0) (pc := 13) 0 hX (by decide +kernel) rfl rfl ?_
    refine J_iload_n (k0 := 1) (pc := 14) 1 hX (by decide +kernel) rfl rfl ?_
    refine J_cVi (pc := 15) (idx := 162) [.int v1] hX (by decide +kernel) (mq mt_6 238 (by decide +kernel)) mv_Mo_isAlive hL.1 rfl rfl (Nat.le_of_ble_eq_true rfl) (Nat.le_of_ble_eq_true rfl) (c_Mo_isAlive hL v1 μ2) (fun x5 μ4 => ?_)
    refine J_if_eq (pc := 18) (off := 15) (tgt := 33) hX (by decide +kernel) (by decide +kernel) (fun _ => ?_) (fun _ => ?_)
    · refine J_iconst (pc := 33) (n := -1) (v := (-1)) hX (by decide +kernel) (by decide +kernel) ?_
      exact J_iret (pc := 34) hX (by decide +kernel) rfl trivial
    · refine J_aload_n (k0 := 0) (pc := 21) 0 hX (by decide +kernel) rfl rfl ?_
      refine J_iload_n (k0 := 2) (pc := 22) 2 hX (by decide +kernel) rfl rfl ?_
      refine J_iconst (pc := 23) (n := 1) (v := 1) hX (by decide +kernel) (by decide +kernel) ?_
      refine J_sipush (pc := 24) (n := 9999) (v := 9999) hX (by decide +kernel) (by decide +kernel) ?_
      refine J_cVi (pc := 27) (idx := 154) [.int v2, .int 1, .int 9999] hX (by decide +kernel) (mq mt_6 226 (by decide +kernel)) mv_Mo_isIn hL.1 rfl rfl (Nat.le_of_ble_eq_true rfl) (Nat.le_of_ble_eq_true rfl) (c_Mo_isIn hL v2 1 9999 μ4) (fun x7 μ6 => ?_)
      refine J_if_ne (pc := 30) (off := 5) (tgt := 35) hX (by decide +kernel) (by decide +kernel) (fun _ => ?_) (fun _ => ?_)
      · refine J_aload_n (k0 := 0) (pc := 35) 0 hX (by decide +kernel) rfl rfl ?_
        refine J_cVv (pc := 36) (idx := 400) [] hX (by decide +kernel) (mq mt_8 52 (by decide +kernel)) mv_Mo_thinks hL.1 rfl rfl (Nat.le_of_ble_eq_true rfl) (Nat.le_of_ble_eq_true rfl) (c_Mo_thinks hL μ6) (fun μ8 => ?_)
        refine J_iconst (pc := 39) (n := 0) (v := 0) hX (by decide +kernel) (by decide +kernel) ?_
        refine J_istore_n (k0 := 3) (pc := 40) [(3, .int 0), (0, .ref (G.1 + a)), (1, .int v1), (2, .int v2)] hX (by decide +kernel) rfl (by decide) rfl ?_
        exact J_sub [1, 2, 3, 0] _ rfl (jMo_high_41 hL hX v1 v2 FU 0 μ8)
      · refine J_iconst (pc := 33) (n := -1) (v := (-1)) hX (by decide +kernel) (by decide +kernel) ?_
        exact J_iret (pc := 34) hX (by decide +kernel) rfl trivial
set_option maxRecDepth 100000 in
set_option maxHeartbeats 4000000 in
theorem c_Mo_high {l : Launch} {G : Gx} {y : Ly} {a : Nat} (hL : LyMo y a ) (v1 : Int32) (v2 : Int32) (μ : Mu) : Cn l G ⟨"SaltFiguresModel", "high", "(II)I"⟩ prog_13_method_89_code 4 (some .int) 10 [.ref (G.1 + a), .int v1, .int v2] (μ, y) (emy y) rvI tpT (Mo_high a v1 v2 μ) := cn_of (by decide +kernel) (Nat.le_of_ble_eq_true rfl) (fun _ _ _ => ⟨List.prefix_refl _, trivial⟩) (fun X hX _ => jMo_high hL hX v1 v2 μ)

def Mo_isBetween (a : Nat) (v1 : Int32) (v2 : Int32) (v3 : Int32) (μ : Mu) : Option (Int32 × Mu) := ldA μ (a + 22) 8 v3 (fun x1 => ldA μ (a + 22) 8 v1 (fun x2 => ldA μ (a + 22) 8 v3 (fun x3 => ldA μ (a + 22) 8 v2 (fun x4 => ldA μ (a + 23) 8 v3 (fun x5 => ldA μ (a + 23) 8 v1 (fun x6 => ldA μ (a + 23) 8 v3 (fun x7 => ldA μ (a + 23) 8 v2 (fun x8 => cl (Mo_areaOf a v1 v2 v3 μ) (fun x10 μ9 => (if x10 = 0 then (if 0 ≤ (((x1 - x2) * (x3 - x4)) + ((x5 - x6) * (x7 - x8))) then some (0, μ9) else some (1, μ9)) else some (0, μ9)))))))))))
set_option maxRecDepth 100000 in
set_option maxHeartbeats 4000000 in
theorem jMo_isBetween {X : Cx} {l : Launch} {G : Gx} {y : Ly} {a : Nat} (hL : LyMo y a ) (hX : Ok X l G prog_13_method_102_code 5 (some .boolean) "SaltFiguresModel") (v1 : Int32) (v2 : Int32) (v3 : Int32) (μ : Mu) : J X G 5 2 y (emy y) rvI tpT 0 [(0, .ref (G.1 + a)), (1, .int v1), (2, .int v2), (3, .int v3)] [] (μ, y) (Mo_isBetween a v1 v2 v3 μ) := by
  unfold Mo_isBetween
  refine J_aload_n (k0 := 0) (pc := 0) 0 hX (by decide +kernel) rfl rfl ?_
  refine J_gr (pc := 1) hX (by decide +kernel) fl_Mo_77 hL.1 rfl hL.2.2.2.2.2.2.2.2.2.2.2.2.2.2.2.2.2.2.2.2.2.2.1.1 ?_
  refine J_iload_n (k0 := 3) (pc := 4) 3 hX (by decide +kernel) rfl rfl ?_
  refine J_ldA (pc := 5) hX (by decide +kernel) hL.2.2.2.2.2.2.2.2.2.2.2.2.2.2.2.2.2.2.2.2.2.2.1.2 (fun x1 => ?_)
  refine J_aload_n (k0 := 0) (pc := 6) 0 hX (by decide +kernel) rfl rfl ?_
  refine J_gr (pc := 7) hX (by decide +kernel) fl_Mo_77 hL.1 rfl hL.2.2.2.2.2.2.2.2.2.2.2.2.2.2.2.2.2.2.2.2.2.2.1.1 ?_
  refine J_iload_n (k0 := 1) (pc := 10) 1 hX (by decide +kernel) rfl rfl ?_
  refine J_ldA (pc := 11) hX (by decide +kernel) hL.2.2.2.2.2.2.2.2.2.2.2.2.2.2.2.2.2.2.2.2.2.2.1.2 (fun x2 => ?_)
  refine J_isub (pc := 12) hX (by decide +kernel) ?_
  refine J_aload_n (k0 := 0) (pc := 13) 0 hX (by decide +kernel) rfl rfl ?_
  refine J_gr (pc := 14) hX (by decide +kernel) fl_Mo_77 hL.1 rfl hL.2.2.2.2.2.2.2.2.2.2.2.2.2.2.2.2.2.2.2.2.2.2.1.1 ?_
  refine J_iload_n (k0 := 3) (pc := 17) 3 hX (by decide +kernel) rfl rfl ?_
  refine J_ldA (pc := 18) hX (by decide +kernel) hL.2.2.2.2.2.2.2.2.2.2.2.2.2.2.2.2.2.2.2.2.2.2.1.2 (fun x3 => ?_)
  refine J_aload_n (k0 := 0) (pc := 19) 0 hX (by decide +kernel) rfl rfl ?_
  refine J_gr (pc := 20) hX (by decide +kernel) fl_Mo_77 hL.1 rfl hL.2.2.2.2.2.2.2.2.2.2.2.2.2.2.2.2.2.2.2.2.2.2.1.1 ?_
  refine J_iload_n (k0 := 2) (pc := 23) 2 hX (by decide +kernel) rfl rfl ?_
  refine J_ldA (pc := 24) hX (by decide +kernel) hL.2.2.2.2.2.2.2.2.2.2.2.2.2.2.2.2.2.2.2.2.2.2.1.2 (fun x4 => ?_)
  refine J_isub (pc := 25) hX (by decide +kernel) ?_
  refine J_imul (pc := 26) hX (by decide +kernel) ?_
  refine J_aload_n (k0 := 0) (pc := 27) 0 hX (by decide +kernel) rfl rfl ?_
  refine J_gr (pc := 28) hX (by decide +kernel) fl_Mo_80 hL.1 rfl hL.2.2.2.2.2.2.2.2.2.2.2.2.2.2.2.2.2.2.2.2.2.2.2.1.1 ?_
  refine J_iload_n (k0 := 3) (pc := 31) 3 hX (by decide +kernel) rfl rfl ?_
  refine J_ldA (pc := 32) hX (by decide +kernel) hL.2.2.2.2.2.2.2.2.2.2.2.2.2.2.2.2.2.2.2.2.2.2.2.1.2 (fun x5 => ?_)
  refine J_aload_n (k0 := 0) (pc := 33) 0 hX (by decide +kernel) rfl rfl ?_
  refine J_gr (pc := 34) hX (by decide +kernel) fl_Mo_80 hL.1 rfl hL.2.2.2.2.2.2.2.2.2.2.2.2.2.2.2.2.2.2.2.2.2.2.2.1.1 ?_
  refine J_iload_n (k0 := 1) (pc := 37) 1 hX (by decide +kernel) rfl rfl ?_
  refine J_ldA (pc := 38) hX (by decide +kernel) hL.2.2.2.2.2.2.2.2.2.2.2.2.2.2.2.2.2.2.2.2.2.2.2.1.2 (fun x6 => ?_)
  refine J_isub (pc := 39) hX (by decide +kernel) ?_
  refine J_aload_n (k0 := 0) (pc := 40) 0 hX (by decide +kernel) rfl rfl ?_
  refine J_gr (pc := 41) hX (by decide +kernel) fl_Mo_80 hL.1 rfl hL.2.2.2.2.2.2.2.2.2.2.2.2.2.2.2.2.2.2.2.2.2.2.2.1.1 ?_
  refine J_iload_n (k0 := 3) (pc := 44) 3 hX (by decide +kernel) rfl rfl ?_
  refine J_ldA (pc := 45) hX (by decide +kernel) hL.2.2.2.2.2.2.2.2.2.2.2.2.2.2.2.2.2.2.2.2.2.2.2.1.2 (fun x7 => ?_)
  refine J_aload_n (k0 := 0) (pc := 46) 0 hX (by decide +kernel) rfl rfl ?_
  refine J_gr (pc := 47) hX (by decide +kernel) fl_Mo_80 hL.1 rfl hL.2.2.2.2.2.2.2.2.2.2.2.2.2.2.2.2.2.2.2.2.2.2.2.1.1 ?_
  refine J_iload_n (k0 := 2) (pc := 50) 2 hX (by decide +kernel) rfl rfl ?_
  refine J_ldA (pc := 51) hX (by decide +kernel) hL.2.2.2.2.2.2.2.2.2.2.2.2.2.2.2.2.2.2.2.2.2.2.2.1.2 (fun x8 => ?_)
  refine J_isub (pc := 52) hX (by decide +kernel) ?_
  refine J_imul (pc := 53) hX (by decide +kernel) ?_
  refine J_iadd (pc := 54) hX (by decide +kernel) ?_
  refine J_istore (pc := 55) [(4, .int (((x1 - x2) * (x3 - x4)) + ((x5 - x6) * (x7 - x8)))), (0, .ref (G.1 + a)), (1, .int v1), (2, .int v2), (3, .int v3)] hX (by decide +kernel) (by decide) rfl ?_
  refine J_aload_n (k0 := 0) (pc := 57) 1 hX (by decide +kernel) rfl rfl ?_
  refine J_iload_n (k0 := 1) (pc := 58) 2 hX (by decide +kernel) rfl rfl ?_
  refine J_iload_n (k0 := 2) (pc := 59) 3 hX (by decide +kernel) rfl rfl ?_
  refine J_iload_n (k0 := 3) (pc := 60) 4 hX (by decide +kernel) rfl rfl ?_
  refine J_cVi (pc := 61) (idx := 435) [.int v1, .int v2, .int v3] hX (by decide +kernel) (mq mt_8 114 (by decide +kernel)) mv_Mo_areaOf hL.1 rfl rfl (Nat.le_of_ble_eq_true rfl) (Nat.le_of_ble_eq_true rfl) (c_Mo_areaOf hL v1 v2 v3 μ) (fun x10 μ9 => ?_)
  refine J_if_ne (pc := 64) (off := 12) (tgt := 76) hX (by decide +kernel) (by decide +kernel) (fun _ => ?_) (fun _ => ?_)
  · refine J_iconst (pc := 76) (n := 0) (v := 0) hX (by decide +kernel) (by decide +kernel) ?_
    exact J_zret (pc := 77) hX (by decide +kernel) rfl (by decide +kernel) trivial
  · refine J_iload (pc := 67) 0 hX (by decide +kernel) rfl ?_
    refine J_if_ge (pc := 69) (off := 7) (tgt := 76) hX (by decide +kernel) (by decide +kernel) (fun _ => ?_) (fun _ => ?_)
    · refine J_iconst (pc := 76) (n := 0) (v := 0) hX (by decide +kernel) (by decide +kernel) ?_
      exact J_zret (pc := 77) hX (by decide +kernel) rfl (by decide +kernel) trivial
    · refine J_iconst (pc := 72) (n := 1) (v := 1) hX (by decide +kernel) (by decide +kernel) ?_
      refine J_goto (pc := 73) (off := 4) (tgt := 77) hX (by decide +kernel) (by decide +kernel) ?_
      exact J_zret (pc := 77) hX (by decide +kernel) rfl (by decide +kernel) trivial
set_option maxRecDepth 100000 in
set_option maxHeartbeats 4000000 in
theorem c_Mo_isBetween {l : Launch} {G : Gx} {y : Ly} {a : Nat} (hL : LyMo y a ) (v1 : Int32) (v2 : Int32) (v3 : Int32) (μ : Mu) : Cn l G ⟨"SaltFiguresModel", "isBetween", "(III)Z"⟩ prog_13_method_102_code 5 (some .boolean) 2 [.ref (G.1 + a), .int v1, .int v2, .int v3] (μ, y) (emy y) rvI tpT (Mo_isBetween a v1 v2 v3 μ) := cn_of (by decide +kernel) (Nat.le_of_ble_eq_true rfl) (fun _ _ _ => ⟨List.prefix_refl _, trivial⟩) (fun X hX _ => jMo_isBetween hL hX v1 v2 v3 μ)

def Mo_isEdge_42 (a : Nat) (kb2 : Int32 → Mu → Option (Int32 × Mu))  (v1 : Int32) (v2 : Int32) (v3 : Int32)  (μ : Mu) : Option (Int32 × Mu) := kb2 (v3 + 1) μ
def Mo_isEdge_2b (a : Nat)  (kb2 : Int32 → Mu → Option (Int32 × Mu)) (v1 : Int32) (v2 : Int32) (v3 : Int32)  (μ : Mu) : Option (Int32 × Mu) := gF μ a 42 (fun x1 => (if x1 ≤ v3 then some (1, μ) else (if v3 = v1 then Mo_isEdge_42 a kb2 v1 v2 v3 μ else (if v3 = v2 then Mo_isEdge_42 a kb2 v1 v2 v3 μ else cl (Mo_areaOf a v1 v2 v3 μ) (fun x3 μ2 => (if 0 < x3 then Mo_isEdge_42 a kb2 v1 v2 v3 μ2 else cl (Mo_isBetween a v1 v2 v3 μ2) (fun x5 μ4 => (if x5 = 0 then some (0, μ4) else Mo_isEdge_42 a kb2 v1 v2 v3 μ4))))))))
def Mo_isEdge_2 (a : Nat)  (v1 : Int32) (v2 : Int32) (fu : Nat) : Int32 → Mu → Option (Int32 × Mu) := lp (fun kb => Mo_isEdge_2b a  kb v1 v2) (fun _ _ => none) fu
def Mo_isEdge (a : Nat) (v1 : Int32) (v2 : Int32) (μ : Mu) : Option (Int32 × Mu) := Mo_isEdge_2 a v1 v2 FU 0 μ
set_option maxRecDepth 100000 in
set_option maxHeartbeats 4000000 in
theorem jMo_isEdge_42 {X : Cx} {l : Launch} {G : Gx} {y : Ly} {a : Nat} (hL : LyMo y a ) (hX : Ok X l G prog_13_method_103_code 4 (some .boolean) "SaltFiguresModel")  (v1 : Int32) (v2 : Int32) (v3 : Int32)  {kb2 : Int32 → Mu → Option (Int32 × Mu)} (hk2 : ∀ (v3 : Int32) (μ : Mu), J X G 4 3 y (emy y) rvI tpT 2 [(0, .ref (G.1 + a)), (1, .int v1), (2, .int v2), (3, .int v3)] [] (μ, y) (kb2 v3 μ)) (μ : Mu) : J X G 4 3 y (emy y) rvI tpT 42 [(0, .ref (G.1 + a)), (1, .int v1), (2, .int v2), (3, .int v3)] [] (μ, y) (Mo_isEdge_42 a kb2  v1 v2 v3  μ) := by
  unfold Mo_isEdge_42
  refine J_iinc (pc := 42) (n := 1) 3 [(3, .int (v3 + 1)), (0, .ref (G.1 + a)), (1, .int v1), (2, .int v2)] hX (by decide +kernel) rfl rfl (by decide) rfl ?_
  refine J_goto (pc := 45) (off := -43) (tgt := 2) hX (by decide +kernel) (by decide +kernel) ?_
  exact J_sub [1, 2, 3, 0] _ rfl (hk2 (v3 + 1) μ)
set_option maxRecDepth 100000 in
set_option maxHeartbeats 4000000 in
theorem jMo_isEdge_2b {X : Cx} {l : Launch} {G : Gx} {y : Ly} {a : Nat} (hL : LyMo y a ) (hX : Ok X l G prog_13_method_103_code 4 (some .boolean) "SaltFiguresModel") (v1 : Int32) (v2 : Int32)  {kb2 : Int32 → Mu → Option (Int32 × Mu)}  (hk2 : ∀ (v3 : Int32) (μ : Mu), J X G 4 3 y (emy y) rvI tpT 2 [(0, .ref (G.1 + a)), (1, .int v1), (2, .int v2), (3, .int v3)] [] (μ, y) (kb2 v3 μ)) (v3 : Int32)  (μ : Mu) : J X G 4 3 y (emy y) rvI tpT 2 [(0, .ref (G.1 + a)), (1, .int v1), (2, .int v2), (3, .int v3)] [] (μ, y) (Mo_isEdge_2b a  kb2 v1 v2 v3  μ) := by
  unfold Mo_isEdge_2b
  refine J_iload_n (k0 := 3) (pc := 2) 3 hX (by decide +kernel) rfl rfl ?_
  refine J_aload_n (k0 := 0) (pc := 3) 0 hX (by decide +kernel) rfl rfl ?_
  refine J_gF (pc := 4) hX (by decide +kernel) fl_Mo_432 hL.1 rfl (fun x1 => ?_)
  refine J_icmp_ge (pc := 7) (off := 41) (tgt := 48) hX (by decide +kernel) (by decide +kernel) (fun _ => ?_) (fun _ => ?_)
  · refine J_iconst (pc := 48) (n := 1) (v := 1) hX (by decide +kernel) (by decide +kernel) ?_
    exact J_zret (pc := 49) hX (by decide +kernel) rfl (by decide +kernel) trivial
  · refine J_iload_n (k0 := 3) (pc := 10) 3 hX (by decide +kernel) rfl rfl ?_
    refine J_iload_n (k0 := 1) (pc := 11) 1 hX (by decide +kernel) rfl rfl ?_
    refine J_icmp_eq (pc := 12) (off := 30) (tgt := 42) hX (by decide +kernel) (by decide +kernel) (fun _ => ?_) (fun _ => ?_)
    · exact J_sub [0, 1, 2, 3] _ rfl (jMo_isEdge_42 hL hX v1 v2 v3 hk2 μ)
    · refine J_iload_n (k0 := 3) (pc := 15) 3 hX (by decide +kernel) rfl rfl ?_
      refine J_iload_n (k0 := 2) (pc := 16) 2 hX (by decide +kernel) rfl rfl ?_
      refine J_icmp_eq (pc := 17) (off := 25) (tgt := 42) hX (by decide +kernel) (by decide +kernel) (fun _ => ?_) (fun _ => ?_)
      · exact J_sub [0, 1, 2, 3] _ rfl (jMo_isEdge_42 hL hX v1 v2 v3 hk2 μ)
      · refine J_aload_n (k0 := 0) (pc := 20) 0 hX (by decide +kernel) rfl rfl ?_
        refine J_iload_n (k0 := 1) (pc := 21) 1 hX (by decide +kernel) rfl rfl ?_
        refine J_iload_n (k0 := 2) (pc := 22) 2 hX (by decide +kernel) rfl rfl ?_
        refine J_iload_n (k0 := 3) (pc := 23) 3 hX (by decide +kernel) rfl rfl ?_
        refine J_cVi (pc := 24) (idx := 435) [.int v1, .int v2, .int v3] hX (by decide +kernel) (mq mt_8 114 (by decide +kernel)) mv_Mo_areaOf hL.1 rfl rfl (Nat.le_of_ble_eq_true rfl) (Nat.le_of_ble_eq_true rfl) (c_Mo_areaOf hL v1 v2 v3 μ) (fun x3 μ2 => ?_)
        refine J_if_gt (pc := 27) (off := 15) (tgt := 42) hX (by decide +kernel) (by decide +kernel) (fun _ => ?_) (fun _ => ?_)
        · exact J_sub [0, 1, 2, 3] _ rfl (jMo_isEdge_42 hL hX v1 v2 v3 hk2 μ2)
        · refine J_aload_n (k0 := 0) (pc := 30) 0 hX (by decide +kernel) rfl rfl ?_
          refine J_iload_n (k0 := 1) (pc := 31) 1 hX (by decide +kernel) rfl rfl ?_
          refine J_iload_n (k0 := 2) (pc := 32) 2 hX (by decide +kernel) rfl rfl ?_
          refine J_iload_n (k0 := 3) (pc := 33) 3 hX (by decide +kernel) rfl rfl ?_
          refine J_cVi (pc := 34) (idx := 438) [.int v1, .int v2, .int v3] hX (by decide +kernel) (mq mt_8 126 (by decide +kernel)) mv_Mo_isBetween hL.1 rfl rfl (Nat.le_of_ble_eq_true rfl) (Nat.le_of_ble_eq_true rfl) (c_Mo_isBetween hL v1 v2 v3 μ2) (fun x5 μ4 => ?_)
          refine J_if_ne (pc := 37) (off := 5) (tgt := 42) hX (by decide +kernel) (by decide +kernel) (fun _ => ?_) (fun _ => ?_)
          · exact J_sub [0, 1, 2, 3] _ rfl (jMo_isEdge_42 hL hX v1 v2 v3 hk2 μ4)
          · refine J_iconst (pc := 40) (n := 0) (v := 0) hX (by decide +kernel) (by decide +kernel) ?_
            exact J_zret (pc := 41) hX (by decide +kernel) rfl (by decide +kernel) trivial
set_option maxRecDepth 100000 in
set_option maxHeartbeats 4000000 in
theorem jMo_isEdge_2 {X : Cx} {l : Launch} {G : Gx} {y : Ly} {a : Nat} (hL : LyMo y a ) (hX : Ok X l G prog_13_method_103_code 4 (some .boolean) "SaltFiguresModel") (v1 : Int32) (v2 : Int32)   : ∀ (fu : Nat) (v3 : Int32) (μ : Mu), J X G 4 3 y (emy y) rvI tpT 2 [(0, .ref (G.1 + a)), (1, .int v1), (2, .int v2), (3, .int v3)] [] (μ, y) (Mo_isEdge_2 a  v1 v2 fu v3 μ) := by
  intro fu
  induction fu with
  | zero => intros; exact J_none
  | succ fu ih => intro v3 μ; exact jMo_isEdge_2b hL hX v1 v2  ih v3 μ
set_option maxRecDepth 100000 in
set_option maxHeartbeats 4000000 in
theorem jMo_isEdge {X : Cx} {l : Launch} {G : Gx} {y : Ly} {a : Nat} (hL : LyMo y a ) (hX : Ok X l G prog_13_method_103_code 4 (some .boolean) "SaltFiguresModel") (v1 : Int32) (v2 : Int32) (μ : Mu) : J X G 4 3 y (emy y) rvI tpT 0 [(0, .ref (G.1 + a)), (1, .int v1), (2, .int v2)] [] (μ, y) (Mo_isEdge a v1 v2 μ) := by
  unfold Mo_isEdge
  refine J_iconst (pc := 0) (n := 0) (v := 0) hX (by decide +kernel) (by decide +kernel) ?_
  refine J_istore_n (k0 := 3) (pc := 1) [(3, .int 0), (0, .ref (G.1 + a)), (1, .int v1), (2, .int v2)] hX (by decide +kernel) rfl (by decide) rfl ?_
  exact J_sub [1, 2, 3, 0] _ rfl (jMo_isEdge_2 hL hX v1 v2 FU 0 μ)
set_option maxRecDepth 100000 in
set_option maxHeartbeats 4000000 in
theorem c_Mo_isEdge {l : Launch} {G : Gx} {y : Ly} {a : Nat} (hL : LyMo y a ) (v1 : Int32) (v2 : Int32) (μ : Mu) : Cn l G ⟨"SaltFiguresModel", "isEdge", "(II)Z"⟩ prog_13_method_103_code 4 (some .boolean) 3 [.ref (G.1 + a), .int v1, .int v2] (μ, y) (emy y) rvI tpT (Mo_isEdge a v1 v2 μ) := cn_of (by decide +kernel) (Nat.le_of_ble_eq_true rfl) (fun _ _ _ => ⟨List.prefix_refl _, trivial⟩) (fun X hX _ => jMo_isEdge hL hX v1 v2 μ)

def Mo_hull_104 (a : Nat) (kb24 : Int32 → Int32 → Int32 → Mu → Option (Int32 × Mu)) (kb36 : Int32 → Int32 → Int32 → Mu → Option (Int32 × Mu))  (v1 : Int32) (v2 : Int32) (v3 : Int32) (v4 : Int32) (v5 : Int32)  (μ : Mu) : Option (Int32 × Mu) := kb36 v2 v3 (v5 + 1) μ
def Mo_hull_36b (a : Nat) (kb24 : Int32 → Int32 → Int32 → Mu → Option (Int32 × Mu)) (kb36 : Int32 → Int32 → Int32 → Mu → Option (Int32 × Mu)) (v1 : Int32) (v4 : Int32) (v2 : Int32) (v3 : Int32) (v5 : Int32)  (μ : Mu) : Option (Int32 × Mu) := gF μ a 42 (fun x1 => (if x1 ≤ v5 then kb24 v2 v3 (v4 + 1) μ else (if v4 = v5 then Mo_hull_104 a kb24 kb36 v1 v2 v3 v4 v5 μ else cl (Mo_isEdge a v4 v5 μ) (fun x3 μ2 => (if x3 = 0 then Mo_hull_104 a kb24 kb36 v1 v2 v3 v4 v5 μ2 else ldA μ2 (a + 22) 8 v4 (fun x4 => ldA μ2 (a + 23) 8 v5 (fun x5 => ldA μ2 (a + 22) 8 v5 (fun x6 => ldA μ2 (a + 23) 8 v4 (fun x7 => Mo_hull_104 a kb24 kb36 v1 (v2 + 1) ((v3 + (x4 * x5)) - (x6 * x7)) v4 v5 μ2)))))))))
def Mo_hull_36 (a : Nat) (kb24 : Int32 → Int32 → Int32 → Mu → Option (Int32 × Mu)) (v1 : Int32) (v4 : Int32) (fu : Nat) : Int32 → Int32 → Int32 → Mu → Option (Int32 × Mu) := lp (fun kb => Mo_hull_36b a kb24 kb v1 v4) (fun _ _ _ _ => none) fu
def Mo_hull_24b (a : Nat)  (kb24 : Int32 → Int32 → Int32 → Mu → Option (Int32 × Mu)) (v1 : Int32) (v2 : Int32) (v3 : Int32) (v4 : Int32)  (μ : Mu) : Option (Int32 × Mu) := gF μ a 42 (fun x1 => (if x1 ≤ v4 then (if v1 = 1 then some (v3, μ) else gF μ a 42 (fun x2 => (if x2 = 1 then some (1, μ) else some (v2, μ)))) else Mo_hull_36 a kb24 v1 v4 FU v2 v3 0 μ))
def Mo_hull_24 (a : Nat)  (v1 : Int32) (fu : Nat) : Int32 → Int32 → Int32 → Mu → Option (Int32 × Mu) := lp (fun kb => Mo_hull_24b a  kb v1) (fun _ _ _ _ => none) fu
def Mo_hull (a : Nat) (v1 : Int32) (μ : Mu) : Option (Int32 × Mu) := pF μ a 0 0 (fun μ1 => cl (Mo_isIn a v1 0 1 μ1) (fun x3 μ2 => (if x3 = 0 then some ((-1), μ2) else Mo_hull_24 a v1 FU 0 0 0 μ2)))
set_option maxRecDepth 100000 in
set_option maxHeartbeats 4000000 in
theorem jMo_hull_104 {X : Cx} {l : Launch} {G : Gx} {y : Ly} {a : Nat} (hL : LyMo y a ) (hX : Ok X l G prog_13_method_104_code 6 (some .int) "SaltFiguresModel")  (v1 : Int32) (v2 : Int32) (v3 : Int32) (v4 : Int32) (v5 : Int32)  {kb24 : Int32 → Int32 → Int32 → Mu → Option (Int32 × Mu)} {kb36 : Int32 → Int32 → Int32 → Mu → Option (Int32 × Mu)} (hk24 : ∀ (v2 : Int32) (v3 : Int32) (v4 : Int32) (μ : Mu), J X G 6 4 y (emy y) rvI tpT 24 [(0, .ref (G.1 + a)), (1, .int v1), (2, .int v2), (3, .int v3), (4, .int v4)] [] (μ, y) (kb24 v2 v3 v4 μ)) (hk36 : ∀ (v2 : Int32) (v3 : Int32) (v5 : Int32) (μ : Mu), J X G 6 4 y (emy y) rvI tpT 36 [(0, .ref (G.1 + a)), (1, .int v1), (2, .int v2), (3, .int v3), (4, .int v4), (5, .int v5)] [] (μ, y) (kb36 v2 v3 v5 μ)) (μ : Mu) : J X G 6 4 y (emy y) rvI tpT 104 [(0, .ref (G.1 + a)), (1, .int v1), (2, .int v2), (3, .int v3), (4, .int v4), (5, .int v5)] [] (μ, y) (Mo_hull_104 a kb24 kb36  v1 v2 v3 v4 v5  μ) := by
  unfold Mo_hull_104
  refine J_iinc (pc := 104) (n := 1) 5 [(5, .int (v5 + 1)), (0, .ref (G.1 + a)), (1, .int v1), (2, .int v2), (3, .int v3), (4, .int v4)] hX (by decide +kernel) rfl rfl (by decide) rfl ?_
  refine J_goto (pc := 107) (off := -71) (tgt := 36) hX (by decide +kernel) (by decide +kernel) ?_
  exact J_sub [1, 2, 3, 4, 5, 0] _ rfl (hk36 v2 v3 (v5 + 1) μ)
set_option maxRecDepth 100000 in
set_option maxHeartbeats 4000000 in
theorem jMo_hull_36b {X : Cx} {l : Launch} {G : Gx} {y : Ly} {a : Nat} (hL : LyMo y a ) (hX : Ok X l G prog_13_method_104_code 6 (some .int) "SaltFiguresModel") (v1 : Int32) (v4 : Int32) {kb24 : Int32 → Int32 → Int32 → Mu → Option (Int32 × Mu)} {kb36 : Int32 → Int32 → Int32 → Mu → Option (Int32 × Mu)} (hk24 : ∀ (v2 : Int32) (v3 : Int32) (v4 : Int32) (μ : Mu), J X G 6 4 y (emy y) rvI tpT 24 [(0, .ref (G.1 + a)), (1, .int v1), (2, .int v2), (3, .int v3), (4, .int v4)] [] (μ, y) (kb24 v2 v3 v4 μ)) (hk36 : ∀ (v2 : Int32) (v3 : Int32) (v5 : Int32) (μ : Mu), J X G 6 4 y (emy y) rvI tpT 36 [(0, .ref (G.1 + a)), (1, .int v1), (2, .int v2), (3, .int v3), (4, .int v4), (5, .int v5)] [] (μ, y) (kb36 v2 v3 v5 μ)) (v2 : Int32) (v3 : Int32) (v5 : Int32)  (μ : Mu) : J X G 6 4 y (emy y) rvI tpT 36 [(0, .ref (G.1 + a)), (1, .int v1), (2, .int v2), (3, .int v3), (4, .int v4), (5, .int v5)] [] (μ, y) (Mo_hull_36b a kb24 kb36 v1 v4 v2 v3 v5  μ) := by
  unfold Mo_hull_36b
  refine J_iload (pc := 36) 5 hX (by decide +kernel) rfl ?_
  refine J_aload_n (k0 := 0) (pc := 38) 0 hX (by decide +kernel) rfl rfl ?_
  refine J_gF (pc := 39) hX (by decide +kernel) fl_Mo_432 hL.1 rfl (fun x1 => ?_)
  refine J_icmp_ge (pc := 42) (off := 68) (tgt := 110) hX (by decide +kernel) (by decide +kernel) (fun _ => ?_) (fun _ => ?_)
  · refine J_iinc (pc := 110) (n := 1) 4 [(4, .int (v4 + 1)), (0, .ref (G.1 + a)), (1, .int v1), (2, .int v2), (3, .int v3), (5, .int v5)] hX (by decide +kernel) rfl rfl (by decide) rfl ?_
    refine J_goto (pc := 113) (off := -89) (tgt := 24) hX (by decide +kernel) (by decide +kernel) ?_
    exact J_sub [1, 2, 3, 4, 0] _ rfl (hk24 v2 v3 (v4 + 1) μ)
  · refine J_iload (pc := 45) 4 hX (by decide +kernel) rfl ?_
    refine J_iload (pc := 47) 5 hX (by decide +kernel) rfl ?_
    refine J_icmp_eq (pc := 49) (off := 55) (tgt := 104) hX (by decide +kernel) (by decide +kernel) (fun _ => ?_) (fun _ => ?_)
    · exact J_sub [0, 1, 2, 3, 4, 5] _ rfl (jMo_hull_104 hL hX v1 v2 v3 v4 v5 hk24 hk36 μ)
    · refine J_aload_n (k0 := 0) (pc := 52) 0 hX (by decide +kernel) rfl rfl ?_
      refine J_iload (pc := 53) 4 hX (by decide +kernel) rfl ?_
      refine J_iload (pc := 55) 5 hX (by decide +kernel) rfl ?_
      refine J_cVi (pc := 57) (idx := 441) [.int v4, .int v5] hX (by decide +kernel) (mq mt_8 122 (by decide +kernel)) mv_Mo_isEdge hL.1 rfl rfl (Nat.le_of_ble_eq_true rfl) (Nat.le_of_ble_eq_true rfl) (c_Mo_isEdge hL v4 v5 μ) (fun x3 μ2 => ?_)
      refine J_if_ne (pc := 60) (off := 6) (tgt := 66) hX (by decide +kernel) (by decide +kernel) (fun _ => ?_) (fun _ => ?_)
      · refine J_iload_n (k0 := 2) (pc := 66) 2 hX (by decide +kernel) rfl rfl ?_
        refine J_iconst (pc := 67) (n := 1) (v := 1) hX (by decide +kernel) (by decide +kernel) ?_
        refine J_iadd (pc := 68) hX (by decide +kernel) ?_
        refine J_istore_n (k0 := 2) (pc := 69) [(2, .int (v2 + 1)), (0, .ref (G.1 + a)), (1, .int v1), (3, .int v3), (4, .int v4), (5, .int v5)] hX (by decide +kernel) rfl (by decide) rfl ?_
        refine J_iload_n (k0 := 3) (pc := 70) 3 hX (by decide +kernel) rfl rfl ?_
        refine J_aload_n (k0 := 0) (pc := 71) 1 hX (by decide +kernel) rfl rfl ?_
        refine J_gr (pc := 72) hX (by decide +kernel) fl_Mo_77 hL.1 rfl hL.2.2.2.2.2.2.2.2.2.2.2.2.2.2.2.2.2.2.2.2.2.2.1.1 ?_
        refine J_iload (pc := 75) 4 hX (by decide +kernel) rfl ?_
        refine J_ldA (pc := 77) hX (by decide +kernel) hL.2.2.2.2.2.2.2.2.2.2.2.2.2.2.2.2.2.2.2.2.2.2.1.2 (fun x4 => ?_)
        refine J_aload_n (k0 := 0) (pc := 78) 1 hX (by decide +kernel) rfl rfl ?_
        refine J_gr (pc := 79) hX (by decide +kernel) fl_Mo_80 hL.1 rfl hL.2.2.2.2.2.2.2.2.2.2.2.2.2.2.2.2.2.2.2.2.2.2.2.1.1 ?_
        refine J_iload (pc := 82) 5 hX (by decide +kernel) rfl ?_
        refine J_ldA (pc := 84) hX (by decide +kernel) hL.2.2.2.2.2.2.2.2.2.2.2.2.2.2.2.2.2.2.2.2.2.2.2.1.2 (fun x5 => ?_)
        refine J_imul (pc := 85) hX (by decide +kernel) ?_
        refine J_iadd (pc := 86) hX (by decide +kernel) ?_
        refine J_aload_n (k0 := 0) (pc := 87) 1 hX (by decide +kernel) rfl rfl ?_
        refine J_gr (pc := 88) hX (by decide +kernel) fl_Mo_77 hL.1 rfl hL.2.2.2.2.2.2.2.2.2.2.2.2.2.2.2.2.2.2.2.2.2.2.1.1 ?_
        refine J_iload (pc := 91) 5 hX (by decide +kernel) rfl ?_
        refine J_ldA (pc := 93) hX (by decide +kernel) hL.2.2.2.2.2.2.2.2.2.2.2.2.2.2.2.2.2.2.2.2.2.2.1.2 (fun x6 => ?_)
        refine J_aload_n (k0 := 0) (pc := 94) 1 hX (by decide +kernel) rfl rfl ?_
        refine J_gr (pc := 95) hX (by decide +kernel) fl_Mo_80 hL.1 rfl hL.2.2.2.2.2.2.2.2.2.2.2.2.2.2.2.2.2.2.2.2.2.2.2.1.1 ?_
        refine J_iload (pc := 98) 4 hX (by decide +kernel) rfl ?_
        refine J_ldA (pc := 100) hX (by decide +kernel) hL.2.2.2.2.2.2.2.2.2.2.2.2.2.2.2.2.2.2.2.2.2.2.2.1.2 (fun x7 => ?_)
        refine J_imul (pc := 101) hX (by decide +kernel) ?_
        refine J_isub (pc := 102) hX (by decide +kernel) ?_
        refine J_istore_n (k0 := 3) (pc := 103) [(3, .int ((v3 + (x4 * x5)) - (x6 * x7))), (2, .int (v2 + 1)), (0, .ref (G.1 + a)), (1, .int v1), (4, .int v4), (5, .int v5)] hX (by decide +kernel) rfl (by decide) rfl ?_
        exact J_sub [2, 3, 1, 0, 4, 5] _ rfl (jMo_hull_104 hL hX v1 (v2 + 1) ((v3 + (x4 * x5)) - (x6 * x7)) v4 v5 hk24 hk36 μ2)
      · refine J_goto (pc := 63) (off := 41) (tgt := 104) hX (by decide +kernel) (by decide +kernel) ?_
        exact J_sub [0, 1, 2, 3, 4, 5] _ rfl (jMo_hull_104 hL hX v1 v2 v3 v4 v5 hk24 hk36 μ2)
set_option maxRecDepth 100000 in
set_option maxHeartbeats 4000000 in
theorem jMo_hull_36 {X : Cx} {l : Launch} {G : Gx} {y : Ly} {a : Nat} (hL : LyMo y a ) (hX : Ok X l G prog_13_method_104_code 6 (some .int) "SaltFiguresModel") (v1 : Int32) (v4 : Int32) {kb24 : Int32 → Int32 → Int32 → Mu → Option (Int32 × Mu)} (hk24 : ∀ (v2 : Int32) (v3 : Int32) (v4 : Int32) (μ : Mu), J X G 6 4 y (emy y) rvI tpT 24 [(0, .ref (G.1 + a)), (1, .int v1), (2, .int v2), (3, .int v3), (4, .int v4)] [] (μ, y) (kb24 v2 v3 v4 μ)) : ∀ (fu : Nat) (v2 : Int32) (v3 : Int32) (v5 : Int32) (μ : Mu), J X G 6 4 y (emy y) rvI tpT 36 [(0, .ref (G.1 + a)), (1, .int v1), (2, .int v2), (3, .int v3), (4, .int v4), (5, .int v5)] [] (μ, y) (Mo_hull_36 a kb24 v1 v4 fu v2 v3 v5 μ) := by
  intro fu
  induction fu with
  | zero => intros; exact J_none
  | succ fu ih => intro v2 v3 v5 μ; exact jMo_hull_36b hL hX v1 v4 hk24 ih v2 v3 v5 μ
set_option maxRecDepth 100000 in
set_option maxHeartbeats 4000000 in
theorem jMo_hull_24b {X : Cx} {l : Launch} {G : Gx} {y : Ly} {a : Nat} (hL : LyMo y a ) (hX : Ok X l G prog_13_method_104_code 6 (some .int) "SaltFiguresModel") (v1 : Int32)  {kb24 : Int32 → Int32 → Int32 → Mu → Option (Int32 × Mu)}  (hk24 : ∀ (v2 : Int32) (v3 : Int32) (v4 : Int32) (μ : Mu), J X G 6 4 y (emy y) rvI tpT 24 [(0, .ref (G.1 + a)), (1, .int v1), (2, .int v2), (3, .int v3), (4, .int v4)] [] (μ, y) (kb24 v2 v3 v4 μ)) (v2 : Int32) (v3 : Int32) (v4 : Int32)  (μ : Mu) : J X G 6 4 y (emy y) rvI tpT 24 [(0, .ref (G.1 + a)), (1, .int v1), (2, .int v2), (3, .int v3), (4, .int v4)] [] (μ, y) (Mo_hull_24b a  kb24 v1 v2 v3 v4  μ) := by
  unfold Mo_hull_24b
  refine J_iload (pc := 24) 4 hX (by decide +kernel) rfl ?_
  refine J_aload_n (k0 := 0) (pc := 26) 0 hX (by decide +kernel) rfl rfl ?_
  refine J_gF (pc := 27) hX (by decide +kernel) fl_Mo_432 hL.1 rfl (fun x1 => ?_)
  refine J_icmp_ge (pc := 30) (off := 86) (tgt := 116) hX (by decide +kernel) (by decide +kernel) (fun _ => ?_) (fun _ => ?_)
  · refine J_iload_n (k0 := 1) (pc := 116) 1 hX (by decide +kernel) rfl rfl ?_
    refine J_iconst (pc := 117) (n := 1) (v := 1) hX (by decide +kernel) (by decide +kernel) ?_
    refine J_icmp_ne (pc := 118) (off := 5) (tgt := 123) hX (by decide +kernel) (by decide +kernel) (fun _ => ?_) (fun _ => ?_)
    · refine J_aload_n (k0 := 0) (pc := 123) 0 hX (by decide +kernel) rfl rfl ?_
      refine J_gF (pc := 124) hX (by decide +kernel) fl_Mo_432 hL.1 rfl (fun x2 => ?_)
      refine J_iconst (pc := 127) (n := 1) (v := 1) hX (by decide +kernel) (by decide +kernel) ?_
      refine J_icmp_ne (pc := 128) (off := 7) (tgt := 135) hX (by decide +kernel) (by decide +kernel) (fun _ => ?_) (fun _ => ?_)
      · refine J_iload_n (k0 := 2) (pc := 135) 2 hX (by decide +kernel) rfl rfl ?_
        exact J_iret (pc := 136) hX (by decide +kernel) rfl trivial
      · refine J_iconst (pc := 131) (n := 1) (v := 1) hX (by decide +kernel) (by decide +kernel) ?_
        refine J_goto (pc := 132) (off := 4) (tgt := 136) hX (by decide +kernel) (by decide +kernel) ?_
        exact J_iret (pc := 136) hX (by decide +kernel) rfl trivial
    · refine J_iload_n (k0 := 3) (pc := 121) 3 hX (by decide +kernel) rfl rfl ?_
      exact J_iret (pc := 122) hX (by decide +kernel) rfl trivial
  · refine J_iconst (pc := 33) (n := 0) (v := 0) hX (by decide +kernel) (by decide +kernel) ?_
    refine J_istore (pc := 34) [(5, .int 0), (0, .ref (G.1 + a)), (1, .int v1), (2, .int v2), (3, .int v3), (4, .int v4)] hX (by decide +kernel) (by decide) rfl ?_
    exact J_sub [1, 2, 3, 4, 5, 0] _ rfl (jMo_hull_36 hL hX v1 v4 hk24 FU v2 v3 0 μ)
set_option maxRecDepth 100000 in
set_option maxHeartbeats 4000000 in
theorem jMo_hull_24 {X : Cx} {l : Launch} {G : Gx} {y : Ly} {a : Nat} (hL : LyMo y a ) (hX : Ok X l G prog_13_method_104_code 6 (some .int) "SaltFiguresModel") (v1 : Int32)   : ∀ (fu : Nat) (v2 : Int32) (v3 : Int32) (v4 : Int32) (μ : Mu), J X G 6 4 y (emy y) rvI tpT 24 [(0, .ref (G.1 + a)), (1, .int v1), (2, .int v2), (3, .int v3), (4, .int v4)] [] (μ, y) (Mo_hull_24 a  v1 fu v2 v3 v4 μ) := by
  intro fu
  induction fu with
  | zero => intros; exact J_none
  | succ fu ih => intro v2 v3 v4 μ; exact jMo_hull_24b hL hX v1  ih v2 v3 v4 μ
set_option maxRecDepth 100000 in
set_option maxHeartbeats 4000000 in
theorem jMo_hull {X : Cx} {l : Launch} {G : Gx} {y : Ly} {a : Nat} (hL : LyMo y a ) (hX : Ok X l G prog_13_method_104_code 6 (some .int) "SaltFiguresModel") (v1 : Int32) (μ : Mu) : J X G 6 4 y (emy y) rvI tpT 0 [(0, .ref (G.1 + a)), (1, .int v1)] [] (μ, y) (Mo_hull a v1 μ) := by
  unfold Mo_hull
  refine J_aload_n (k0 := 0) (pc := 0) 0 hX (by decide +kernel) rfl rfl ?_
  refine J_iconst (pc := 1) (n := 0) (v := 0) hX (by decide +kernel) (by decide +kernel) ?_
  refine J_pF (pc := 2) hX (by decide +kernel) fl_Mo_131 hL.1 rfl (fun μ1 => ?_)
  refine J_aload_n (k0 := 0) (pc := 5) 0 hX (by decide +kernel) rfl rfl ?_
  refine J_iload_n (k0 := 1) (pc := 6) 1 hX (by decide +kernel) rfl rfl ?_
  refine J_iconst (pc := 7) (n := 0) (v := 0) hX (by decide +kernel) (by decide +kernel) ?_
  refine J_iconst (pc := 8) (n := 1) (v := 1) hX (by decide +kernel) (by decide +kernel) ?_
  refine J_cVi (pc := 9) (idx := 154) [.int v1, .int 0, .int 1] hX (by decide +kernel) (mq mt_6 226 (by decide +kernel)) mv_Mo_isIn hL.1 rfl rfl (Nat.le_of_ble_eq_true rfl) (Nat.le_of_ble_eq_true rfl) (c_Mo_isIn hL v1 0 1 μ1) (fun x3 μ2 => ?_)
  refine J_if_ne (pc := 12) (off := 5) (tgt := 17) hX (by decide +kernel) (by decide +kernel) (fun _ => ?_) (fun _ => ?_)
  · refine J_iconst (pc := 17) (n := 0) (v := 0) hX (by decide +kernel) (by decide +kernel) ?_
    refine J_istore_n (k0 := 2) (pc := 18) [(2, .int 0), (0, .ref (G.1 + a)), (1, .int v1)] hX (by decide +kernel) rfl (by decide) rfl ?_
    refine J_iconst (pc := 19) (n := 0) (v := 0) hX (by decide +kernel) (by decide +kernel) ?_
    refine J_istore_n (k0 := 3) (pc := 20) [(3, .int 0), (2, .int 0), (0, .ref (G.1 + a)), (1, .int v1)] hX (by decide +kernel) rfl (by decide) rfl ?_
    refine J_iconst (pc := 21) (n := 0) (v := 0) hX (by decide +kernel) (by decide +kernel) ?_
    refine J_istore (pc := 22) [(4, .int 0), (3, .int 0), (2, .int 0), (0, .ref (G.1 + a)), (1, .int v1)] hX (by decide +kernel) (by decide) rfl ?_
    exact J_sub [3, 4, 2, 1, 0] _ rfl (jMo_hull_24 hL hX v1 FU 0 0 0 μ2)
  · refine J_iconst (pc := 15) (n := -1) (v := (-1)) hX (by decide +kernel) (by decide +kernel) ?_
    exact J_iret (pc := 16) hX (by decide +kernel) rfl trivial
set_option maxRecDepth 100000 in
set_option maxHeartbeats 4000000 in
theorem c_Mo_hull {l : Launch} {G : Gx} {y : Ly} {a : Nat} (hL : LyMo y a ) (v1 : Int32) (μ : Mu) : Cn l G ⟨"SaltFiguresModel", "hull", "(I)I"⟩ prog_13_method_104_code 6 (some .int) 4 [.ref (G.1 + a), .int v1] (μ, y) (emy y) rvI tpT (Mo_hull a v1 μ) := cn_of (by decide +kernel) (Nat.le_of_ble_eq_true rfl) (fun _ _ _ => ⟨List.prefix_refl _, trivial⟩) (fun X hX _ => jMo_hull hL hX v1 μ)

def Mo_keeps (a : Nat) (v1 : Int32) (μ : Mu) : Option (Int32 × Mu) := gF μ a 67 (fun x1 => pF μ a 67 (x1 + 1) (fun μ2 => gF μ2 a 65 (fun x3 => (if x3 = 0 then gF μ2 a 67 (fun x6 => ldA μ2 (a + 39) 2200 (x6 - 1) (fun x7 => some (x7, μ2))) else gF μ2 a 67 (fun x4 => stA μ2 (a + 39) 2200 (x4 - 1) v1 (fun μ5 => some (v1, μ5)))))))
set_option maxRecDepth 100000 in
set_option maxHeartbeats 4000000 in
theorem jMo_keeps {X : Cx} {l : Launch} {G : Gx} {y : Ly} {a : Nat} (hL : LyMo y a ) (hX : Ok X l G prog_13_method_131_code 2 (some .int) "SaltFiguresModel") (v1 : Int32) (μ : Mu) : J X G 2 1 y (emy y) rvI tpT 0 [(0, .ref (G.1 + a)), (1, .int v1)] [] (μ, y) (Mo_keeps a v1 μ) := by
  unfold Mo_keeps
  refine J_aload_n (k0 := 0) (pc := 0) 0 hX (by decide +kernel) rfl rfl ?_
  refine J_aload_n (k0 := 0) (pc := 1) 0 hX (by decide +kernel) rfl rfl ?_
  refine J_gF (pc := 2) hX (by decide +kernel) fl_Mo_492 hL.1 rfl (fun x1 => ?_)
  refine J_iconst (pc := 5) (n := 1) (v := 1) hX (by decide +kernel) (by decide +kernel) ?_
  refine J_iadd (pc := 6) hX (by decide +kernel) ?_
  refine J_pF (pc := 7) hX (by decide +kernel) fl_Mo_492 hL.1 rfl (fun μ2 => ?_)
  refine J_aload_n (k0 := 0) (pc := 10) 0 hX (by decide +kernel) rfl rfl ?_
  refine J_gF (pc := 11) hX (by decide +kernel) fl_Mo_495 hL.1 rfl (fun x3 => ?_)
  refine J_if_ne (pc := 14) (off := 15) (tgt := 29) hX (by decide +kernel) (by decide +kernel) (fun _ => ?_) (fun _ => ?_)
  · refine J_aload_n (k0 := 0) (pc := 29) 0 hX (by decide +kernel) rfl rfl ?_
    refine J_gr (pc := 30) hX (by decide +kernel) fl_Mo_128 hL.1 rfl hL.2.2.2.2.2.2.2.2.2.2.2.2.2.2.2.2.2.2.2.2.2.2.2.2.2.2.2.2.2.2.2.2.2.2.2.2.2.2.2.1.1 ?_
    refine J_aload_n (k0 := 0) (pc := 33) 0 hX (by decide +kernel) rfl rfl ?_
    refine J_gF (pc := 34) hX (by decide +kernel) fl_Mo_492 hL.1 rfl (fun x4 => ?_)
    refine J_iconst (pc := 37) (n := 1) (v := 1) hX (by decide +kernel) (by decide +kernel) ?_
    refine J_isub (pc := 38) hX (by decide +kernel) ?_
    refine J_iload_n (k0 := 1) (pc := 39) 1 hX (by decide +kernel) rfl rfl ?_
    refine J_stA (pc := 40) hX (by decide +kernel) hL.2.2.2.2.2.2.2.2.2.2.2.2.2.2.2.2.2.2.2.2.2.2.2.2.2.2.2.2.2.2.2.2.2.2.2.2.2.2.2.1.2 (fun μ5 => ?_)
    refine J_iload_n (k0 := 1) (pc := 41) 1 hX (by decide +kernel) rfl rfl ?_
    exact J_iret (pc := 42) hX (by decide +kernel) rfl trivial
  · refine J_aload_n (k0 := 0) (pc := 17) 0 hX (by decide +kernel) rfl rfl ?_
    refine J_gr (pc := 18) hX (by decide +kernel) fl_Mo_128 hL.1 rfl hL.2.2.2.2.2.2.2.2.2.2.2.2.2.2.2.2.2.2.2.2.2.2.2.2.2.2.2.2.2.2.2.2.2.2.2.2.2.2.2.1.1 ?_
    refine J_aload_n (k0 := 0) (pc := 21) 0 hX (by decide +kernel) rfl rfl ?_
    refine J_gF (pc := 22) hX (by decide +kernel) fl_Mo_492 hL.1 rfl (fun x6 => ?_)
    refine J_iconst (pc := 25) (n := 1) (v := 1) hX (by decide +kernel) (by decide +kernel) ?_
    refine J_isub (pc := 26) hX (by decide +kernel) ?_
    refine J_ldA (pc := 27) hX (by decide +kernel) hL.2.2.2.2.2.2.2.2.2.2.2.2.2.2.2.2.2.2.2.2.2.2.2.2.2.2.2.2.2.2.2.2.2.2.2.2.2.2.2.1.2 (fun x7 => ?_)
    exact J_iret (pc := 28) hX (by decide +kernel) rfl trivial
set_option maxRecDepth 100000 in
set_option maxHeartbeats 4000000 in
theorem c_Mo_keeps {l : Launch} {G : Gx} {y : Ly} {a : Nat} (hL : LyMo y a ) (v1 : Int32) (μ : Mu) : Cn l G ⟨"SaltFiguresModel", "keeps", "(I)I"⟩ prog_13_method_131_code 2 (some .int) 1 [.ref (G.1 + a), .int v1] (μ, y) (emy y) rvI tpT (Mo_keeps a v1 μ) := cn_of (by decide +kernel) (Nat.le_of_ble_eq_true rfl) (fun _ _ _ => ⟨List.prefix_refl _, trivial⟩) (fun X hX _ => jMo_keeps hL hX v1 μ)

def Mo_keepsTold_382b (a : Nat)  (kb382 : Int32 → Mu → Option (Unit × Mu))  (v1 : Int32)  (μ : Mu) : Option (Unit × Mu) := (if 20 ≤ v1 then some ((), μ) else ldA μ (a + 27) 20 v1 (fun x1 => cl (Mo_keeps a x1 μ) (fun x3 μ2 => stA μ2 (a + 27) 20 v1 x3 (fun μ4 => kb382 (v1 + 1) μ4))))
def Mo_keepsTold_382 (a : Nat)   (fu : Nat) : Int32 → Mu → Option (Unit × Mu) := lp (fun kb => Mo_keepsTold_382b a  kb ) (fun _ _ => none) fu
def Mo_keepsTold_320b (a : Nat)  (kb320 : Int32 → Mu → Option (Unit × Mu))  (v1 : Int32)  (μ : Mu) : Option (Unit × Mu) := (if 6 ≤ v1 then Mo_keepsTold_382 a FU 0 μ else ldA μ (a + 24) 6 v1 (fun x1 => cl (Mo_keeps a x1 μ) (fun x3 μ2 => stA μ2 (a + 24) 6 v1 x3 (fun μ4 => ldA μ4 (a + 29) 6 v1 (fun x5 => cl (Mo_keeps a x5 μ4) (fun x7 μ6 => stA μ6 (a + 29) 6 v1 x7 (fun μ8 => ldA μ8 (a + 32) 6 v1 (fun x9 => cl (Mo_keeps a x9 μ8) (fun x11 μ10 => stA μ10 (a + 32) 6 v1 x11 (fun μ12 => kb320 (v1 + 1) μ12))))))))))
def Mo_keepsTold_320 (a : Nat)   (fu : Nat) : Int32 → Mu → Option (Unit × Mu) := lp (fun kb => Mo_keepsTold_320b a  kb ) (fun _ _ => none) fu
def Mo_keepsTold_226b (a : Nat)  (kb226 : Int32 → Mu → Option (Unit × Mu))  (v1 : Int32)  (μ : Mu) : Option (Unit × Mu) := (if 8 ≤ v1 then Mo_keepsTold_320 a FU 0 μ else ldA μ (a + 22) 8 v1 (fun x1 => cl (Mo_keeps a x1 μ) (fun x3 μ2 => stA μ2 (a + 22) 8 v1 x3 (fun μ4 => ldA μ4 (a + 23) 8 v1 (fun x5 => cl (Mo_keeps a x5 μ4) (fun x7 μ6 => stA μ6 (a + 23) 8 v1 x7 (fun μ8 => ldA μ8 (a + 34) 8 v1 (fun x9 => cl (Mo_keeps a x9 μ8) (fun x11 μ10 => stA μ10 (a + 34) 8 v1 x11 (fun μ12 => ldA μ12 (a + 35) 8 v1 (fun x13 => cl (Mo_keeps a x13 μ12) (fun x15 μ14 => stA μ14 (a + 35) 8 v1 x15 (fun μ16 => ldA μ16 (a + 36) 8 v1 (fun x17 => cl (Mo_keeps a x17 μ16) (fun x19 μ18 => stA μ18 (a + 36) 8 v1 x19 (fun μ20 => kb226 (v1 + 1) μ20))))))))))))))))
def Mo_keepsTold_226 (a : Nat)   (fu : Nat) : Int32 → Mu → Option (Unit × Mu) := lp (fun kb => Mo_keepsTold_226b a  kb ) (fun _ _ => none) fu
def Mo_keepsTold_196b (a : Nat)  (kb196 : Int32 → Mu → Option (Unit × Mu))  (v1 : Int32)  (μ : Mu) : Option (Unit × Mu) := (if 64 ≤ v1 then Mo_keepsTold_226 a FU 0 μ else ldA μ (a + 17) 128 v1 (fun x1 => cl (Mo_keeps a x1 μ) (fun x3 μ2 => stA μ2 (a + 17) 128 v1 x3 (fun μ4 => kb196 (v1 + 1) μ4))))
def Mo_keepsTold_196 (a : Nat)   (fu : Nat) : Int32 → Mu → Option (Unit × Mu) := lp (fun kb => Mo_keepsTold_196b a  kb ) (fun _ _ => none) fu
def Mo_keepsTold_166b (a : Nat)  (kb166 : Int32 → Mu → Option (Unit × Mu))  (v1 : Int32)  (μ : Mu) : Option (Unit × Mu) := (if 16 ≤ v1 then Mo_keepsTold_196 a FU 0 μ else ldA μ (a + 18) 32 v1 (fun x1 => cl (Mo_keeps a x1 μ) (fun x3 μ2 => stA μ2 (a + 18) 32 v1 x3 (fun μ4 => kb166 (v1 + 1) μ4))))
def Mo_keepsTold_166 (a : Nat)   (fu : Nat) : Int32 → Mu → Option (Unit × Mu) := lp (fun kb => Mo_keepsTold_166b a  kb ) (fun _ _ => none) fu
def Mo_keepsTold (a : Nat)  (μ : Mu) : Option (Unit × Mu) := gF μ a 6 (fun x1 => cl (Mo_keeps a x1 μ) (fun x3 μ2 => pF μ2 a 6 x3 (fun μ4 => gF μ4 a 31 (fun x5 => cl (Mo_keeps a x5 μ4) (fun x7 μ6 => pF μ6 a 31 x7 (fun μ8 => gF μ8 a 34 (fun x9 => cl (Mo_keeps a x9 μ8) (fun x11 μ10 => pF μ10 a 34 x11 (fun μ12 => gF μ12 a 36 (fun x13 => cl (Mo_keeps a x13 μ12) (fun x15 μ14 => pF μ14 a 36 x15 (fun μ16 => gF μ16 a 41 (fun x17 => cl (Mo_keeps a x17 μ16) (fun x19 μ18 => pF μ18 a 41 x19 (fun μ20 => gF μ20 a 42 (fun x21 => cl (Mo_keeps a x21 μ20) (fun x23 μ22 => pF μ22 a 42 x23 (fun μ24 => gF μ24 a 45 (fun x25 => cl (Mo_keeps a x25 μ24) (fun x27 μ26 => pF μ26 a 45 x27 (fun μ28 => gF μ28 a 51 (fun x29 => cl (Mo_keeps a x29 μ28) (fun x31 μ30 => pF μ30 a 51 x31 (fun μ32 => gF μ32 a 55 (fun x33 => cl (Mo_keeps a x33 μ32) (fun x35 μ34 => pF μ34 a 55 x35 (fun μ36 => gF μ36 a 58 (fun x37 => cl (Mo_keeps a x37 μ36) (fun x39 μ38 => pF μ38 a 58 x39 (fun μ40 => gF μ40 a 61 (fun x41 => cl (Mo_keeps a x41 μ40) (fun x43 μ42 => pF μ42 a 61 x43 (fun μ44 => ldA μ44 (a + 26) 2 0 (fun x45 => cl (Mo_keeps a x45 μ44) (fun x47 μ46 => stA μ46 (a + 26) 2 0 x47 (fun μ48 => ldA μ48 (a + 26) 2 1 (fun x49 => cl (Mo_keeps a x49 μ48) (fun x51 μ50 => stA μ50 (a + 26) 2 1 x51 (fun μ52 => Mo_keepsTold_166 a FU 0 μ52)))))))))))))))))))))))))))))))))))))))
set_option maxRecDepth 100000 in
set_option maxHeartbeats 4000000 in
theorem jMo_keepsTold_382b {X : Cx} {l : Launch} {G : Gx} {y : Ly} {a : Nat} (hL : LyMo y a ) (hX : Ok X l G prog_13_method_133_code 2 none "SaltFiguresModel")   {kb382 : Int32 → Mu → Option (Unit × Mu)}  (hk382 : ∀ (v1 : Int32) (μ : Mu), J X G 2 2 y (emy y) rvV tpT 382 [(0, .ref (G.1 + a)), (1, .int v1)] [] (μ, y) (kb382 v1 μ)) (v1 : Int32)  (μ : Mu) : J X G 2 2 y (emy y) rvV tpT 382 [(0, .ref (G.1 + a)), (1, .int v1)] [] (μ, y) (Mo_keepsTold_382b a  kb382  v1  μ) := by
  unfold Mo_keepsTold_382b
  refine J_iload_n (k0 := 1) (pc := 382) 1 hX (by decide +kernel) rfl rfl ?_
  refine J_bipush (pc := 383) (n := 20) (v := 20) hX (by decide +kernel) (by decide +kernel) ?_
  refine J_icmp_ge (pc := 385) (off := 25) (tgt := 410) hX (by decide +kernel) (by decide +kernel) (fun _ => ?_) (fun _ => ?_)
  · exact J_vret (pc := 410) hX (by decide +kernel) rfl trivial
  · refine J_aload_n (k0 := 0) (pc := 388) 0 hX (by decide +kernel) rfl rfl ?_
    refine J_gr (pc := 389) hX (by decide +kernel) fl_Mo_92 hL.1 rfl hL.2.2.2.2.2.2.2.2.2.2.2.2.2.2.2.2.2.2.2.2.2.2.2.2.2.2.2.1.1 ?_
    refine J_iload_n (k0 := 1) (pc := 392) 1 hX (by decide +kernel) rfl rfl ?_
    refine J_aload_n (k0 := 0) (pc := 393) 0 hX (by decide +kernel) rfl rfl ?_
    refine J_aload_n (k0 := 0) (pc := 394) 0 hX (by decide +kernel) rfl rfl ?_
    refine J_gr (pc := 395) hX (by decide +kernel) fl_Mo_92 hL.1 rfl hL.2.2.2.2.2.2.2.2.2.2.2.2.2.2.2.2.2.2.2.2.2.2.2.2.2.2.2.1.1 ?_
    refine J_iload_n (k0 := 1) (pc := 398) 1 hX (by decide +kernel) rfl rfl ?_
    refine J_ldA (pc := 399) hX (by decide +kernel) hL.2.2.2.2.2.2.2.2.2.2.2.2.2.2.2.2.2.2.2.2.2.2.2.2.2.2.2.1.2 (fun x1 => ?_)
    refine J_cVi (pc := 400) (idx := 498) [.int x1] hX (by decide +kernel) (mq mt_9 9 (by decide +kernel)) mv_Mo_keeps hL.1 rfl rfl (Nat.le_of_ble_eq_true rfl) (Nat.le_of_ble_eq_true rfl) (c_Mo_keeps hL x1 μ) (fun x3 μ2 => ?_)
    refine J_stA (pc := 403) hX (by decide +kernel) hL.2.2.2.2.2.2.2.2.2.2.2.2.2.2.2.2.2.2.2.2.2.2.2.2.2.2.2.1.2 (fun μ4 => ?_)
    refine J_iinc (pc := 404) (n := 1) 1 [(1, .int (v1 + 1)), (0, .ref (G.1 + a))] hX (by decide +kernel) rfl rfl (by decide) rfl ?_
    refine J_goto (pc := 407) (off := -25) (tgt := 382) hX (by decide +kernel) (by decide +kernel) ?_
    exact J_sub [1, 0] _ rfl (hk382 (v1 + 1) μ4)
set_option maxRecDepth 100000 in
set_option maxHeartbeats 4000000 in
theorem jMo_keepsTold_382 {X : Cx} {l : Launch} {G : Gx} {y : Ly} {a : Nat} (hL : LyMo y a ) (hX : Ok X l G prog_13_method_133_code 2 none "SaltFiguresModel")    : ∀ (fu : Nat) (v1 : Int32) (μ : Mu), J X G 2 2 y (emy y) rvV tpT 382 [(0, .ref (G.1 + a)), (1, .int v1)] [] (μ, y) (Mo_keepsTold_382 a   fu v1 μ) := by
  intro fu
  induction fu with
  | zero => intros; exact J_none
  | succ fu ih => intro v1 μ; exact jMo_keepsTold_382b hL hX   ih v1 μ
set_option maxRecDepth 100000 in
set_option maxHeartbeats 4000000 in
theorem jMo_keepsTold_320b {X : Cx} {l : Launch} {G : Gx} {y : Ly} {a : Nat} (hL : LyMo y a ) (hX : Ok X l G prog_13_method_133_code 2 none "SaltFiguresModel")   {kb320 : Int32 → Mu → Option (Unit × Mu)}  (hk320 : ∀ (v1 : Int32) (μ : Mu), J X G 2 2 y (emy y) rvV tpT 320 [(0, .ref (G.1 + a)), (1, .int v1)] [] (μ, y) (kb320 v1 μ)) (v1 : Int32)  (μ : Mu) : J X G 2 2 y (emy y) rvV tpT 320 [(0, .ref (G.1 + a)), (1, .int v1)] [] (μ, y) (Mo_keepsTold_320b a  kb320  v1  μ) := by
  unfold Mo_keepsTold_320b
  refine J_iload_n (k0 := 1) (pc := 320) 1 hX (by decide +kernel) rfl rfl ?_
  refine J_bipush (pc := 321) (n := 6) (v := 6) hX (by decide +kernel) (by decide +kernel) ?_
  refine J_icmp_ge (pc := 323) (off := 57) (tgt := 380) hX (by decide +kernel) (by decide +kernel) (fun _ => ?_) (fun _ => ?_)
  · refine J_iconst (pc := 380) (n := 0) (v := 0) hX (by decide +kernel) (by decide +kernel) ?_
    refine J_istore_n (k0 := 1) (pc := 381) [(1, .int 0), (0, .ref (G.1 + a))] hX (by decide +kernel) rfl (by decide) rfl ?_
    exact J_sub [1, 0] _ rfl (jMo_keepsTold_382 hL hX FU 0 μ)
  · refine J_aload_n (k0 := 0) (pc := 326) 0 hX (by decide +kernel) rfl rfl ?_
    refine J_gr (pc := 327) hX (by decide +kernel) fl_Mo_83 hL.1 rfl hL.2.2.2.2.2.2.2.2.2.2.2.2.2.2.2.2.2.2.2.2.2.2.2.2.1.1 ?_
    refine J_iload_n (k0 := 1) (pc := 330) 1 hX (by decide +kernel) rfl rfl ?_
    refine J_aload_n (k0 := 0) (pc := 331) 0 hX (by decide +kernel) rfl rfl ?_
    refine J_aload_n (k0 := 0) (pc := 332) 0 hX (by decide +kernel) rfl rfl ?_
    refine J_gr (pc := 333) hX (by decide +kernel) fl_Mo_83 hL.1 rfl hL.2.2.2.2.2.2.2.2.2.2.2.2.2.2.2.2.2.2.2.2.2.2.2.2.1.1 ?_
    refine J_iload_n (k0 := 1) (pc := 336) 1 hX (by decide +kernel) rfl rfl ?_
    refine J_ldA (pc := 337) hX (by decide +kernel) hL.2.2.2.2.2.2.2.2.2.2.2.2.2.2.2.2.2.2.2.2.2.2.2.2.1.2 (fun x1 => ?_)
    refine J_cVi (pc := 338) (idx := 498) [.int x1] hX (by decide +kernel) (mq mt_9 9 (by decide +kernel)) mv_Mo_keeps hL.1 rfl rfl (Nat.le_of_ble_eq_true rfl) (Nat.le_of_ble_eq_true rfl) (c_Mo_keeps hL x1 μ) (fun x3 μ2 => ?_)
    refine J_stA (pc := 341) hX (by decide +kernel) hL.2.2.2.2.2.2.2.2.2.2.2.2.2.2.2.2.2.2.2.2.2.2.2.2.1.2 (fun μ4 => ?_)
    refine J_aload_n (k0 := 0) (pc := 342) 0 hX (by decide +kernel) rfl rfl ?_
    refine J_gr (pc := 343) hX (by decide +kernel) fl_Mo_98 hL.1 rfl hL.2.2.2.2.2.2.2.2.2.2.2.2.2.2.2.2.2.2.2.2.2.2.2.2.2.2.2.2.2.1.1 ?_
    refine J_iload_n (k0 := 1) (pc := 346) 1 hX (by decide +kernel) rfl rfl ?_
    refine J_aload_n (k0 := 0) (pc := 347) 0 hX (by decide +kernel) rfl rfl ?_
    refine J_aload_n (k0 := 0) (pc := 348) 0 hX (by decide +kernel) rfl rfl ?_
    refine J_gr (pc := 349) hX (by decide +kernel) fl_Mo_98 hL.1 rfl hL.2.2.2.2.2.2.2.2.2.2.2.2.2.2.2.2.2.2.2.2.2.2.2.2.2.2.2.2.2.1.1 ?_
    refine J_iload_n (k0 := 1) (pc := 352) 1 hX (by decide +kernel) rfl rfl ?_
    refine J_ldA (pc := 353) hX (by decide +kernel) hL.2.2.2.2.2.2.2.2.2.2.2.2.2.2.2.2.2.2.2.2.2.2.2.2.2.2.2.2.2.1.2 (fun x5 => ?_)
    refine J_cVi (pc := 354) (idx := 498) [.int x5] hX (by decide +kernel) (mq mt_9 9 (by decide +kernel)) mv_Mo_keeps hL.1 rfl rfl (Nat.le_of_ble_eq_true rfl) (Nat.le_of_ble_eq_true rfl) (c_Mo_keeps hL x5 μ4) (fun x7 μ6 => ?_)
    refine J_stA (pc := 357) hX (by decide +kernel) hL.2.2.2.2.2.2.2.2.2.2.2.2.2.2.2.2.2.2.2.2.2.2.2.2.2.2.2.2.2.1.2 (fun μ8 => ?_)
    refine J_aload_n (k0 := 0) (pc := 358) 0 hX (by decide +kernel) rfl rfl ?_
    refine J_gr (pc := 359) hX (by decide +kernel) fl_Mo_107 hL.1 rfl hL.2.2.2.2.2.2.2.2.2.2.2.2.2.2.2.2.2.2.2.2.2.2.2.2.2.2.2.2.2.2.2.2.1.1 ?_
    refine J_iload_n (k0 := 1) (pc := 362) 1 hX (by decide +kernel) rfl rfl ?_
    refine J_aload_n (k0 := 0) (pc := 363) 0 hX (by decide +kernel) rfl rfl ?_
    refine J_aload_n (k0 := 0) (pc := 364) 0 hX (by decide +kernel) rfl rfl ?_
    refine J_gr (pc := 365) hX (by decide +kernel) fl_Mo_107 hL.1 rfl hL.2.2.2.2.2.2.2.2.2.2.2.2.2.2.2.2.2.2.2.2.2.2.2.2.2.2.2.2.2.2.2.2.1.1 ?_
    refine J_iload_n (k0 := 1) (pc := 368) 1 hX (by decide +kernel) rfl rfl ?_
    refine J_ldA (pc := 369) hX (by decide +kernel) hL.2.2.2.2.2.2.2.2.2.2.2.2.2.2.2.2.2.2.2.2.2.2.2.2.2.2.2.2.2.2.2.2.1.2 (fun x9 => ?_)
    refine J_cVi (pc := 370) (idx := 498) [.int x9] hX (by decide +kernel) (mq mt_9 9 (by decide +kernel)) mv_Mo_keeps hL.1 rfl rfl (Nat.le_of_ble_eq_true rfl) (Nat.le_of_ble_eq_true rfl) (c_Mo_keeps hL x9 μ8) (fun x11 μ10 => ?_)
    refine J_stA (pc := 373) hX (by decide +kernel) hL.2.2.2.2.2.2.2.2.2.2.2.2.2.2.2.2.2.2.2.2.2.2.2.2.2.2.2.2.2.2.2.2.1.2 (fun μ12 => ?_)
    refine J_iinc (pc := 374) (n := 1) 1 [(1, .int (v1 + 1)), (0, .ref (G.1 + a))] hX (by decide +kernel) rfl rfl (by decide) rfl ?_
    refine J_goto (pc := 377) (off := -57) (tgt := 320) hX (by decide +kernel) (by decide +kernel) ?_
    exact J_sub [1, 0] _ rfl (hk320 (v1 + 1) μ12)
set_option maxRecDepth 100000 in
set_option maxHeartbeats 4000000 in
theorem jMo_keepsTold_320 {X : Cx} {l : Launch} {G : Gx} {y : Ly} {a : Nat} (hL : LyMo y a ) (hX : Ok X l G prog_13_method_133_code 2 none "SaltFiguresModel")    : ∀ (fu : Nat) (v1 : Int32) (μ : Mu), J X G 2 2 y (emy y) rvV tpT 320 [(0, .ref (G.1 + a)), (1, .int v1)] [] (μ, y) (Mo_keepsTold_320 a   fu v1 μ) := by
  intro fu
  induction fu with
  | zero => intros; exact J_none
  | succ fu ih => intro v1 μ; exact jMo_keepsTold_320b hL hX   ih v1 μ
set_option maxRecDepth 100000 in
set_option maxHeartbeats 4000000 in
theorem jMo_keepsTold_226b {X : Cx} {l : Launch} {G : Gx} {y : Ly} {a : Nat} (hL : LyMo y a ) (hX : Ok X l G prog_13_method_133_code 2 none "SaltFiguresModel")   {kb226 : Int32 → Mu → Option (Unit × Mu)}  (hk226 : ∀ (v1 : Int32) (μ : Mu), J X G 2 2 y (emy y) rvV tpT 226 [(0, .ref (G.1 + a)), (1, .int v1)] [] (μ, y) (kb226 v1 μ)) (v1 : Int32)  (μ : Mu) : J X G 2 2 y (emy y) rvV tpT 226 [(0, .ref (G.1 + a)), (1, .int v1)] [] (μ, y) (Mo_keepsTold_226b a  kb226  v1  μ) := by
  unfold Mo_keepsTold_226b
  refine J_iload_n (k0 := 1) (pc := 226) 1 hX (by decide +kernel) rfl rfl ?_
  refine J_bipush (pc := 227) (n := 8) (v := 8) hX (by decide +kernel) (by decide +kernel) ?_
  refine J_icmp_ge (pc := 229) (off := 89) (tgt := 318) hX (by decide +kernel) (by decide +kernel) (fun _ => ?_) (fun _ => ?_)
  · refine J_iconst (pc := 318) (n := 0) (v := 0) hX (by decide +kernel) (by decide +kernel) ?_
    refine J_istore_n (k0 := 1) (pc := 319) [(1, .int 0), (0, .ref (G.1 + a))] hX (by decide +kernel) rfl (by decide) rfl ?_
    exact J_sub [1, 0] _ rfl (jMo_keepsTold_320 hL hX FU 0 μ)
  · refine J_aload_n (k0 := 0) (pc := 232) 0 hX (by decide +kernel) rfl rfl ?_
    refine J_gr (pc := 233) hX (by decide +kernel) fl_Mo_77 hL.1 rfl hL.2.2.2.2.2.2.2.2.2.2.2.2.2.2.2.2.2.2.2.2.2.2.1.1 ?_
    refine J_iload_n (k0 := 1) (pc := 236) 1 hX (by decide +kernel) rfl rfl ?_
    refine J_aload_n (k0 := 0) (pc := 237) 0 hX (by decide +kernel) rfl rfl ?_
    refine J_aload_n (k0 := 0) (pc := 238) 0 hX (by decide +kernel) rfl rfl ?_
    refine J_gr (pc := 239) hX (by decide +kernel) fl_Mo_77 hL.1 rfl hL.2.2.2.2.2.2.2.2.2.2.2.2.2.2.2.2.2.2.2.2.2.2.1.1 ?_
    refine J_iload_n (k0 := 1) (pc := 242) 1 hX (by decide +kernel) rfl rfl ?_
    refine J_ldA (pc := 243) hX (by decide +kernel) hL.2.2.2.2.2.2.2.2.2.2.2.2.2.2.2.2.2.2.2.2.2.2.1.2 (fun x1 => ?_)
    refine J_cVi (pc := 244) (idx := 498) [.int x1] hX (by decide +kernel) (mq mt_9 9 (by decide +kernel)) mv_Mo_keeps hL.1 rfl rfl (Nat.le_of_ble_eq_true rfl) (Nat.le_of_ble_eq_true rfl) (c_Mo_keeps hL x1 μ) (fun x3 μ2 => ?_)
    refine J_stA (pc := 247) hX (by decide +kernel) hL.2.2.2.2.2.2.2.2.2.2.2.2.2.2.2.2.2.2.2.2.2.2.1.2 (fun μ4 => ?_)
    refine J_aload_n (k0 := 0) (pc := 248) 0 hX (by decide +kernel) rfl rfl ?_
    refine J_gr (pc := 249) hX (by decide +kernel) fl_Mo_80 hL.1 rfl hL.2.2.2.2.2.2.2.2.2.2.2.2.2.2.2.2.2.2.2.2.2.2.2.1.1 ?_
    refine J_iload_n (k0 := 1) (pc := 252) 1 hX (by decide +kernel) rfl rfl ?_
    refine J_aload_n (k0 := 0) (pc := 253) 0 hX (by decide +kernel) rfl rfl ?_
    refine J_aload_n (k0 := 0) (pc := 254) 0 hX (by decide +kernel) rfl rfl ?_
    refine J_gr (pc := 255) hX (by decide +kernel) fl_Mo_80 hL.1 rfl hL.2.2.2.2.2.2.2.2.2.2.2.2.2.2.2.2.2.2.2.2.2.2.2.1.1 ?_
    refine J_iload_n (k0 := 1) (pc := 258) 1 hX (by decide +kernel) rfl rfl ?_
    refine J_ldA (pc := 259) hX (by decide +kernel) hL.2.2.2.2.2.2.2.2.2.2.2.2.2.2.2.2.2.2.2.2.2.2.2.1.2 (fun x5 => ?_)
    refine J_cVi (pc := 260) (idx := 498) [.int x5] hX (by decide +kernel) (mq mt_9 9 (by decide +kernel)) mv_Mo_keeps hL.1 rfl rfl (Nat.le_of_ble_eq_true rfl) (Nat.le_of_ble_eq_true rfl) (c_Mo_keeps hL x5 μ4) (fun x7 μ6 => ?_)
    refine J_stA (pc := 263) hX (by decide +kernel) hL.2.2.2.2.2.2.2.2.2.2.2.2.2.2.2.2.2.2.2.2.2.2.2.1.2 (fun μ8 => ?_)
    refine J_aload_n (k0 := 0) (pc := 264) 0 hX (by decide +kernel) rfl rfl ?_
    refine J_gr (pc := 265) hX (by decide +kernel) fl_Mo_113 hL.1 rfl hL.2.2.2.2.2.2.2.2.2.2.2.2.2.2.2.2.2.2.2.2.2.2.2.2.2.2.2.2.2.2.2.2.2.2.1.1 ?_
    refine J_iload_n (k0 := 1) (pc := 268) 1 hX (by decide +kernel) rfl rfl ?_
    refine J_aload_n (k0 := 0) (pc := 269) 0 hX (by decide +kernel) rfl rfl ?_
    refine J_aload_n (k0 := 0) (pc := 270) 0 hX (by decide +kernel) rfl rfl ?_
    refine J_gr (pc := 271) hX (by decide +kernel) fl_Mo_113 hL.1 rfl hL.2.2.2.2.2.2.2.2.2.2.2.2.2.2.2.2.2.2.2.2.2.2.2.2.2.2.2.2.2.2.2.2.2.2.1.1 ?_
    refine J_iload_n (k0 := 1) (pc := 274) 1 hX (by decide +kernel) rfl rfl ?_
    refine J_ldA (pc := 275) hX (by decide +kernel) hL.2.2.2.2.2.2.2.2.2.2.2.2.2.2.2.2.2.2.2.2.2.2.2.2.2.2.2.2.2.2.2.2.2.2.1.2 (fun x9 => ?_)
    refine J_cVi (pc := 276) (idx := 498) [.int x9] hX (by decide +kernel) (mq mt_9 9 (by decide +kernel)) mv_Mo_keeps hL.1 rfl rfl (Nat.le_of_ble_eq_true rfl) (Nat.le_of_ble_eq_true rfl) (c_Mo_keeps hL x9 μ8) (fun x11 μ10 => ?_)
    refine J_stA (pc := 279) hX (by decide +kernel) hL.2.2.2.2.2.2.2.2.2.2.2.2.2.2.2.2.2.2.2.2.2.2.2.2.2.2.2.2.2.2.2.2.2.2.1.2 (fun μ12 => ?_)
    refine J_aload_n (k0 := 0) (pc := 280) 0 hX (by decide +kernel) rfl rfl ?_
    refine J_gr (pc := 281) hX (by decide +kernel) fl_Mo_116 hL.1 rfl hL.2.2.2.2.2.2.2.2.2.2.2.2.2.2.2.2.2.2.2.2.2.2.2.2.2.2.2.2.2.2.2.2.2.2.2.1.1 ?_
    refine J_iload_n (k0 := 1) (pc := 284) 1 hX (by decide +kernel) rfl rfl ?_
    refine J_aload_n (k0 := 0) (pc := 285) 0 hX (by decide +kernel) rfl rfl ?_
    refine J_aload_n (k0 := 0) (pc := 286) 0 hX (by decide +kernel) rfl rfl ?_
    refine J_gr (pc := 287) hX (by decide +kernel) fl_Mo_116 hL.1 rfl hL.2.2.2.2.2.2.2.2.2.2.2.2.2.2.2.2.2.2.2.2.2.2.2.2.2.2.2.2.2.2.2.2.2.2.2.1.1 ?_
    refine J_iload_n (k0 := 1) (pc := 290) 1 hX (by decide +kernel) rfl rfl ?_
    refine J_ldA (pc := 291) hX (by decide +kernel) hL.2.2.2.2.2.2.2.2.2.2.2.2.2.2.2.2.2.2.2.2.2.2.2.2.2.2.2.2.2.2.2.2.2.2.2.1.2 (fun x13 => ?_)
    refine J_cVi (pc := 292) (idx := 498) [.int x13] hX (by decide +kernel) (mq mt_9 9 (by decide +kernel)) mv_Mo_keeps hL.1 rfl rfl (Nat.le_of_ble_eq_true rfl) (Nat.le_of_ble_eq_true rfl) (c_Mo_keeps hL x13 μ12) (fun x15 μ14 => ?_)
    refine J_stA (pc := 295) hX (by decide +kernel) hL.2.2.2.2.2.2.2.2.2.2.2.2.2.2.2.2.2.2.2.2.2.2.2.2.2.2.2.2.2.2.2.2.2.2.2.1.2 (fun μ16 => ?_)
    refine J_aload_n (k0 := 0) (pc := 296) 0 hX (by decide +kernel) rfl rfl ?_
    refine J_gr (pc := 297) hX (by decide +kernel) fl_Mo_119 hL.1 rfl hL.2.2.2.2.2.2.2.2.2.2.2.2.2.2.2.2.2.2.2.2.2.2.2.2.2.2.2.2.2.2.2.2.2.2.2.2.1.1 ?_
    refine J_iload_n (k0 := 1) (pc := 300) 1 hX (by decide +kernel) rfl rfl ?_
    refine J_aload_n (k0 := 0) (pc := 301) 0 hX (by decide +kernel) rfl rfl ?_
    refine J_aload_n (k0 := 0) (pc := 302) 0 hX (by decide +kernel) rfl rfl ?_
    refine J_gr (pc := 303) hX (by decide +kernel) fl_Mo_119 hL.1 rfl hL.2.2.2.2.2.2.2.2.2.2.2.2.2.2.2.2.2.2.2.2.2.2.2.2.2.2.2.2.2.2.2.2.2.2.2.2.1.1 ?_
    refine J_iload_n (k0 := 1) (pc := 306) 1 hX (by decide +kernel) rfl rfl ?_
    refine J_ldA (pc := 307) hX (by decide +kernel) hL.2.2.2.2.2.2.2.2.2.2.2.2.2.2.2.2.2.2.2.2.2.2.2.2.2.2.2.2.2.2.2.2.2.2.2.2.1.2 (fun x17 => ?_)
    refine J_cVi (pc := 308) (idx := 498) [.int x17] hX (by decide +kernel) (mq mt_9 9 (by decide +kernel)) mv_Mo_keeps hL.1 rfl rfl (Nat.le_of_ble_eq_true rfl) (Nat.le_of_ble_eq_true rfl) (c_Mo_keeps hL x17 μ16) (fun x19 μ18 => ?_)
    refine J_stA (pc := 311) hX (by decide +kernel) hL.2.2.2.2.2.2.2.2.2.2.2.2.2.2.2.2.2.2.2.2.2.2.2.2.2.2.2.2.2.2.2.2.2.2.2.2.1.2 (fun μ20 => ?_)
    refine J_iinc (pc := 312) (n := 1) 1 [(1, .int (v1 + 1)), (0, .ref (G.1 + a))] hX (by decide +kernel) rfl rfl (by decide) rfl ?_
    refine J_goto (pc := 315) (off := -89) (tgt := 226) hX (by decide +kernel) (by decide +kernel) ?_
    exact J_sub [1, 0] _ rfl (hk226 (v1 + 1) μ20)
set_option maxRecDepth 100000 in
set_option maxHeartbeats 4000000 in
theorem jMo_keepsTold_226 {X : Cx} {l : Launch} {G : Gx} {y : Ly} {a : Nat} (hL : LyMo y a ) (hX : Ok X l G prog_13_method_133_code 2 none "SaltFiguresModel")    : ∀ (fu : Nat) (v1 : Int32) (μ : Mu), J X G 2 2 y (emy y) rvV tpT 226 [(0, .ref (G.1 + a)), (1, .int v1)] [] (μ, y) (Mo_keepsTold_226 a   fu v1 μ) := by
  intro fu
  induction fu with
  | zero => intros; exact J_none
  | succ fu ih => intro v1 μ; exact jMo_keepsTold_226b hL hX   ih v1 μ
set_option maxRecDepth 100000 in
set_option maxHeartbeats 4000000 in
theorem jMo_keepsTold_196b {X : Cx} {l : Launch} {G : Gx} {y : Ly} {a : Nat} (hL : LyMo y a ) (hX : Ok X l G prog_13_method_133_code 2 none "SaltFiguresModel")   {kb196 : Int32 → Mu → Option (Unit × Mu)}  (hk196 : ∀ (v1 : Int32) (μ : Mu), J X G 2 2 y (emy y) rvV tpT 196 [(0, .ref (G.1 + a)), (1, .int v1)] [] (μ, y) (kb196 v1 μ)) (v1 : Int32)  (μ : Mu) : J X G 2 2 y (emy y) rvV tpT 196 [(0, .ref (G.1 + a)), (1, .int v1)] [] (μ, y) (Mo_keepsTold_196b a  kb196  v1  μ) := by
  unfold Mo_keepsTold_196b
  refine J_iload_n (k0 := 1) (pc := 196) 1 hX (by decide +kernel) rfl rfl ?_
  refine J_bipush (pc := 197) (n := 64) (v := 64) hX (by decide +kernel) (by decide +kernel) ?_
  refine J_icmp_ge (pc := 199) (off := 25) (tgt := 224) hX (by decide +kernel) (by decide +kernel) (fun _ => ?_) (fun _ => ?_)
  · refine J_iconst (pc := 224) (n := 0) (v := 0) hX (by decide +kernel) (by decide +kernel) ?_
    refine J_istore_n (k0 := 1) (pc := 225) [(1, .int 0), (0, .ref (G.1 + a))] hX (by decide +kernel) rfl (by decide) rfl ?_
    exact J_sub [1, 0] _ rfl (jMo_keepsTold_226 hL hX FU 0 μ)
  · refine J_aload_n (k0 := 0) (pc := 202) 0 hX (by decide +kernel) rfl rfl ?_
    refine J_gr (pc := 203) hX (by decide +kernel) fl_Mo_62 hL.1 rfl hL.2.2.2.2.2.2.2.2.2.2.2.2.2.2.2.2.2.1.1 ?_
    refine J_iload_n (k0 := 1) (pc := 206) 1 hX (by decide +kernel) rfl rfl ?_
    refine J_aload_n (k0 := 0) (pc := 207) 0 hX (by decide +kernel) rfl rfl ?_
    refine J_aload_n (k0 := 0) (pc := 208) 0 hX (by decide +kernel) rfl rfl ?_
    refine J_gr (pc := 209) hX (by decide +kernel) fl_Mo_62 hL.1 rfl hL.2.2.2.2.2.2.2.2.2.2.2.2.2.2.2.2.2.1.1 ?_
    refine J_iload_n (k0 := 1) (pc := 212) 1 hX (by decide +kernel) rfl rfl ?_
    refine J_ldA (pc := 213) hX (by decide +kernel) hL.2.2.2.2.2.2.2.2.2.2.2.2.2.2.2.2.2.1.2 (fun x1 => ?_)
    refine J_cVi (pc := 214) (idx := 498) [.int x1] hX (by decide +kernel) (mq mt_9 9 (by decide +kernel)) mv_Mo_keeps hL.1 rfl rfl (Nat.le_of_ble_eq_true rfl) (Nat.le_of_ble_eq_true rfl) (c_Mo_keeps hL x1 μ) (fun x3 μ2 => ?_)
    refine J_stA (pc := 217) hX (by decide +kernel) hL.2.2.2.2.2.2.2.2.2.2.2.2.2.2.2.2.2.1.2 (fun μ4 => ?_)
    refine J_iinc (pc := 218) (n := 1) 1 [(1, .int (v1 + 1)), (0, .ref (G.1 + a))] hX (by decide +kernel) rfl rfl (by decide) rfl ?_
    refine J_goto (pc := 221) (off := -25) (tgt := 196) hX (by decide +kernel) (by decide +kernel) ?_
    exact J_sub [1, 0] _ rfl (hk196 (v1 + 1) μ4)
set_option maxRecDepth 100000 in
set_option maxHeartbeats 4000000 in
theorem jMo_keepsTold_196 {X : Cx} {l : Launch} {G : Gx} {y : Ly} {a : Nat} (hL : LyMo y a ) (hX : Ok X l G prog_13_method_133_code 2 none "SaltFiguresModel")    : ∀ (fu : Nat) (v1 : Int32) (μ : Mu), J X G 2 2 y (emy y) rvV tpT 196 [(0, .ref (G.1 + a)), (1, .int v1)] [] (μ, y) (Mo_keepsTold_196 a   fu v1 μ) := by
  intro fu
  induction fu with
  | zero => intros; exact J_none
  | succ fu ih => intro v1 μ; exact jMo_keepsTold_196b hL hX   ih v1 μ
set_option maxRecDepth 100000 in
set_option maxHeartbeats 4000000 in
theorem jMo_keepsTold_166b {X : Cx} {l : Launch} {G : Gx} {y : Ly} {a : Nat} (hL : LyMo y a ) (hX : Ok X l G prog_13_method_133_code 2 none "SaltFiguresModel")   {kb166 : Int32 → Mu → Option (Unit × Mu)}  (hk166 : ∀ (v1 : Int32) (μ : Mu), J X G 2 2 y (emy y) rvV tpT 166 [(0, .ref (G.1 + a)), (1, .int v1)] [] (μ, y) (kb166 v1 μ)) (v1 : Int32)  (μ : Mu) : J X G 2 2 y (emy y) rvV tpT 166 [(0, .ref (G.1 + a)), (1, .int v1)] [] (μ, y) (Mo_keepsTold_166b a  kb166  v1  μ) := by
  unfold Mo_keepsTold_166b
  refine J_iload_n (k0 := 1) (pc := 166) 1 hX (by decide +kernel) rfl rfl ?_
  refine J_bipush (pc := 167) (n := 16) (v := 16) hX (by decide +kernel) (by decide +kernel) ?_
  refine J_icmp_ge (pc := 169) (off := 25) (tgt := 194) hX (by decide +kernel) (by decide +kernel) (fun _ => ?_) (fun _ => ?_)
  · refine J_iconst (pc := 194) (n := 0) (v := 0) hX (by decide +kernel) (by decide +kernel) ?_
    refine J_istore_n (k0 := 1) (pc := 195) [(1, .int 0), (0, .ref (G.1 + a))] hX (by decide +kernel) rfl (by decide) rfl ?_
    exact J_sub [1, 0] _ rfl (jMo_keepsTold_196 hL hX FU 0 μ)
  · refine J_aload_n (k0 := 0) (pc := 172) 0 hX (by decide +kernel) rfl rfl ?_
    refine J_gr (pc := 173) hX (by decide +kernel) fl_Mo_65 hL.1 rfl hL.2.2.2.2.2.2.2.2.2.2.2.2.2.2.2.2.2.2.1.1 ?_
    refine J_iload_n (k0 := 1) (pc := 176) 1 hX (by decide +kernel) rfl rfl ?_
    refine J_aload_n (k0 := 0) (pc := 177) 0 hX (by decide +kernel) rfl rfl ?_
    refine J_aload_n (k0 := 0) (pc := 178) 0 hX (by decide +kernel) rfl rfl ?_
    refine J_gr (pc := 179) hX (by decide +kernel) fl_Mo_65 hL.1 rfl hL.2.2.2.2.2.2.2.2.2.2.2.2.2.2.2.2.2.2.1.1 ?_
    refine J_iload_n (k0 := 1) (pc := 182) 1 hX (by decide +kernel) rfl rfl ?_
    refine J_ldA (pc := 183) hX (by decide +kernel) hL.2.2.2.2.2.2.2.2.2.2.2.2.2.2.2.2.2.2.1.2 (fun x1 => ?_)
    refine J_cVi (pc := 184) (idx := 498) [.int x1] hX (by decide +kernel) (mq mt_9 9 (by decide +kernel)) mv_Mo_keeps hL.1 rfl rfl (Nat.le_of_ble_eq_true rfl) (Nat.le_of_ble_eq_true rfl) (c_Mo_keeps hL x1 μ) (fun x3 μ2 => ?_)
    refine J_stA (pc := 187) hX (by decide +kernel) hL.2.2.2.2.2.2.2.2.2.2.2.2.2.2.2.2.2.2.1.2 (fun μ4 => ?_)
    refine J_iinc (pc := 188) (n := 1) 1 [(1, .int (v1 + 1)), (0, .ref (G.1 + a))] hX (by decide +kernel) rfl rfl (by decide) rfl ?_
    refine J_goto (pc := 191) (off := -25) (tgt := 166) hX (by decide +kernel) (by decide +kernel) ?_
    exact J_sub [1, 0] _ rfl (hk166 (v1 + 1) μ4)
set_option maxRecDepth 100000 in
set_option maxHeartbeats 4000000 in
theorem jMo_keepsTold_166 {X : Cx} {l : Launch} {G : Gx} {y : Ly} {a : Nat} (hL : LyMo y a ) (hX : Ok X l G prog_13_method_133_code 2 none "SaltFiguresModel")    : ∀ (fu : Nat) (v1 : Int32) (μ : Mu), J X G 2 2 y (emy y) rvV tpT 166 [(0, .ref (G.1 + a)), (1, .int v1)] [] (μ, y) (Mo_keepsTold_166 a   fu v1 μ) := by
  intro fu
  induction fu with
  | zero => intros; exact J_none
  | succ fu ih => intro v1 μ; exact jMo_keepsTold_166b hL hX   ih v1 μ
set_option maxRecDepth 100000 in
set_option maxHeartbeats 4000000 in
theorem jMo_keepsTold {X : Cx} {l : Launch} {G : Gx} {y : Ly} {a : Nat} (hL : LyMo y a ) (hX : Ok X l G prog_13_method_133_code 2 none "SaltFiguresModel")  (μ : Mu) : J X G 2 2 y (emy y) rvV tpT 0 [(0, .ref (G.1 + a))] [] (μ, y) (Mo_keepsTold a  μ) := by
  unfold Mo_keepsTold
  refine J_aload_n (k0 := 0) (pc := 0) 0 hX (by decide +kernel) rfl rfl ?_
  refine J_aload_n (k0 := 0) (pc := 1) 0 hX (by decide +kernel) rfl rfl ?_
  refine J_aload_n (k0 := 0) (pc := 2) 0 hX (by decide +kernel) rfl rfl ?_
  refine J_gF (pc := 3) hX (by decide +kernel) fl_Mo_144 hL.1 rfl (fun x1 => ?_)
  refine J_cVi (pc := 6) (idx := 498) [.int x1] hX (by decide +kernel) (mq mt_9 9 (by decide +kernel)) mv_Mo_keeps hL.1 rfl rfl (Nat.le_of_ble_eq_true rfl) (Nat.le_of_ble_eq_true rfl) (c_Mo_keeps hL x1 μ) (fun x3 μ2 => ?_)
  refine J_pF (pc := 9) hX (by decide +kernel) fl_Mo_144 hL.1 rfl (fun μ4 => ?_)
  refine J_aload_n (k0 := 0) (pc := 12) 0 hX (by decide +kernel) rfl rfl ?_
  refine J_aload_n (k0 := 0) (pc := 13) 0 hX (by decide +kernel) rfl rfl ?_
  refine J_aload_n (k0 := 0) (pc := 14) 0 hX (by decide +kernel) rfl rfl ?_
  refine J_gF (pc := 15) hX (by decide +kernel) fl_Mo_294 hL.1 rfl (fun x5 => ?_)
  refine J_cVi (pc := 18) (idx := 498) [.int x5] hX (by decide +kernel) (mq mt_9 9 (by decide +kernel)) mv_Mo_keeps hL.1 rfl rfl (Nat.le_of_ble_eq_true rfl) (Nat.le_of_ble_eq_true rfl) (c_Mo_keeps hL x5 μ4) (fun x7 μ6 => ?_)
  refine J_pF (pc := 21) hX (by decide +kernel) fl_Mo_294 hL.1 rfl (fun μ8 => ?_)
  refine J_aload_n (k0 := 0) (pc := 24) 0 hX (by decide +kernel) rfl rfl ?_
  refine J_aload_n (k0 := 0) (pc := 25) 0 hX (by decide +kernel) rfl rfl ?_
  refine J_aload_n (k0 := 0) (pc := 26) 0 hX (by decide +kernel) rfl rfl ?_
  refine J_gF (pc := 27) hX (by decide +kernel) fl_Mo_303 hL.1 rfl (fun x9 => ?_)
  refine J_cVi (pc := 30) (idx := 498) [.int x9] hX (by decide +kernel) (mq mt_9 9 (by decide +kernel)) mv_Mo_keeps hL.1 rfl rfl (Nat.le_of_ble_eq_true rfl) (Nat.le_of_ble_eq_true rfl) (c_Mo_keeps hL x9 μ8) (fun x11 μ10 => ?_)
  refine J_pF (pc := 33) hX (by decide +kernel) fl_Mo_303 hL.1 rfl (fun μ12 => ?_)
  refine J_aload_n (k0 := 0) (pc := 36) 0 hX (by decide +kernel) rfl rfl ?_
  refine J_aload_n (k0 := 0) (pc := 37) 0 hX (by decide +kernel) rfl rfl ?_
  refine J_aload_n (k0 := 0) (pc := 38) 0 hX (by decide +kernel) rfl rfl ?_
  refine J_gF (pc := 39) hX (by decide +kernel) fl_Mo_297 hL.1 rfl (fun x13 => ?_)
  refine J_cVi (pc := 42) (idx := 498) [.int x13] hX (by decide +kernel) (mq mt_9 9 (by decide +kernel)) mv_Mo_keeps hL.1 rfl rfl (Nat.le_of_ble_eq_true rfl) (Nat.le_of_ble_eq_true rfl) (c_Mo_keeps hL x13 μ12) (fun x15 μ14 => ?_)
  refine J_pF (pc := 45) hX (by decide +kernel) fl_Mo_297 hL.1 rfl (fun μ16 => ?_)
  refine J_aload_n (k0 := 0) (pc := 48) 0 hX (by decide +kernel) rfl rfl ?_
  refine J_aload_n (k0 := 0) (pc := 49) 0 hX (by decide +kernel) rfl rfl ?_
  refine J_aload_n (k0 := 0) (pc := 50) 0 hX (by decide +kernel) rfl rfl ?_
  refine J_gF (pc := 51) hX (by decide +kernel) fl_Mo_425 hL.1 rfl (fun x17 => ?_)
  refine J_cVi (pc := 54) (idx := 498) [.int x17] hX (by decide +kernel) (mq mt_9 9 (by decide +kernel)) mv_Mo_keeps hL.1 rfl rfl (Nat.le_of_ble_eq_true rfl) (Nat.le_of_ble_eq_true rfl) (c_Mo_keeps hL x17 μ16) (fun x19 μ18 => ?_)
  refine J_pF (pc := 57) hX (by decide +kernel) fl_Mo_425 hL.1 rfl (fun μ20 => ?_)
  refine J_aload_n (k0 := 0) (pc := 60) 0 hX (by decide +kernel) rfl rfl ?_
  refine J_aload_n (k0 := 0) (pc := 61) 0 hX (by decide +kernel) rfl rfl ?_
  refine J_aload_n (k0 := 0) (pc := 62) 0 hX (by decide +kernel) rfl rfl ?_
  refine J_gF (pc := 63) hX (by decide +kernel) fl_Mo_432 hL.1 rfl (fun x21 => ?_)
  refine J_cVi (pc := 66) (idx := 498) [.int x21] hX (by decide +kernel) (mq mt_9 9 (by decide +kernel)) mv_Mo_keeps hL.1 rfl rfl (Nat.le_of_ble_eq_true rfl) (Nat.le_of_ble_eq_true rfl) (c_Mo_keeps hL x21 μ20) (fun x23 μ22 => ?_)
  refine J_pF (pc := 69) hX (by decide +kernel) fl_Mo_432 hL.1 rfl (fun μ24 => ?_)
  refine J_aload_n (k0 := 0) (pc := 72) 0 hX (by decide +kernel) rfl rfl ?_
  refine J_aload_n (k0 := 0) (pc := 73) 0 hX (by decide +kernel) rfl rfl ?_
  refine J_aload_n (k0 := 0) (pc := 74) 0 hX (by decide +kernel) rfl rfl ?_
  refine J_gF (pc := 75) hX (by decide +kernel) fl_Mo_450 hL.1 rfl (fun x25 => ?_)
  refine J_cVi (pc := 78) (idx := 498) [.int x25] hX (by decide +kernel) (mq mt_9 9 (by decide +kernel)) mv_Mo_keeps hL.1 rfl rfl (Nat.le_of_ble_eq_true rfl) (Nat.le_of_ble_eq_true rfl) (c_Mo_keeps hL x25 μ24) (fun x27 μ26 => ?_)
  refine J_pF (pc := 81) hX (by decide +kernel) fl_Mo_450 hL.1 rfl (fun μ28 => ?_)
  refine J_aload_n (k0 := 0) (pc := 84) 0 hX (by decide +kernel) rfl rfl ?_
  refine J_aload_n (k0 := 0) (pc := 85) 0 hX (by decide +kernel) rfl rfl ?_
  refine J_aload_n (k0 := 0) (pc := 86) 0 hX (by decide +kernel) rfl rfl ?_
  refine J_gF (pc := 87) hX (by decide +kernel) fl_Mo_459 hL.1 rfl (fun x29 => ?_)
  refine J_cVi (pc := 90) (idx := 498) [.int x29] hX (by decide +kernel) (mq mt_9 9 (by decide +kernel)) mv_Mo_keeps hL.1 rfl rfl (Nat.le_of_ble_eq_true rfl) (Nat.le_of_ble_eq_true rfl) (c_Mo_keeps hL x29 μ28) (fun x31 μ30 => ?_)
  refine J_pF (pc := 93) hX (by decide +kernel) fl_Mo_459 hL.1 rfl (fun μ32 => ?_)
  refine J_aload_n (k0 := 0) (pc := 96) 0 hX (by decide +kernel) rfl rfl ?_
  refine J_aload_n (k0 := 0) (pc := 97) 0 hX (by decide +kernel) rfl rfl ?_
  refine J_aload_n (k0 := 0) (pc := 98) 0 hX (by decide +kernel) rfl rfl ?_
  refine J_gF (pc := 99) hX (by decide +kernel) fl_Mo_474 hL.1 rfl (fun x33 => ?_)
  refine J_cVi (pc := 102) (idx := 498) [.int x33] hX (by decide +kernel) (mq mt_9 9 (by decide +kernel)) mv_Mo_keeps hL.1 rfl rfl (Nat.le_of_ble_eq_true rfl) (Nat.le_of_ble_eq_true rfl) (c_Mo_keeps hL x33 μ32) (fun x35 μ34 => ?_)
  refine J_pF (pc := 105) hX (by decide +kernel) fl_Mo_474 hL.1 rfl (fun μ36 => ?_)
  refine J_aload_n (k0 := 0) (pc := 108) 0 hX (by decide +kernel) rfl rfl ?_
  refine J_aload_n (k0 := 0) (pc := 109) 0 hX (by decide +kernel) rfl rfl ?_
  refine J_aload_n (k0 := 0) (pc := 110) 0 hX (by decide +kernel) rfl rfl ?_
  refine J_gF (pc := 111) hX (by decide +kernel) fl_Mo_477 hL.1 rfl (fun x37 => ?_)
  refine J_cVi (pc := 114) (idx := 498) [.int x37] hX (by decide +kernel) (mq mt_9 9 (by decide +kernel)) mv_Mo_keeps hL.1 rfl rfl (Nat.le_of_ble_eq_true rfl) (Nat.le_of_ble_eq_true rfl) (c_Mo_keeps hL x37 μ36) (fun x39 μ38 => ?_)
  refine J_pF (pc := 117) hX (by decide +kernel) fl_Mo_477 hL.1 rfl (fun μ40 => ?_)
  refine J_aload_n (k0 := 0) (pc := 120) 0 hX (by decide +kernel) rfl rfl ?_
  refine J_aload_n (k0 := 0) (pc := 121) 0 hX (by decide +kernel) rfl rfl ?_
  refine J_aload_n (k0 := 0) (pc := 122) 0 hX (by decide +kernel) rfl rfl ?_
  refine J_gF (pc := 123) hX (by decide +kernel) fl_Mo_483 hL.1 rfl (fun x41 => ?_)
  refine J_cVi (pc := 126) (idx := 498) [.int x41] hX (by decide +kernel) (mq mt_9 9 (by decide +kernel)) mv_Mo_keeps hL.1 rfl rfl (Nat.le_of_ble_eq_true rfl) (Nat.le_of_ble_eq_true rfl) (c_Mo_keeps hL x41 μ40) (fun x43 μ42 => ?_)
  refine J_pF (pc := 129) hX (by decide +kernel) fl_Mo_483 hL.1 rfl (fun μ44 => ?_)
  refine J_aload_n (k0 := 0) (pc := 132) 0 hX (by decide +kernel) rfl rfl ?_
  refine J_gr (pc := 133) hX (by decide +kernel) fl_Mo_89 hL.1 rfl hL.2.2.2.2.2.2.2.2.2.2.2.2.2.2.2.2.2.2.2.2.2.2.2.2.2.2.1.1 ?_
  refine J_iconst (pc := 136) (n := 0) (v := 0) hX (by decide +kernel) (by decide +kernel) ?_
  refine J_aload_n (k0 := 0) (pc := 137) 0 hX (by decide +kernel) rfl rfl ?_
  refine J_aload_n (k0 := 0) (pc := 138) 0 hX (by decide +kernel) rfl rfl ?_
  refine J_gr (pc := 139) hX (by decide +kernel) fl_Mo_89 hL.1 rfl hL.2.2.2.2.2.2.2.2.2.2.2.2.2.2.2.2.2.2.2.2.2.2.2.2.2.2.1.1 ?_
  refine J_iconst (pc := 142) (n := 0) (v := 0) hX (by decide +kernel) (by decide +kernel) ?_
  refine J_ldA (pc := 143) hX (by decide +kernel) hL.2.2.2.2.2.2.2.2.2.2.2.2.2.2.2.2.2.2.2.2.2.2.2.2.2.2.1.2 (fun x45 => ?_)
  refine J_cVi (pc := 144) (idx := 498) [.int x45] hX (by decide +kernel) (mq mt_9 9 (by decide +kernel)) mv_Mo_keeps hL.1 rfl rfl (Nat.le_of_ble_eq_true rfl) (Nat.le_of_ble_eq_true rfl) (c_Mo_keeps hL x45 μ44) (fun x47 μ46 => ?_)
  refine J_stA (pc := 147) hX (by decide +kernel) hL.2.2.2.2.2.2.2.2.2.2.2.2.2.2.2.2.2.2.2.2.2.2.2.2.2.2.1.2 (fun μ48 => ?_)
  refine J_aload_n (k0 := 0) (pc := 148) 0 hX (by decide +kernel) rfl rfl ?_
  refine J_gr (pc := 149) hX (by decide +kernel) fl_Mo_89 hL.1 rfl hL.2.2.2.2.2.2.2.2.2.2.2.2.2.2.2.2.2.2.2.2.2.2.2.2.2.2.1.1 ?_
  refine J_iconst (pc := 152) (n := 1) (v := 1) hX (by decide +kernel) (by decide +kernel) ?_
  refine J_aload_n (k0 := 0) (pc := 153) 0 hX (by decide +kernel) rfl rfl ?_
  refine J_aload_n (k0 := 0) (pc := 154) 0 hX (by decide +kernel) rfl rfl ?_
  refine J_gr (pc := 155) hX (by decide +kernel) fl_Mo_89 hL.1 rfl hL.2.2.2.2.2.2.2.2.2.2.2.2.2.2.2.2.2.2.2.2.2.2.2.2.2.2.1.1 ?_
  refine J_iconst (pc := 158) (n := 1) (v := 1) hX (by decide +kernel) (by decide +kernel) ?_
  refine J_ldA (pc := 159) hX (by decide +kernel) hL.2.2.2.2.2.2.2.2.2.2.2.2.2.2.2.2.2.2.2.2.2.2.2.2.2.2.1.2 (fun x49 => ?_)
  refine J_cVi (pc := 160) (idx := 498) [.int x49] hX (by decide +kernel) (mq mt_9 9 (by decide +kernel)) mv_Mo_keeps hL.1 rfl rfl (Nat.le_of_ble_eq_true rfl) (Nat.le_of_ble_eq_true rfl) (c_Mo_keeps hL x49 μ48) (fun x51 μ50 => ?_)
  refine J_stA (pc := 163) hX (by decide +kernel) hL.2.2.2.2.2.2.2.2.2.2.2.2.2.2.2.2.2.2.2.2.2.2.2.2.2.2.1.2 (fun μ52 => ?_)
  refine J_iconst (pc := 164) (n := 0) (v := 0) hX (by decide +kernel) (by decide +kernel) ?_
  refine J_istore_n (k0 := 1) (pc := 165) [(1, .int 0), (0, .ref (G.1 + a))] hX (by decide +kernel) rfl (by decide) rfl ?_
  exact J_sub [1, 0] _ rfl (jMo_keepsTold_166 hL hX FU 0 μ52)
set_option maxRecDepth 100000 in
set_option maxHeartbeats 4000000 in
theorem c_Mo_keepsTold {l : Launch} {G : Gx} {y : Ly} {a : Nat} (hL : LyMo y a )  (μ : Mu) : Cn l G ⟨"SaltFiguresModel", "keepsTold", "()V"⟩ prog_13_method_133_code 2 none 2 [.ref (G.1 + a)] (μ, y) (emy y) rvV tpT (Mo_keepsTold a  μ) := cn_of (by decide +kernel) (Nat.le_of_ble_eq_true rfl) (fun _ _ _ => ⟨List.prefix_refl _, trivial⟩) (fun X hX _ => jMo_keepsTold hL hX  μ)

def Mo_keepsLaw_96b (a : Nat)  (kb96 : Int32 → Mu → Option (Unit × Mu))  (v1 : Int32)  (μ : Mu) : Option (Unit × Mu) := (if 400 ≤ v1 then some ((), μ) else ldA μ (a + 12) 1200 v1 (fun x1 => cl (Mo_keeps a x1 μ) (fun x3 μ2 => stA μ2 (a + 12) 1200 v1 x3 (fun μ4 => ldA μ4 (a + 13) 1200 v1 (fun x5 => cl (Mo_keeps a x5 μ4) (fun x7 μ6 => stA μ6 (a + 13) 1200 v1 x7 (fun μ8 => kb96 (v1 + 1) μ8)))))))
def Mo_keepsLaw_96 (a : Nat)   (fu : Nat) : Int32 → Mu → Option (Unit × Mu) := lp (fun kb => Mo_keepsLaw_96b a  kb ) (fun _ _ => none) fu
def Mo_keepsLaw_18b (a : Nat)  (kb18 : Int32 → Mu → Option (Unit × Mu))  (v1 : Int32)  (μ : Mu) : Option (Unit × Mu) := (if 16 ≤ v1 then Mo_keepsLaw_96 a FU 0 μ else ldA μ (a + 8) 48 v1 (fun x1 => cl (Mo_keeps a x1 μ) (fun x3 μ2 => stA μ2 (a + 8) 48 v1 x3 (fun μ4 => ldA μ4 (a + 9) 48 v1 (fun x5 => cl (Mo_keeps a x5 μ4) (fun x7 μ6 => stA μ6 (a + 9) 48 v1 x7 (fun μ8 => ldA μ8 (a + 10) 48 v1 (fun x9 => cl (Mo_keeps a x9 μ8) (fun x11 μ10 => stA μ10 (a + 10) 48 v1 x11 (fun μ12 => ldA μ12 (a + 11) 48 v1 (fun x13 => cl (Mo_keeps a x13 μ12) (fun x15 μ14 => stA μ14 (a + 11) 48 v1 x15 (fun μ16 => kb18 (v1 + 1) μ16)))))))))))))
def Mo_keepsLaw_18 (a : Nat)   (fu : Nat) : Int32 → Mu → Option (Unit × Mu) := lp (fun kb => Mo_keepsLaw_18b a  kb ) (fun _ _ => none) fu
def Mo_keepsLaw (a : Nat)  (μ : Mu) : Option (Unit × Mu) := ldA μ (a + 7) 2 0 (fun x1 => cl (Mo_keeps a x1 μ) (fun x3 μ2 => stA μ2 (a + 7) 2 0 x3 (fun μ4 => Mo_keepsLaw_18 a FU 0 μ4)))
set_option maxRecDepth 100000 in
set_option maxHeartbeats 4000000 in
theorem jMo_keepsLaw_96b {X : Cx} {l : Launch} {G : Gx} {y : Ly} {a : Nat} (hL : LyMo y a ) (hX : Ok X l G prog_13_method_132_code 2 none "SaltFiguresModel")   {kb96 : Int32 → Mu → Option (Unit × Mu)}  (hk96 : ∀ (v1 : Int32) (μ : Mu), J X G 2 2 y (emy y) rvV tpT 96 [(0, .ref (G.1 + a)), (1, .int v1)] [] (μ, y) (kb96 v1 μ)) (v1 : Int32)  (μ : Mu) : J X G 2 2 y (emy y) rvV tpT 96 [(0, .ref (G.1 + a)), (1, .int v1)] [] (μ, y) (Mo_keepsLaw_96b a  kb96  v1  μ) := by
  unfold Mo_keepsLaw_96b
  refine J_iload_n (k0 := 1) (pc := 96) 1 hX (by decide +kernel) rfl rfl ?_
  refine J_sipush (pc := 97) (n := 400) (v := 400) hX (by decide +kernel) (by decide +kernel) ?_
  refine J_icmp_ge (pc := 100) (off := 41) (tgt := 141) hX (by decide +kernel) (by decide +kernel) (fun _ => ?_) (fun _ => ?_)
  · exact J_vret (pc := 141) hX (by decide +kernel) rfl trivial
  · refine J_aload_n (k0 := 0) (pc := 103) 0 hX (by decide +kernel) rfl rfl ?_
    refine J_gr (pc := 104) hX (by decide +kernel) fl_Mo_43 hL.1 rfl hL.2.2.2.2.2.2.2.2.2.2.2.2.1.1 ?_
    refine J_iload_n (k0 := 1) (pc := 107) 1 hX (by decide +kernel) rfl rfl ?_
    refine J_aload_n (k0 := 0) (pc := 108) 0 hX (by decide +kernel) rfl rfl ?_
    refine J_aload_n (k0 := 0) (pc := 109) 0 hX (by decide +kernel) rfl rfl ?_
    refine J_gr (pc := 110) hX (by decide +kernel) fl_Mo_43 hL.1 rfl hL.2.2.2.2.2.2.2.2.2.2.2.2.1.1 ?_
    refine J_iload_n (k0 := 1) (pc := 113) 1 hX (by decide +kernel) rfl rfl ?_
    refine J_ldA (pc := 114) hX (by decide +kernel) hL.2.2.2.2.2.2.2.2.2.2.2.2.1.2 (fun x1 => ?_)
    refine J_cVi (pc := 115) (idx := 498) [.int x1] hX (by decide +kernel) (mq mt_9 9 (by decide +kernel)) mv_Mo_keeps hL.1 rfl rfl (Nat.le_of_ble_eq_true rfl) (Nat.le_of_ble_eq_true rfl) (c_Mo_keeps hL x1 μ) (fun x3 μ2 => ?_)
    refine J_stA (pc := 118) hX (by decide +kernel) hL.2.2.2.2.2.2.2.2.2.2.2.2.1.2 (fun μ4 => ?_)
    refine J_aload_n (k0 := 0) (pc := 119) 0 hX (by decide +kernel) rfl rfl ?_
    refine J_gr (pc := 120) hX (by decide +kernel) fl_Mo_46 hL.1 rfl hL.2.2.2.2.2.2.2.2.2.2.2.2.2.1.1 ?_
    refine J_iload_n (k0 := 1) (pc := 123) 1 hX (by decide +kernel) rfl rfl ?_
    refine J_aload_n (k0 := 0) (pc := 124) 0 hX (by decide +kernel) rfl rfl ?_
    refine J_aload_n (k0 := 0) (pc := 125) 0 hX (by decide +kernel) rfl rfl ?_
    refine J_gr (pc := 126) hX (by decide +kernel) fl_Mo_46 hL.1 rfl hL.2.2.2.2.2.2.2.2.2.2.2.2.2.1.1 ?_
    refine J_iload_n (k0 := 1) (pc := 129) 1 hX (by decide +kernel) rfl rfl ?_
    refine J_ldA (pc := 130) hX (by decide +kernel) hL.2.2.2.2.2.2.2.2.2.2.2.2.2.1.2 (fun x5 => ?_)
    refine J_cVi (pc := 131) (idx := 498) [.int x5] hX (by decide +kernel) (mq mt_9 9 (by decide +kernel)) mv_Mo_keeps hL.1 rfl rfl (Nat.le_of_ble_eq_true rfl) (Nat.le_of_ble_eq_true rfl) (c_Mo_keeps hL x5 μ4) (fun x7 μ6 => ?_)
    refine J_stA (pc := 134) hX (by decide +kernel) hL.2.2.2.2.2.2.2.2.2.2.2.2.2.1.2 (fun μ8 => ?_)
    refine J_iinc (pc := 135) (n := 1) 1 [(1, .int (v1 + 1)), (0, .ref (G.1 + a))] hX (by decide +kernel) rfl rfl (by decide) rfl ?_
    refine J_goto (pc := 138) (off := -42) (tgt := 96) hX (by decide +kernel) (by decide +kernel) ?_
    exact J_sub [1, 0] _ rfl (hk96 (v1 + 1) μ8)
set_option maxRecDepth 100000 in
set_option maxHeartbeats 4000000 in
theorem jMo_keepsLaw_96 {X : Cx} {l : Launch} {G : Gx} {y : Ly} {a : Nat} (hL : LyMo y a ) (hX : Ok X l G prog_13_method_132_code 2 none "SaltFiguresModel")    : ∀ (fu : Nat) (v1 : Int32) (μ : Mu), J X G 2 2 y (emy y) rvV tpT 96 [(0, .ref (G.1 + a)), (1, .int v1)] [] (μ, y) (Mo_keepsLaw_96 a   fu v1 μ) := by
  intro fu
  induction fu with
  | zero => intros; exact J_none
  | succ fu ih => intro v1 μ; exact jMo_keepsLaw_96b hL hX   ih v1 μ
set_option maxRecDepth 100000 in
set_option maxHeartbeats 4000000 in
theorem jMo_keepsLaw_18b {X : Cx} {l : Launch} {G : Gx} {y : Ly} {a : Nat} (hL : LyMo y a ) (hX : Ok X l G prog_13_method_132_code 2 none "SaltFiguresModel")   {kb18 : Int32 → Mu → Option (Unit × Mu)}  (hk18 : ∀ (v1 : Int32) (μ : Mu), J X G 2 2 y (emy y) rvV tpT 18 [(0, .ref (G.1 + a)), (1, .int v1)] [] (μ, y) (kb18 v1 μ)) (v1 : Int32)  (μ : Mu) : J X G 2 2 y (emy y) rvV tpT 18 [(0, .ref (G.1 + a)), (1, .int v1)] [] (μ, y) (Mo_keepsLaw_18b a  kb18  v1  μ) := by
  unfold Mo_keepsLaw_18b
  refine J_iload_n (k0 := 1) (pc := 18) 1 hX (by decide +kernel) rfl rfl ?_
  refine J_bipush (pc := 19) (n := 16) (v := 16) hX (by decide +kernel) (by decide +kernel) ?_
  refine J_icmp_ge (pc := 21) (off := 73) (tgt := 94) hX (by decide +kernel) (by decide +kernel) (fun _ => ?_) (fun _ => ?_)
  · refine J_iconst (pc := 94) (n := 0) (v := 0) hX (by decide +kernel) (by decide +kernel) ?_
    refine J_istore_n (k0 := 1) (pc := 95) [(1, .int 0), (0, .ref (G.1 + a))] hX (by decide +kernel) rfl (by decide) rfl ?_
    exact J_sub [1, 0] _ rfl (jMo_keepsLaw_96 hL hX FU 0 μ)
  · refine J_aload_n (k0 := 0) (pc := 24) 0 hX (by decide +kernel) rfl rfl ?_
    refine J_gr (pc := 25) hX (by decide +kernel) fl_Mo_31 hL.1 rfl hL.2.2.2.2.2.2.2.2.1.1 ?_
    refine J_iload_n (k0 := 1) (pc := 28) 1 hX (by decide +kernel) rfl rfl ?_
    refine J_aload_n (k0 := 0) (pc := 29) 0 hX (by decide +kernel) rfl rfl ?_
    refine J_aload_n (k0 := 0) (pc := 30) 0 hX (by decide +kernel) rfl rfl ?_
    refine J_gr (pc := 31) hX (by decide +kernel) fl_Mo_31 hL.1 rfl hL.2.2.2.2.2.2.2.2.1.1 ?_
    refine J_iload_n (k0 := 1) (pc := 34) 1 hX (by decide +kernel) rfl rfl ?_
    refine J_ldA (pc := 35) hX (by decide +kernel) hL.2.2.2.2.2.2.2.2.1.2 (fun x1 => ?_)
    refine J_cVi (pc := 36) (idx := 498) [.int x1] hX (by decide +kernel) (mq mt_9 9 (by decide +kernel)) mv_Mo_keeps hL.1 rfl rfl (Nat.le_of_ble_eq_true rfl) (Nat.le_of_ble_eq_true rfl) (c_Mo_keeps hL x1 μ) (fun x3 μ2 => ?_)
    refine J_stA (pc := 39) hX (by decide +kernel) hL.2.2.2.2.2.2.2.2.1.2 (fun μ4 => ?_)
    refine J_aload_n (k0 := 0) (pc := 40) 0 hX (by decide +kernel) rfl rfl ?_
    refine J_gr (pc := 41) hX (by decide +kernel) fl_Mo_34 hL.1 rfl hL.2.2.2.2.2.2.2.2.2.1.1 ?_
    refine J_iload_n (k0 := 1) (pc := 44) 1 hX (by decide +kernel) rfl rfl ?_
    refine J_aload_n (k0 := 0) (pc := 45) 0 hX (by decide +kernel) rfl rfl ?_
    refine J_aload_n (k0 := 0) (pc := 46) 0 hX (by decide +kernel) rfl rfl ?_
    refine J_gr (pc := 47) hX (by decide +kernel) fl_Mo_34 hL.1 rfl hL.2.2.2.2.2.2.2.2.2.1.1 ?_
    refine J_iload_n (k0 := 1) (pc := 50) 1 hX (by decide +kernel) rfl rfl ?_
    refine J_ldA (pc := 51) hX (by decide +kernel) hL.2.2.2.2.2.2.2.2.2.1.2 (fun x5 => ?_)
    refine J_cVi (pc := 52) (idx := 498) [.int x5] hX (by decide +kernel) (mq mt_9 9 (by decide +kernel)) mv_Mo_keeps hL.1 rfl rfl (Nat.le_of_ble_eq_true rfl) (Nat.le_of_ble_eq_true rfl) (c_Mo_keeps hL x5 μ4) (fun x7 μ6 => ?_)
    refine J_stA (pc := 55) hX (by decide +kernel) hL.2.2.2.2.2.2.2.2.2.1.2 (fun μ8 => ?_)
    refine J_aload_n (k0 := 0) (pc := 56) 0 hX (by decide +kernel) rfl rfl ?_
    refine J_gr (pc := 57) hX (by decide +kernel) fl_Mo_37 hL.1 rfl hL.2.2.2.2.2.2.2.2.2.2.1.1 ?_
    refine J_iload_n (k0 := 1) (pc := 60) 1 hX (by decide +kernel) rfl rfl ?_
    refine J_aload_n (k0 := 0) (pc := 61) 0 hX (by decide +kernel) rfl rfl ?_
    refine J_aload_n (k0 := 0) (pc := 62) 0 hX (by decide +kernel) rfl rfl ?_
    refine J_gr (pc := 63) hX (by decide +kernel) fl_Mo_37 hL.1 rfl hL.2.2.2.2.2.2.2.2.2.2.1.1 ?_
    refine J_iload_n (k0 := 1) (pc := 66) 1 hX (by decide +kernel) rfl rfl ?_
    refine J_ldA (pc := 67) hX (by decide +kernel) hL.2.2.2.2.2.2.2.2.2.2.1.2 (fun x9 => ?_)
    refine J_cVi (pc := 68) (idx := 498) [.int x9] hX (by decide +kernel) (mq mt_9 9 (by decide +kernel)) mv_Mo_keeps hL.1 rfl rfl (Nat.le_of_ble_eq_true rfl) (Nat.le_of_ble_eq_true rfl) (c_Mo_keeps hL x9 μ8) (fun x11 μ10 => ?_)
    refine J_stA (pc := 71) hX (by decide +kernel) hL.2.2.2.2.2.2.2.2.2.2.1.2 (fun μ12 => ?_)
    refine J_aload_n (k0 := 0) (pc := 72) 0 hX (by decide +kernel) rfl rfl ?_
    refine J_gr (pc := 73) hX (by decide +kernel) fl_Mo_40 hL.1 rfl hL.2.2.2.2.2.2.2.2.2.2.2.1.1 ?_
    refine J_iload_n (k0 := 1) (pc := 76) 1 hX (by decide +kernel) rfl rfl ?_
    refine J_aload_n (k0 := 0) (pc := 77) 0 hX (by decide +kernel) rfl rfl ?_
    refine J_aload_n (k0 := 0) (pc := 78) 0 hX (by decide +kernel) rfl rfl ?_
    refine J_gr (pc := 79) hX (by decide +kernel) fl_Mo_40 hL.1 rfl hL.2.2.2.2.2.2.2.2.2.2.2.1.1 ?_
    refine J_iload_n (k0 := 1) (pc := 82) 1 hX (by decide +kernel) rfl rfl ?_
    refine J_ldA (pc := 83) hX (by decide +kernel) hL.2.2.2.2.2.2.2.2.2.2.2.1.2 (fun x13 => ?_)
    refine J_cVi (pc := 84) (idx := 498) [.int x13] hX (by decide +kernel) (mq mt_9 9 (by decide +kernel)) mv_Mo_keeps hL.1 rfl rfl (Nat.le_of_ble_eq_true rfl) (Nat.le_of_ble_eq_true rfl) (c_Mo_keeps hL x13 μ12) (fun x15 μ14 => ?_)
    refine J_stA (pc := 87) hX (by decide +kernel) hL.2.2.2.2.2.2.2.2.2.2.2.1.2 (fun μ16 => ?_)
    refine J_iinc (pc := 88) (n := 1) 1 [(1, .int (v1 + 1)), (0, .ref (G.1 + a))] hX (by decide +kernel) rfl rfl (by decide) rfl ?_
    refine J_goto (pc := 91) (off := -73) (tgt := 18) hX (by decide +kernel) (by decide +kernel) ?_
    exact J_sub [1, 0] _ rfl (hk18 (v1 + 1) μ16)
set_option maxRecDepth 100000 in
set_option maxHeartbeats 4000000 in
theorem jMo_keepsLaw_18 {X : Cx} {l : Launch} {G : Gx} {y : Ly} {a : Nat} (hL : LyMo y a ) (hX : Ok X l G prog_13_method_132_code 2 none "SaltFiguresModel")    : ∀ (fu : Nat) (v1 : Int32) (μ : Mu), J X G 2 2 y (emy y) rvV tpT 18 [(0, .ref (G.1 + a)), (1, .int v1)] [] (μ, y) (Mo_keepsLaw_18 a   fu v1 μ) := by
  intro fu
  induction fu with
  | zero => intros; exact J_none
  | succ fu ih => intro v1 μ; exact jMo_keepsLaw_18b hL hX   ih v1 μ
set_option maxRecDepth 100000 in
set_option maxHeartbeats 4000000 in
theorem jMo_keepsLaw {X : Cx} {l : Launch} {G : Gx} {y : Ly} {a : Nat} (hL : LyMo y a ) (hX : Ok X l G prog_13_method_132_code 2 none "SaltFiguresModel")  (μ : Mu) : J X G 2 2 y (emy y) rvV tpT 0 [(0, .ref (G.1 + a))] [] (μ, y) (Mo_keepsLaw a  μ) := by
  unfold Mo_keepsLaw
  refine J_aload_n (k0 := 0) (pc := 0) 0 hX (by decide +kernel) rfl rfl ?_
  refine J_gr (pc := 1) hX (by decide +kernel) fl_Mo_28 hL.1 rfl hL.2.2.2.2.2.2.2.1.1 ?_
  refine J_iconst (pc := 4) (n := 0) (v := 0) hX (by decide +kernel) (by decide +kernel) ?_
  refine J_aload_n (k0 := 0) (pc := 5) 0 hX (by decide +kernel) rfl rfl ?_
  refine J_aload_n (k0 := 0) (pc := 6) 0 hX (by decide +kernel) rfl rfl ?_
  refine J_gr (pc := 7) hX (by decide +kernel) fl_Mo_28 hL.1 rfl hL.2.2.2.2.2.2.2.1.1 ?_
  refine J_iconst (pc := 10) (n := 0) (v := 0) hX (by decide +kernel) (by decide +kernel) ?_
  refine J_ldA (pc := 11) hX (by decide +kernel) hL.2.2.2.2.2.2.2.1.2 (fun x1 => ?_)
  refine J_cVi (pc := 12) (idx := 498) [.int x1] hX (by decide +kernel) (mq mt_9 9 (by decide +kernel)) mv_Mo_keeps hL.1 rfl rfl (Nat.le_of_ble_eq_true rfl) (Nat.le_of_ble_eq_true rfl) (c_Mo_keeps hL x1 μ) (fun x3 μ2 => ?_)
  refine J_stA (pc := 15) hX (by decide +kernel) hL.2.2.2.2.2.2.2.1.2 (fun μ4 => ?_)
  refine J_iconst (pc := 16) (n := 0) (v := 0) hX (by decide +kernel) (by decide +kernel) ?_
  refine J_istore_n (k0 := 1) (pc := 17) [(1, .int 0), (0, .ref (G.1 + a))] hX (by decide +kernel) rfl (by decide) rfl ?_
  exact J_sub [1, 0] _ rfl (jMo_keepsLaw_18 hL hX FU 0 μ4)
set_option maxRecDepth 100000 in
set_option maxHeartbeats 4000000 in
theorem c_Mo_keepsLaw {l : Launch} {G : Gx} {y : Ly} {a : Nat} (hL : LyMo y a )  (μ : Mu) : Cn l G ⟨"SaltFiguresModel", "keepsLaw", "()V"⟩ prog_13_method_132_code 2 none 2 [.ref (G.1 + a)] (μ, y) (emy y) rvV tpT (Mo_keepsLaw a  μ) := cn_of (by decide +kernel) (Nat.le_of_ble_eq_true rfl) (fun _ _ _ => ⟨List.prefix_refl _, trivial⟩) (fun X hX _ => jMo_keepsLaw hL hX  μ)

def Mo_image_69b (a : Nat)  (kb69 : Int32 → Mu → Option (Int32 × Mu)) (v1 : Int32) (v2 : Int32)  (μ : Mu) : Option (Int32 × Mu) := (if 600 ≤ v2 then cl (Mo_keepsLaw a μ) (fun _ μ1 => (if v1 = 0 then pF μ1 a 3 0 (fun μ2 => some (1, μ2)) else some (1, μ1))) else ldA μ (a + 4) 600 v2 (fun x3 => cl (Mo_keeps a x3 μ) (fun x5 μ4 => stA μ4 (a + 4) 600 v2 x5 (fun μ6 => kb69 (v2 + 1) μ6))))
def Mo_image_69 (a : Nat)  (v1 : Int32) (fu : Nat) : Int32 → Mu → Option (Int32 × Mu) := lp (fun kb => Mo_image_69b a  kb v1) (fun _ _ => none) fu
def Mo_image_35b (a : Nat)  (kb35 : Int32 → Mu → Option (Int32 × Mu)) (v1 : Int32) (v2 : Int32)  (μ : Mu) : Option (Int32 × Mu) := (if 118 ≤ v2 then cl (Mo_keepsTold a μ) (fun _ μ1 => Mo_image_69 a v1 FU 0 μ1) else ldA μ (a + 1) 118 v2 (fun x2 => cl (Mo_keeps a x2 μ) (fun x4 μ3 => stA μ3 (a + 1) 118 v2 x4 (fun μ5 => kb35 (v2 + 1) μ5))))
def Mo_image_35 (a : Nat)  (v1 : Int32) (fu : Nat) : Int32 → Mu → Option (Int32 × Mu) := lp (fun kb => Mo_image_35b a  kb v1) (fun _ _ => none) fu
def Mo_image_18 (a : Nat)   (v1 : Int32)  (μ : Mu) : Option (Int32 × Mu) := zg v1 (pF μ a 65 v1 (fun μ1 => zg 1 (pF μ1 a 66 1 (fun μ2 => pF μ2 a 67 0 (fun μ3 => Mo_image_35 a v1 FU 0 μ3)))))
def Mo_image (a : Nat) (v1 : Int32) (μ : Mu) : Option (Int32 × Mu) := pF μ a 0 0 (fun μ1 => (if v1 = 0 then gF μ1 a 66 (fun x2 => (if x2 = 0 then some (0, μ1) else Mo_image_18 a v1 μ1)) else Mo_image_18 a v1 μ1))
set_option maxRecDepth 100000 in
set_option maxHeartbeats 4000000 in
theorem jMo_image_69b {X : Cx} {l : Launch} {G : Gx} {y : Ly} {a : Nat} (hL : LyMo y a ) (hX : Ok X l G prog_13_method_134_code 3 (some .boolean) "SaltFiguresModel") (v1 : Int32)  {kb69 : Int32 → Mu → Option (Int32 × Mu)}  (hk69 : ∀ (v2 : Int32) (μ : Mu), J X G 3 3 y (emy y) rvI tpT 69 [(0, .ref (G.1 + a)), (1, .int v1), (2, .int v2)] [] (μ, y) (kb69 v2 μ)) (v2 : Int32)  (μ : Mu) : J X G 3 3 y (emy y) rvI tpT 69 [(0, .ref (G.1 + a)), (1, .int v1), (2, .int v2)] [] (μ, y) (Mo_image_69b a  kb69 v1 v2  μ) := by
  unfold Mo_image_69b
  refine J_iload_n (k0 := 2) (pc := 69) 2 hX (by decide +kernel) rfl rfl ?_
  refine J_sipush (pc := 70) (n := 600) (v := 600) hX (by decide +kernel) (by decide +kernel) ?_
  refine J_icmp_ge (pc := 73) (off := 25) (tgt := 98) hX (by decide +kernel) (by decide +kernel) (fun _ => ?_) (fun _ => ?_)
  · refine J_aload_n (k0 := 0) (pc := 98) 0 hX (by decide +kernel) rfl rfl ?_
    refine J_cVv (pc := 99) (idx := 507) [] hX (by decide +kernel) (mq mt_9 17 (by decide +kernel)) mv_Mo_keepsLaw hL.1 rfl rfl (Nat.le_of_ble_eq_true rfl) (Nat.le_of_ble_eq_true rfl) (c_Mo_keepsLaw hL μ) (fun μ1 => ?_)
    refine J_iload_n (k0 := 1) (pc := 102) 1 hX (by decide +kernel) rfl rfl ?_
    refine J_if_ne (pc := 103) (off := 8) (tgt := 111) hX (by decide +kernel) (by decide +kernel) (fun _ => ?_) (fun _ => ?_)
    · refine J_iconst (pc := 111) (n := 1) (v := 1) hX (by decide +kernel) (by decide +kernel) ?_
      exact J_zret (pc := 112) hX (by decide +kernel) rfl (by decide +kernel) trivial
    · refine J_aload_n (k0 := 0) (pc := 106) 0 hX (by decide +kernel) rfl rfl ?_
      refine J_iconst (pc := 107) (n := 0) (v := 0) hX (by decide +kernel) (by decide +kernel) ?_
      refine J_pF (pc := 108) hX (by decide +kernel) fl_Mo_135 hL.1 rfl (fun μ2 => ?_)
      refine J_iconst (pc := 111) (n := 1) (v := 1) hX (by decide +kernel) (by decide +kernel) ?_
      exact J_zret (pc := 112) hX (by decide +kernel) rfl (by decide +kernel) trivial
  · refine J_aload_n (k0 := 0) (pc := 76) 0 hX (by decide +kernel) rfl rfl ?_
    refine J_gr (pc := 77) hX (by decide +kernel) fl_Mo_19 hL.1 rfl hL.2.2.2.2.1.1 ?_
    refine J_iload_n (k0 := 2) (pc := 80) 2 hX (by decide +kernel) rfl rfl ?_
    refine J_aload_n (k0 := 0) (pc := 81) 0 hX (by decide +kernel) rfl rfl ?_
    refine J_aload_n (k0 := 0) (pc := 82) 0 hX (by decide +kernel) rfl rfl ?_
    refine J_gr (pc := 83) hX (by decide +kernel) fl_Mo_19 hL.1 rfl hL.2.2.2.2.1.1 ?_
    refine J_iload_n (k0 := 2) (pc := 86) 2 hX (by decide +kernel) rfl rfl ?_
    refine J_ldA (pc := 87) hX (by decide +kernel) hL.2.2.2.2.1.2 (fun x3 => ?_)
    refine J_cVi (pc := 88) (idx := 498) [.int x3] hX (by decide +kernel) (mq mt_9 9 (by decide +kernel)) mv_Mo_keeps hL.1 rfl rfl (Nat.le_of_ble_eq_true rfl) (Nat.le_of_ble_eq_true rfl) (c_Mo_keeps hL x3 μ) (fun x5 μ4 => ?_)
    refine J_stA (pc := 91) hX (by decide +kernel) hL.2.2.2.2.1.2 (fun μ6 => ?_)
    refine J_iinc (pc := 92) (n := 1) 2 [(2, .int (v2 + 1)), (0, .ref (G.1 + a)), (1, .int v1)] hX (by decide +kernel) rfl rfl (by decide) rfl ?_
    refine J_goto (pc := 95) (off := -26) (tgt := 69) hX (by decide +kernel) (by decide +kernel) ?_
    exact J_sub [1, 2, 0] _ rfl (hk69 (v2 + 1) μ6)
set_option maxRecDepth 100000 in
set_option maxHeartbeats 4000000 in
theorem jMo_image_69 {X : Cx} {l : Launch} {G : Gx} {y : Ly} {a : Nat} (hL : LyMo y a ) (hX : Ok X l G prog_13_method_134_code 3 (some .boolean) "SaltFiguresModel") (v1 : Int32)   : ∀ (fu : Nat) (v2 : Int32) (μ : Mu), J X G 3 3 y (emy y) rvI tpT 69 [(0, .ref (G.1 + a)), (1, .int v1), (2, .int v2)] [] (μ, y) (Mo_image_69 a  v1 fu v2 μ) := by
  intro fu
  induction fu with
  | zero => intros; exact J_none
  | succ fu ih => intro v2 μ; exact jMo_image_69b hL hX v1  ih v2 μ
set_option maxRecDepth 100000 in
set_option maxHeartbeats 4000000 in
theorem jMo_image_35b {X : Cx} {l : Launch} {G : Gx} {y : Ly} {a : Nat} (hL : LyMo y a ) (hX : Ok X l G prog_13_method_134_code 3 (some .boolean) "SaltFiguresModel") (v1 : Int32)  {kb35 : Int32 → Mu → Option (Int32 × Mu)}  (hk35 : ∀ (v2 : Int32) (μ : Mu), J X G 3 3 y (emy y) rvI tpT 35 [(0, .ref (G.1 + a)), (1, .int v1), (2, .int v2)] [] (μ, y) (kb35 v2 μ)) (v2 : Int32)  (μ : Mu) : J X G 3 3 y (emy y) rvI tpT 35 [(0, .ref (G.1 + a)), (1, .int v1), (2, .int v2)] [] (μ, y) (Mo_image_35b a  kb35 v1 v2  μ) := by
  unfold Mo_image_35b
  refine J_iload_n (k0 := 2) (pc := 35) 2 hX (by decide +kernel) rfl rfl ?_
  refine J_bipush (pc := 36) (n := 118) (v := 118) hX (by decide +kernel) (by decide +kernel) ?_
  refine J_icmp_ge (pc := 38) (off := 25) (tgt := 63) hX (by decide +kernel) (by decide +kernel) (fun _ => ?_) (fun _ => ?_)
  · refine J_aload_n (k0 := 0) (pc := 63) 0 hX (by decide +kernel) rfl rfl ?_
    refine J_cVv (pc := 64) (idx := 504) [] hX (by decide +kernel) (mq mt_9 13 (by decide +kernel)) mv_Mo_keepsTold hL.1 rfl rfl (Nat.le_of_ble_eq_true rfl) (Nat.le_of_ble_eq_true rfl) (c_Mo_keepsTold hL μ) (fun μ1 => ?_)
    refine J_iconst (pc := 67) (n := 0) (v := 0) hX (by decide +kernel) (by decide +kernel) ?_
    refine J_istore_n (k0 := 2) (pc := 68) [(2, .int 0), (0, .ref (G.1 + a)), (1, .int v1)] hX (by decide +kernel) rfl (by decide) rfl ?_
    exact J_sub [1, 2, 0] _ rfl (jMo_image_69 hL hX v1 FU 0 μ1)
  · refine J_aload_n (k0 := 0) (pc := 41) 0 hX (by decide +kernel) rfl rfl ?_
    refine J_gr (pc := 42) hX (by decide +kernel) fl_Mo_7 hL.1 rfl hL.2.1.1 ?_
    refine J_iload_n (k0 := 2) (pc := 45) 2 hX (by decide +kernel) rfl rfl ?_
    refine J_aload_n (k0 := 0) (pc := 46) 0 hX (by decide +kernel) rfl rfl ?_
    refine J_aload_n (k0 := 0) (pc := 47) 0 hX (by decide +kernel) rfl rfl ?_
    refine J_gr (pc := 48) hX (by decide +kernel) fl_Mo_7 hL.1 rfl hL.2.1.1 ?_
    refine J_iload_n (k0 := 2) (pc := 51) 2 hX (by decide +kernel) rfl rfl ?_
    refine J_ldA (pc := 52) hX (by decide +kernel) hL.2.1.2 (fun x2 => ?_)
    refine J_cVi (pc := 53) (idx := 498) [.int x2] hX (by decide +kernel) (mq mt_9 9 (by decide +kernel)) mv_Mo_keeps hL.1 rfl rfl (Nat.le_of_ble_eq_true rfl) (Nat.le_of_ble_eq_true rfl) (c_Mo_keeps hL x2 μ) (fun x4 μ3 => ?_)
    refine J_stA (pc := 56) hX (by decide +kernel) hL.2.1.2 (fun μ5 => ?_)
    refine J_iinc (pc := 57) (n := 1) 2 [(2, .int (v2 + 1)), (0, .ref (G.1 + a)), (1, .int v1)] hX (by decide +kernel) rfl rfl (by decide) rfl ?_
    refine J_goto (pc := 60) (off := -25) (tgt := 35) hX (by decide +kernel) (by decide +kernel) ?_
    exact J_sub [1, 2, 0] _ rfl (hk35 (v2 + 1) μ5)
set_option maxRecDepth 100000 in
set_option maxHeartbeats 4000000 in
theorem jMo_image_35 {X : Cx} {l : Launch} {G : Gx} {y : Ly} {a : Nat} (hL : LyMo y a ) (hX : Ok X l G prog_13_method_134_code 3 (some .boolean) "SaltFiguresModel") (v1 : Int32)   : ∀ (fu : Nat) (v2 : Int32) (μ : Mu), J X G 3 3 y (emy y) rvI tpT 35 [(0, .ref (G.1 + a)), (1, .int v1), (2, .int v2)] [] (μ, y) (Mo_image_35 a  v1 fu v2 μ) := by
  intro fu
  induction fu with
  | zero => intros; exact J_none
  | succ fu ih => intro v2 μ; exact jMo_image_35b hL hX v1  ih v2 μ
set_option maxRecDepth 100000 in
set_option maxHeartbeats 4000000 in
theorem jMo_image_18 {X : Cx} {l : Launch} {G : Gx} {y : Ly} {a : Nat} (hL : LyMo y a ) (hX : Ok X l G prog_13_method_134_code 3 (some .boolean) "SaltFiguresModel")  (v1 : Int32)    (μ : Mu) : J X G 3 3 y (emy y) rvI tpT 18 [(0, .ref (G.1 + a)), (1, .int v1)] [] (μ, y) (Mo_image_18 a   v1  μ) := by
  unfold Mo_image_18
  refine J_aload_n (k0 := 0) (pc := 18) 0 hX (by decide +kernel) rfl rfl ?_
  refine J_iload_n (k0 := 1) (pc := 19) 1 hX (by decide +kernel) rfl rfl ?_
  refine J_pFz (pc := 20) hX (by decide +kernel) fl_Mo_495 hL.1 rfl (fun μ1 => ?_)
  refine J_aload_n (k0 := 0) (pc := 23) 0 hX (by decide +kernel) rfl rfl ?_
  refine J_iconst (pc := 24) (n := 1) (v := 1) hX (by decide +kernel) (by decide +kernel) ?_
  refine J_pFz (pc := 25) hX (by decide +kernel) fl_Mo_501 hL.1 rfl (fun μ2 => ?_)
  refine J_aload_n (k0 := 0) (pc := 28) 0 hX (by decide +kernel) rfl rfl ?_
  refine J_iconst (pc := 29) (n := 0) (v := 0) hX (by decide +kernel) (by decide +kernel) ?_
  refine J_pF (pc := 30) hX (by decide +kernel) fl_Mo_492 hL.1 rfl (fun μ3 => ?_)
  refine J_iconst (pc := 33) (n := 0) (v := 0) hX (by decide +kernel) (by decide +kernel) ?_
  refine J_istore_n (k0 := 2) (pc := 34) [(2, .int 0), (0, .ref (G.1 + a)), (1, .int v1)] hX (by decide +kernel) rfl (by decide) rfl ?_
  exact J_sub [1, 2, 0] _ rfl (jMo_image_35 hL hX v1 FU 0 μ3)
set_option maxRecDepth 100000 in
set_option maxHeartbeats 4000000 in
theorem jMo_image {X : Cx} {l : Launch} {G : Gx} {y : Ly} {a : Nat} (hL : LyMo y a ) (hX : Ok X l G prog_13_method_134_code 3 (some .boolean) "SaltFiguresModel") (v1 : Int32) (μ : Mu) : J X G 3 3 y (emy y) rvI tpT 0 [(0, .ref (G.1 + a)), (1, .int v1)] [] (μ, y) (Mo_image a v1 μ) := by
  unfold Mo_image
  refine J_aload_n (k0 := 0) (pc := 0) 0 hX (by decide +kernel) rfl rfl ?_
  refine J_iconst (pc := 1) (n := 0) (v := 0) hX (by decide +kernel) (by decide +kernel) ?_
  refine J_pF (pc := 2) hX (by decide +kernel) fl_Mo_131 hL.1 rfl (fun μ1 => ?_)
  refine J_iload_n (k0 := 1) (pc := 5) 1 hX (by decide +kernel) rfl rfl ?_
  refine J_if_ne (pc := 6) (off := 12) (tgt := 18) hX (by decide +kernel) (by decide +kernel) (fun _ => ?_) (fun _ => ?_)
  · exact J_sub [0, 1] _ rfl (jMo_image_18 hL hX v1 μ1)
  · refine J_aload_n (k0 := 0) (pc := 9) 0 hX (by decide +kernel) rfl rfl ?_
    refine J_gF (pc := 10) hX (by decide +kernel) fl_Mo_501 hL.1 rfl (fun x2 => ?_)
    refine J_if_ne (pc := 13) (off := 5) (tgt := 18) hX (by decide +kernel) (by decide +kernel) (fun _ => ?_) (fun _ => ?_)
    · exact J_sub [0, 1] _ rfl (jMo_image_18 hL hX v1 μ1)
    · refine J_iconst (pc := 16) (n := 0) (v := 0) hX (by decide +kernel) (by decide +kernel) ?_
      exact J_zret (pc := 17) hX (by decide +kernel) rfl (by decide +kernel) trivial
set_option maxRecDepth 100000 in
set_option maxHeartbeats 4000000 in
theorem c_Mo_image {l : Launch} {G : Gx} {y : Ly} {a : Nat} (hL : LyMo y a ) (v1 : Int32) (μ : Mu) : Cn l G ⟨"SaltFiguresModel", "image", "(Z)Z"⟩ prog_13_method_134_code 3 (some .boolean) 3 [.ref (G.1 + a), .int v1] (μ, y) (emy y) rvI tpT (Mo_image a v1 μ) := cn_of (by decide +kernel) (Nat.le_of_ble_eq_true rfl) (fun _ _ _ => ⟨List.prefix_refl _, trivial⟩) (fun X hX _ => jMo_image hL hX v1 μ)

def Mo_isDigit (a : Nat) (v1 : Int32) (μ : Mu) : Option (Int32 × Mu) := cl (Mo_isIn a v1 48 57 μ) (fun x2 μ1 => zg x2 (some (x2, μ1)))
set_option maxRecDepth 100000 in
set_option maxHeartbeats 4000000 in
theorem jMo_isDigit {X : Cx} {l : Launch} {G : Gx} {y : Ly} {a : Nat} (hL : LyMo y a ) (hX : Ok X l G prog_13_method_28_code 2 (some .boolean) "SaltFiguresModel") (v1 : Int32) (μ : Mu) : J X G 2 2 y (emy y) rvI tpT 0 [(0, .ref (G.1 + a)), (1, .int v1)] [] (μ, y) (Mo_isDigit a v1 μ) := by
  unfold Mo_isDigit
  refine J_aload_n (k0 := 0) (pc := 0) 0 hX (by decide +kernel) rfl rfl ?_
  refine J_iload_n (k0 := 1) (pc := 1) 1 hX (by decide +kernel) rfl rfl ?_
  refine J_bipush (pc := 2) (n := 48) (v := 48) hX (by decide +kernel) (by decide +kernel) ?_
  refine J_bipush (pc := 4) (n := 57) (v := 57) hX (by decide +kernel) (by decide +kernel) ?_
  refine J_cVi (pc := 6) (idx := 154) [.int v1, .int 48, .int 57] hX (by decide +kernel) (mq mt_6 226 (by decide +kernel)) mv_Mo_isIn hL.1 rfl rfl (Nat.le_of_ble_eq_true rfl) (Nat.le_of_ble_eq_true rfl) (c_Mo_isIn hL v1 48 57 μ) (fun x2 μ1 => ?_)
  exact J_zgr (pc := 9) hX (by decide +kernel) rfl trivial
set_option maxRecDepth 100000 in
set_option maxHeartbeats 4000000 in
theorem c_Mo_isDigit {l : Launch} {G : Gx} {y : Ly} {a : Nat} (hL : LyMo y a ) (v1 : Int32) (μ : Mu) : Cn l G ⟨"SaltFiguresModel", "isDigit", "(I)Z"⟩ prog_13_method_28_code 2 (some .boolean) 2 [.ref (G.1 + a), .int v1] (μ, y) (emy y) rvI tpT (Mo_isDigit a v1 μ) := cn_of (by decide +kernel) (Nat.le_of_ble_eq_true rfl) (fun _ _ _ => ⟨List.prefix_refl _, trivial⟩) (fun X hX _ => jMo_isDigit hL hX v1 μ)

def Mo_isLetter_24 (a : Nat)     (μ : Mu) : Option (Int32 × Mu) := some (1, μ)
def Mo_isLetter (a : Nat) (v1 : Int32) (μ : Mu) : Option (Int32 × Mu) := cl (Mo_isIn a v1 97 122 μ) (fun x2 μ1 => (if x2 = 0 then cl (Mo_isIn a v1 65 90 μ1) (fun x4 μ3 => (if x4 = 0 then some (0, μ3) else Mo_isLetter_24 a μ3)) else Mo_isLetter_24 a μ1))
set_option maxRecDepth 100000 in
set_option maxHeartbeats 4000000 in
theorem jMo_isLetter_24 {X : Cx} {l : Launch} {G : Gx} {y : Ly} {a : Nat} (hL : LyMo y a ) (hX : Ok X l G prog_13_method_27_code 2 (some .boolean) "SaltFiguresModel")      (μ : Mu) : J X G 2 2 y (emy y) rvI tpT 24 [] [] (μ, y) (Mo_isLetter_24 a     μ) := by
  unfold Mo_isLetter_24
  refine J_iconst (pc := 24) (n := 1) (v := 1) hX (by decide +kernel) (by decide +kernel) ?_
  refine J_goto (pc := 25) (off := 4) (tgt := 29) hX (by decide +kernel) (by decide +kernel) ?_
  exact J_zret (pc := 29) hX (by decide +kernel) rfl (by decide +kernel) trivial
set_option maxRecDepth 100000 in
set_option maxHeartbeats 4000000 in
theorem jMo_isLetter {X : Cx} {l : Launch} {G : Gx} {y : Ly} {a : Nat} (hL : LyMo y a ) (hX : Ok X l G prog_13_method_27_code 2 (some .boolean) "SaltFiguresModel") (v1 : Int32) (μ : Mu) : J X G 2 2 y (emy y) rvI tpT 0 [(0, .ref (G.1 + a)), (1, .int v1)] [] (μ, y) (Mo_isLetter a v1 μ) := by
  unfold Mo_isLetter
  refine J_aload_n (k0 := 0) (pc := 0) 0 hX (by decide +kernel) rfl rfl ?_
  refine J_iload_n (k0 := 1) (pc := 1) 1 hX (by decide +kernel) rfl rfl ?_
  refine J_bipush (pc := 2) (n := 97) (v := 97) hX (by decide +kernel) (by decide +kernel) ?_
  refine J_bipush (pc := 4) (n := 122) (v := 122) hX (by decide +kernel) (by decide +kernel) ?_
  refine J_cVi (pc := 6) (idx := 154) [.int v1, .int 97, .int 122] hX (by decide +kernel) (mq mt_6 226 (by decide +kernel)) mv_Mo_isIn hL.1 rfl rfl (Nat.le_of_ble_eq_true rfl) (Nat.le_of_ble_eq_true rfl) (c_Mo_isIn hL v1 97 122 μ) (fun x2 μ1 => ?_)
  refine J_if_ne (pc := 9) (off := 15) (tgt := 24) hX (by decide +kernel) (by decide +kernel) (fun _ => ?_) (fun _ => ?_)
  · exact J_sub [] _ rfl (jMo_isLetter_24 hL hX μ1)
  · refine J_aload_n (k0 := 0) (pc := 12) 0 hX (by decide +kernel) rfl rfl ?_
    refine J_iload_n (k0 := 1) (pc := 13) 1 hX (by decide +kernel) rfl rfl ?_
    refine J_bipush (pc := 14) (n := 65) (v := 65) hX (by decide +kernel) (by decide +kernel) ?_
    refine J_bipush (pc := 16) (n := 90) (v := 90) hX (by decide +kernel) (by decide +kernel) ?_
    refine J_cVi (pc := 18) (idx := 154) [.int v1, .int 65, .int 90] hX (by decide +kernel) (mq mt_6 226 (by decide +kernel)) mv_Mo_isIn hL.1 rfl rfl (Nat.le_of_ble_eq_true rfl) (Nat.le_of_ble_eq_true rfl) (c_Mo_isIn hL v1 65 90 μ1) (fun x4 μ3 => ?_)
    refine J_if_eq (pc := 21) (off := 7) (tgt := 28) hX (by decide +kernel) (by decide +kernel) (fun _ => ?_) (fun _ => ?_)
    · refine J_iconst (pc := 28) (n := 0) (v := 0) hX (by decide +kernel) (by decide +kernel) ?_
      exact J_zret (pc := 29) hX (by decide +kernel) rfl (by decide +kernel) trivial
    · exact J_sub [] _ rfl (jMo_isLetter_24 hL hX μ3)
set_option maxRecDepth 100000 in
set_option maxHeartbeats 4000000 in
theorem c_Mo_isLetter {l : Launch} {G : Gx} {y : Ly} {a : Nat} (hL : LyMo y a ) (v1 : Int32) (μ : Mu) : Cn l G ⟨"SaltFiguresModel", "isLetter", "(I)Z"⟩ prog_13_method_27_code 2 (some .boolean) 2 [.ref (G.1 + a), .int v1] (μ, y) (emy y) rvI tpT (Mo_isLetter a v1 μ) := cn_of (by decide +kernel) (Nat.le_of_ble_eq_true rfl) (fun _ _ _ => ⟨List.prefix_refl _, trivial⟩) (fun X hX _ => jMo_isLetter hL hX v1 μ)

def Mo_isLineWord (a : Nat)  (μ : Mu) : Option (Int32 × Mu) := gF μ a 12 (fun x1 => (if x1 = 2 then gF μ a 13 (fun x2 => cl (Mo_isIn a x2 0 2 μ) (fun x4 μ3 => (if x4 = 0 then some (0, μ3) else some (1, μ3)))) else some (0, μ)))
set_option maxRecDepth 100000 in
set_option maxHeartbeats 4000000 in
theorem jMo_isLineWord {X : Cx} {l : Launch} {G : Gx} {y : Ly} {a : Nat} (hL : LyMo y a ) (hX : Ok X l G prog_13_method_44_code 1 (some .boolean) "SaltFiguresModel")  (μ : Mu) : J X G 1 2 y (emy y) rvI tpT 0 [(0, .ref (G.1 + a))] [] (μ, y) (Mo_isLineWord a  μ) := by
  unfold Mo_isLineWord
  refine J_aload_n (k0 := 0) (pc := 0) 0 hX (by decide +kernel) rfl rfl ?_
  refine J_gF (pc := 1) hX (by decide +kernel) fl_Mo_181 hL.1 rfl (fun x1 => ?_)
  refine J_iconst (pc := 4) (n := 2) (v := 2) hX (by decide +kernel) (by decide +kernel) ?_
  refine J_icmp_ne (pc := 5) (off := 20) (tgt := 25) hX (by decide +kernel) (by decide +kernel) (fun _ => ?_) (fun _ => ?_)
  · refine J_iconst (pc := 25) (n := 0) (v := 0) hX (by decide +kernel) (by decide +kernel) ?_
    exact J_zret (pc := 26) hX (by decide +kernel) rfl (by decide +kernel) trivial
  · refine J_aload_n (k0 := 0) (pc := 8) 0 hX (by decide +kernel) rfl rfl ?_
    refine J_aload_n (k0 := 0) (pc := 9) 0 hX (by decide +kernel) rfl rfl ?_
    refine J_gF (pc := 10) hX (by decide +kernel) fl_Mo_184 hL.1 rfl (fun x2 => ?_)
    refine J_iconst (pc := 13) (n := 0) (v := 0) hX (by decide +kernel) (by decide +kernel) ?_
    refine J_iconst (pc := 14) (n := 2) (v := 2) hX (by decide +kernel) (by decide +kernel) ?_
    refine J_cVi (pc := 15) (idx := 154) [.int x2, .int 0, .int 2] hX (by decide +kernel) (mq mt_6 226 (by decide +kernel)) mv_Mo_isIn hL.1 rfl rfl (Nat.le_of_ble_eq_true rfl) (Nat.le_of_ble_eq_true rfl) (c_Mo_isIn hL x2 0 2 μ) (fun x4 μ3 => ?_)
    refine J_if_eq (pc := 18) (off := 7) (tgt := 25) hX (by decide +kernel) (by decide +kernel) (fun _ => ?_) (fun _ => ?_)
    · refine J_iconst (pc := 25) (n := 0) (v := 0) hX (by decide +kernel) (by decide +kernel) ?_
      exact J_zret (pc := 26) hX (by decide +kernel) rfl (by decide +kernel) trivial
    · refine J_iconst (pc := 21) (n := 1) (v := 1) hX (by decide +kernel) (by decide +kernel) ?_
      refine J_goto (pc := 22) (off := 4) (tgt := 26) hX (by decide +kernel) (by decide +kernel) ?_
      exact J_zret (pc := 26) hX (by decide +kernel) rfl (by decide +kernel) trivial
set_option maxRecDepth 100000 in
set_option maxHeartbeats 4000000 in
theorem c_Mo_isLineWord {l : Launch} {G : Gx} {y : Ly} {a : Nat} (hL : LyMo y a )  (μ : Mu) : Cn l G ⟨"SaltFiguresModel", "isLineWord", "()Z"⟩ prog_13_method_44_code 1 (some .boolean) 2 [.ref (G.1 + a)] (μ, y) (emy y) rvI tpT (Mo_isLineWord a  μ) := cn_of (by decide +kernel) (Nat.le_of_ble_eq_true rfl) (fun _ _ _ => ⟨List.prefix_refl _, trivial⟩) (fun X hX _ => jMo_isLineWord hL hX  μ)

def Mo_isLit_99 (a : Nat) (kb2 : Int32 → Mu → Option (Int32 × Mu))  (v1 : Int32) (v2 : Int32) (v3 : Int32)  (μ : Mu) : Option (Int32 × Mu) := kb2 (v3 + 1) μ
def Mo_isLit_50 (a : Nat) (kb2 : Int32 → Mu → Option (Int32 × Mu))  (v1 : Int32) (v2 : Int32) (v3 : Int32) (s0 : Int32) (μ : Mu) : Option (Int32 × Mu) := (if s0 = 0 then Mo_isLit_99 a kb2 v1 v2 v3 μ else ldA μ (a + 34) 8 v3 (fun x1 => ldA μ (a + 34) 8 v2 (fun x2 => ldA μ (a + 35) 8 v3 (fun x3 => ldA μ (a + 35) 8 v2 (fun x4 => ldA μ (a + 34) 8 v3 (fun x5 => (if ((v1 * x1) - (x2 * (v1 - x3))) < (x4 * x5) then Mo_isLit_99 a kb2 v1 v2 v3 μ else some (0, μ))))))))
def Mo_isLit_45 (a : Nat) (kb2 : Int32 → Mu → Option (Int32 × Mu))  (v1 : Int32) (v2 : Int32) (v3 : Int32)  (μ : Mu) : Option (Int32 × Mu) := Mo_isLit_50 a kb2 v1 v2 v3 1 μ
def Mo_isLit_49 (a : Nat) (kb2 : Int32 → Mu → Option (Int32 × Mu))  (v1 : Int32) (v2 : Int32) (v3 : Int32)  (μ : Mu) : Option (Int32 × Mu) := Mo_isLit_50 a kb2 v1 v2 v3 0 μ
def Mo_isLit_2b (a : Nat)  (kb2 : Int32 → Mu → Option (Int32 × Mu)) (v1 : Int32) (v2 : Int32) (v3 : Int32)  (μ : Mu) : Option (Int32 × Mu) := gF μ a 58 (fun x1 => (if x1 ≤ v3 then some (1, μ) else ldA μ (a + 34) 8 v3 (fun x2 => ldA μ (a + 34) 8 v2 (fun x3 => (if x2 < x3 then Mo_isLit_45 a kb2 v1 v2 v3 μ else ldA μ (a + 34) 8 v3 (fun x4 => ldA μ (a + 34) 8 v2 (fun x5 => (if x4 = x5 then (if v2 ≤ v3 then Mo_isLit_49 a kb2 v1 v2 v3 μ else Mo_isLit_45 a kb2 v1 v2 v3 μ) else Mo_isLit_49 a kb2 v1 v2 v3 μ))))))))
def Mo_isLit_2 (a : Nat)  (v1 : Int32) (v2 : Int32) (fu : Nat) : Int32 → Mu → Option (Int32 × Mu) := lp (fun kb => Mo_isLit_2b a  kb v1 v2) (fun _ _ => none) fu
def Mo_isLit (a : Nat) (v1 : Int32) (v2 : Int32) (μ : Mu) : Option (Int32 × Mu) := Mo_isLit_2 a v1 v2 FU 0 μ
set_option maxRecDepth 100000 in
set_option maxHeartbeats 4000000 in
theorem jMo_isLit_99 {X : Cx} {l : Launch} {G : Gx} {y : Ly} {a : Nat} (hL : LyMo y a ) (hX : Ok X l G prog_13_method_124_code 5 (some .boolean) "SaltFiguresModel")  (v1 : Int32) (v2 : Int32) (v3 : Int32)  {kb2 : Int32 → Mu → Option (Int32 × Mu)} (hk2 : ∀ (v3 : Int32) (μ : Mu), J X G 5 1 y (emy y) rvI tpT 2 [(0, .ref (G.1 + a)), (1, .int v1), (2, .int v2), (3, .int v3)] [] (μ, y) (kb2 v3 μ)) (μ : Mu) : J X G 5 1 y (emy y) rvI tpT 99 [(0, .ref (G.1 + a)), (1, .int v1), (2, .int v2), (3, .int v3)] [] (μ, y) (Mo_isLit_99 a kb2  v1 v2 v3  μ) := by
  unfold Mo_isLit_99
  refine J_iinc (pc := 99) (n := 1) 3 [(3, .int (v3 + 1)), (0, .ref (G.1 + a)), (1, .int v1), (2, .int v2)] hX (by decide +kernel) rfl rfl (by decide) rfl ?_
  refine J_goto (pc := 102) (off := -100) (tgt := 2) hX (by decide +kernel) (by decide +kernel) ?_
  exact J_sub [1, 2, 3, 0] _ rfl (hk2 (v3 + 1) μ)
set_option maxRecDepth 100000 in
set_option maxHeartbeats 4000000 in
theorem jMo_isLit_50 {X : Cx} {l : Launch} {G : Gx} {y : Ly} {a : Nat} (hL : LyMo y a ) (hX : Ok X l G prog_13_method_124_code 5 (some .boolean) "SaltFiguresModel")  (v1 : Int32) (v2 : Int32) (v3 : Int32) (s0 : Int32) {kb2 : Int32 → Mu → Option (Int32 × Mu)} (hk2 : ∀ (v3 : Int32) (μ : Mu), J X G 5 1 y (emy y) rvI tpT 2 [(0, .ref (G.1 + a)), (1, .int v1), (2, .int v2), (3, .int v3)] [] (μ, y) (kb2 v3 μ)) (μ : Mu) : J X G 5 1 y (emy y) rvI tpT 50 [(0, .ref (G.1 + a)), (1, .int v1), (2, .int v2), (3, .int v3)] [.int s0] (μ, y) (Mo_isLit_50 a kb2  v1 v2 v3 s0 μ) := by
  unfold Mo_isLit_50
  refine J_istore (pc := 50) [(4, .int s0), (0, .ref (G.1 + a)), (1, .int v1), (2, .int v2), (3, .int v3)] hX (by decide +kernel) (by decide) rfl ?_
  refine J_iload (pc := 52) 0 hX (by decide +kernel) rfl ?_
  refine J_if_eq (pc := 54) (off := 45) (tgt := 99) hX (by decide +kernel) (by decide +kernel) (fun _ => ?_) (fun _ => ?_)
  · exact J_sub [1, 2, 3, 4] _ rfl (jMo_isLit_99 hL hX v1 v2 v3 hk2 μ)
  · refine J_iload_n (k0 := 1) (pc := 57) 2 hX (by decide +kernel) rfl rfl ?_
    refine J_aload_n (k0 := 0) (pc := 58) 1 hX (by decide +kernel) rfl rfl ?_
    refine J_gr (pc := 59) hX (by decide +kernel) fl_Mo_113 hL.1 rfl hL.2.2.2.2.2.2.2.2.2.2.2.2.2.2.2.2.2.2.2.2.2.2.2.2.2.2.2.2.2.2.2.2.2.2.1.1 ?_
    refine J_iload_n (k0 := 3) (pc := 62) 4 hX (by decide +kernel) rfl rfl ?_
    refine J_ldA (pc := 63) hX (by decide +kernel) hL.2.2.2.2.2.2.2.2.2.2.2.2.2.2.2.2.2.2.2.2.2.2.2.2.2.2.2.2.2.2.2.2.2.2.1.2 (fun x1 => ?_)
    refine J_imul (pc := 64) hX (by decide +kernel) ?_
    refine J_aload_n (k0 := 0) (pc := 65) 1 hX (by decide +kernel) rfl rfl ?_
    refine J_gr (pc := 66) hX (by decide +kernel) fl_Mo_113 hL.1 rfl hL.2.2.2.2.2.2.2.2.2.2.2.2.2.2.2.2.2.2.2.2.2.2.2.2.2.2.2.2.2.2.2.2.2.2.1.1 ?_
    refine J_iload_n (k0 := 2) (pc := 69) 3 hX (by decide +kernel) rfl rfl ?_
    refine J_ldA (pc := 70) hX (by decide +kernel) hL.2.2.2.2.2.2.2.2.2.2.2.2.2.2.2.2.2.2.2.2.2.2.2.2.2.2.2.2.2.2.2.2.2.2.1.2 (fun x2 => ?_)
    refine J_iload_n (k0 := 1) (pc := 71) 2 hX (by decide +kernel) rfl rfl ?_
    refine J_aload_n (k0 := 0) (pc := 72) 1 hX (by decide +kernel) rfl rfl ?_
    refine J_gr (pc := 73) hX (by decide +kernel) fl_Mo_116 hL.1 rfl hL.2.2.2.2.2.2.2.2.2.2.2.2.2.2.2.2.2.2.2.2.2.2.2.2.2.2.2.2.2.2.2.2.2.2.2.1.1 ?_
    refine J_iload_n (k0 := 3) (pc := 76) 4 hX (by decide +kernel) rfl rfl ?_
    refine J_ldA (pc := 77) hX (by decide +kernel) hL.2.2.2.2.2.2.2.2.2.2.2.2.2.2.2.2.2.2.2.2.2.2.2.2.2.2.2.2.2.2.2.2.2.2.2.1.2 (fun x3 => ?_)
    refine J_isub (pc := 78) hX (by decide +kernel) ?_
    refine J_imul (pc := 79) hX (by decide +kernel) ?_
    refine J_isub (pc := 80) hX (by decide +kernel) ?_
    refine J_aload_n (k0 := 0) (pc := 81) 1 hX (by decide +kernel) rfl rfl ?_
    refine J_gr (pc := 82) hX (by decide +kernel) fl_Mo_116 hL.1 rfl hL.2.2.2.2.2.2.2.2.2.2.2.2.2.2.2.2.2.2.2.2.2.2.2.2.2.2.2.2.2.2.2.2.2.2.2.1.1 ?_
    refine J_iload_n (k0 := 2) (pc := 85) 3 hX (by decide +kernel) rfl rfl ?_
    refine J_ldA (pc := 86) hX (by decide +kernel) hL.2.2.2.2.2.2.2.2.2.2.2.2.2.2.2.2.2.2.2.2.2.2.2.2.2.2.2.2.2.2.2.2.2.2.2.1.2 (fun x4 => ?_)
    refine J_aload_n (k0 := 0) (pc := 87) 1 hX (by decide +kernel) rfl rfl ?_
    refine J_gr (pc := 88) hX (by decide +kernel) fl_Mo_113 hL.1 rfl hL.2.2.2.2.2.2.2.2.2.2.2.2.2.2.2.2.2.2.2.2.2.2.2.2.2.2.2.2.2.2.2.2.2.2.1.1 ?_
    refine J_iload_n (k0 := 3) (pc := 91) 4 hX (by decide +kernel) rfl rfl ?_
    refine J_ldA (pc := 92) hX (by decide +kernel) hL.2.2.2.2.2.2.2.2.2.2.2.2.2.2.2.2.2.2.2.2.2.2.2.2.2.2.2.2.2.2.2.2.2.2.1.2 (fun x5 => ?_)
    refine J_imul (pc := 93) hX (by decide +kernel) ?_
    refine J_icmp_lt (pc := 94) (off := 5) (tgt := 99) hX (by decide +kernel) (by decide +kernel) (fun _ => ?_) (fun _ => ?_)
    · exact J_sub [1, 2, 3, 4] _ rfl (jMo_isLit_99 hL hX v1 v2 v3 hk2 μ)
    · refine J_iconst (pc := 97) (n := 0) (v := 0) hX (by decide +kernel) (by decide +kernel) ?_
      exact J_zret (pc := 98) hX (by decide +kernel) rfl (by decide +kernel) trivial
set_option maxRecDepth 100000 in
set_option maxHeartbeats 4000000 in
theorem jMo_isLit_45 {X : Cx} {l : Launch} {G : Gx} {y : Ly} {a : Nat} (hL : LyMo y a ) (hX : Ok X l G prog_13_method_124_code 5 (some .boolean) "SaltFiguresModel")  (v1 : Int32) (v2 : Int32) (v3 : Int32)  {kb2 : Int32 → Mu → Option (Int32 × Mu)} (hk2 : ∀ (v3 : Int32) (μ : Mu), J X G 5 1 y (emy y) rvI tpT 2 [(0, .ref (G.1 + a)), (1, .int v1), (2, .int v2), (3, .int v3)] [] (μ, y) (kb2 v3 μ)) (μ : Mu) : J X G 5 1 y (emy y) rvI tpT 45 [(0, .ref (G.1 + a)), (1, .int v1), (2, .int v2), (3, .int v3)] [] (μ, y) (Mo_isLit_45 a kb2  v1 v2 v3  μ) := by
  unfold Mo_isLit_45
  refine J_iconst (pc := 45) (n := 1) (v := 1) hX (by decide +kernel) (by decide +kernel) ?_
  refine J_goto (pc := 46) (off := 4) (tgt := 50) hX (by decide +kernel) (by decide +kernel) ?_
  exact J_sub [0, 1, 2, 3] _ rfl (jMo_isLit_50 hL hX v1 v2 v3 1 hk2 μ)
set_option maxRecDepth 100000 in
set_option maxHeartbeats 4000000 in
theorem jMo_isLit_49 {X : Cx} {l : Launch} {G : Gx} {y : Ly} {a : Nat} (hL : LyMo y a ) (hX : Ok X l G prog_13_method_124_code 5 (some .boolean) "SaltFiguresModel")  (v1 : Int32) (v2 : Int32) (v3 : Int32)  {kb2 : Int32 → Mu → Option (Int32 × Mu)} (hk2 : ∀ (v3 : Int32) (μ : Mu), J X G 5 1 y (emy y) rvI tpT 2 [(0, .ref (G.1 + a)), (1, .int v1), (2, .int v2), (3, .int v3)] [] (μ, y) (kb2 v3 μ)) (μ : Mu) : J X G 5 1 y (emy y) rvI tpT 49 [(0, .ref (G.1 + a)), (1, .int v1), (2, .int v2), (3, .int v3)] [] (μ, y) (Mo_isLit_49 a kb2  v1 v2 v3  μ) := by
  unfold Mo_isLit_49
  refine J_iconst (pc := 49) (n := 0) (v := 0) hX (by decide +kernel) (by decide +kernel) ?_
  exact J_sub [0, 1, 2, 3] _ rfl (jMo_isLit_50 hL hX v1 v2 v3 0 hk2 μ)
set_option maxRecDepth 100000 in
set_option maxHeartbeats 4000000 in
theorem jMo_isLit_2b {X : Cx} {l : Launch} {G : Gx} {y : Ly} {a : Nat} (hL : LyMo y a ) (hX : Ok X l G prog_13_method_124_code 5 (some .boolean) "SaltFiguresModel") (v1 : Int32) (v2 : Int32)  {kb2 : Int32 → Mu → Option (Int32 × Mu)}  (hk2 : ∀ (v3 : Int32) (μ : Mu), J X G 5 1 y (emy y) rvI tpT 2 [(0, .ref (G.1 + a)), (1, .int v1), (2, .int v2), (3, .int v3)] [] (μ, y) (kb2 v3 μ)) (v3 : Int32)  (μ : Mu) : J X G 5 1 y (emy y) rvI tpT 2 [(0, .ref (G.1 + a)), (1, .int v1), (2, .int v2), (3, .int v3)] [] (μ, y) (Mo_isLit_2b a  kb2 v1 v2 v3  μ) := by
  unfold Mo_isLit_2b
  refine J_iload_n (k0 := 3) (pc := 2) 3 hX (by decide +kernel) rfl rfl ?_
  refine J_aload_n (k0 := 0) (pc := 3) 0 hX (by decide +kernel) rfl rfl ?_
  refine J_gF (pc := 4) hX (by decide +kernel) fl_Mo_477 hL.1 rfl (fun x1 => ?_)
  refine J_icmp_ge (pc := 7) (off := 98) (tgt := 105) hX (by decide +kernel) (by decide +kernel) (fun _ => ?_) (fun _ => ?_)
  · refine J_iconst (pc := 105) (n := 1) (v := 1) hX (by decide +kernel) (by decide +kernel) ?_
    exact J_zret (pc := 106) hX (by decide +kernel) rfl (by decide +kernel) trivial
  · refine J_aload_n (k0 := 0) (pc := 10) 0 hX (by decide +kernel) rfl rfl ?_
    refine J_gr (pc := 11) hX (by decide +kernel) fl_Mo_113 hL.1 rfl hL.2.2.2.2.2.2.2.2.2.2.2.2.2.2.2.2.2.2.2.2.2.2.2.2.2.2.2.2.2.2.2.2.2.2.1.1 ?_
    refine J_iload_n (k0 := 3) (pc := 14) 3 hX (by decide +kernel) rfl rfl ?_
    refine J_ldA (pc := 15) hX (by decide +kernel) hL.2.2.2.2.2.2.2.2.2.2.2.2.2.2.2.2.2.2.2.2.2.2.2.2.2.2.2.2.2.2.2.2.2.2.1.2 (fun x2 => ?_)
    refine J_aload_n (k0 := 0) (pc := 16) 0 hX (by decide +kernel) rfl rfl ?_
    refine J_gr (pc := 17) hX (by decide +kernel) fl_Mo_113 hL.1 rfl hL.2.2.2.2.2.2.2.2.2.2.2.2.2.2.2.2.2.2.2.2.2.2.2.2.2.2.2.2.2.2.2.2.2.2.1.1 ?_
    refine J_iload_n (k0 := 2) (pc := 20) 2 hX (by decide +kernel) rfl rfl ?_
    refine J_ldA (pc := 21) hX (by decide +kernel) hL.2.2.2.2.2.2.2.2.2.2.2.2.2.2.2.2.2.2.2.2.2.2.2.2.2.2.2.2.2.2.2.2.2.2.1.2 (fun x3 => ?_)
    refine J_icmp_lt (pc := 22) (off := 23) (tgt := 45) hX (by decide +kernel) (by decide +kernel) (fun _ => ?_) (fun _ => ?_)
    · exact J_sub [0, 1, 2, 3] _ rfl (jMo_isLit_45 hL hX v1 v2 v3 hk2 μ)
    · refine J_aload_n (k0 := 0) (pc := 25) 0 hX (by decide +kernel) rfl rfl ?_
      refine J_gr (pc := 26) hX (by decide +kernel) fl_Mo_113 hL.1 rfl hL.2.2.2.2.2.2.2.2.2.2.2.2.2.2.2.2.2.2.2.2.2.2.2.2.2.2.2.2.2.2.2.2.2.2.1.1 ?_
      refine J_iload_n (k0 := 3) (pc := 29) 3 hX (by decide +kernel) rfl rfl ?_
      refine J_ldA (pc := 30) hX (by decide +kernel) hL.2.2.2.2.2.2.2.2.2.2.2.2.2.2.2.2.2.2.2.2.2.2.2.2.2.2.2.2.2.2.2.2.2.2.1.2 (fun x4 => ?_)
      refine J_aload_n (k0 := 0) (pc := 31) 0 hX (by decide +kernel) rfl rfl ?_
      refine J_gr (pc := 32) hX (by decide +kernel) fl_Mo_113 hL.1 rfl hL.2.2.2.2.2.2.2.2.2.2.2.2.2.2.2.2.2.2.2.2.2.2.2.2.2.2.2.2.2.2.2.2.2.2.1.1 ?_
      refine J_iload_n (k0 := 2) (pc := 35) 2 hX (by decide +kernel) rfl rfl ?_
      refine J_ldA (pc := 36) hX (by decide +kernel) hL.2.2.2.2.2.2.2.2.2.2.2.2.2.2.2.2.2.2.2.2.2.2.2.2.2.2.2.2.2.2.2.2.2.2.1.2 (fun x5 => ?_)
      refine J_icmp_ne (pc := 37) (off := 12) (tgt := 49) hX (by decide +kernel) (by decide +kernel) (fun _ => ?_) (fun _ => ?_)
      · exact J_sub [0, 1, 2, 3] _ rfl (jMo_isLit_49 hL hX v1 v2 v3 hk2 μ)
      · refine J_iload_n (k0 := 3) (pc := 40) 3 hX (by decide +kernel) rfl rfl ?_
        refine J_iload_n (k0 := 2) (pc := 41) 2 hX (by decide +kernel) rfl rfl ?_
        refine J_icmp_ge (pc := 42) (off := 7) (tgt := 49) hX (by decide +kernel) (by decide +kernel) (fun _ => ?_) (fun _ => ?_)
        · exact J_sub [0, 1, 2, 3] _ rfl (jMo_isLit_49 hL hX v1 v2 v3 hk2 μ)
        · exact J_sub [0, 1, 2, 3] _ rfl (jMo_isLit_45 hL hX v1 v2 v3 hk2 μ)
set_option maxRecDepth 100000 in
set_option maxHeartbeats 4000000 in
theorem jMo_isLit_2 {X : Cx} {l : Launch} {G : Gx} {y : Ly} {a : Nat} (hL : LyMo y a ) (hX : Ok X l G prog_13_method_124_code 5 (some .boolean) "SaltFiguresModel") (v1 : Int32) (v2 : Int32)   : ∀ (fu : Nat) (v3 : Int32) (μ : Mu), J X G 5 1 y (emy y) rvI tpT 2 [(0, .ref (G.1 + a)), (1, .int v1), (2, .int v2), (3, .int v3)] [] (μ, y) (Mo_isLit_2 a  v1 v2 fu v3 μ) := by
  intro fu
  induction fu with
  | zero => intros; exact J_none
  | succ fu ih => intro v3 μ; exact jMo_isLit_2b hL hX v1 v2  ih v3 μ
set_option maxRecDepth 100000 in
set_option maxHeartbeats 4000000 in
theorem jMo_isLit {X : Cx} {l : Launch} {G : Gx} {y : Ly} {a : Nat} (hL : LyMo y a ) (hX : Ok X l G prog_13_method_124_code 5 (some .boolean) "SaltFiguresModel") (v1 : Int32) (v2 : Int32) (μ : Mu) : J X G 5 1 y (emy y) rvI tpT 0 [(0, .ref (G.1 + a)), (1, .int v1), (2, .int v2)] [] (μ, y) (Mo_isLit a v1 v2 μ) := by
  unfold Mo_isLit
  refine J_iconst (pc := 0) (n := 0) (v := 0) hX (by decide +kernel) (by decide +kernel) ?_
  refine J_istore_n (k0 := 3) (pc := 1) [(3, .int 0), (0, .ref (G.1 + a)), (1, .int v1), (2, .int v2)] hX (by decide +kernel) rfl (by decide) rfl ?_
  exact J_sub [1, 2, 3, 0] _ rfl (jMo_isLit_2 hL hX v1 v2 FU 0 μ)
set_option maxRecDepth 100000 in
set_option maxHeartbeats 4000000 in
theorem c_Mo_isLit {l : Launch} {G : Gx} {y : Ly} {a : Nat} (hL : LyMo y a ) (v1 : Int32) (v2 : Int32) (μ : Mu) : Cn l G ⟨"SaltFiguresModel", "isLit", "(II)Z"⟩ prog_13_method_124_code 5 (some .boolean) 1 [.ref (G.1 + a), .int v1, .int v2] (μ, y) (emy y) rvI tpT (Mo_isLit a v1 v2 μ) := cn_of (by decide +kernel) (Nat.le_of_ble_eq_true rfl) (fun _ _ _ => ⟨List.prefix_refl _, trivial⟩) (fun X hX _ => jMo_isLit hL hX v1 v2 μ)
