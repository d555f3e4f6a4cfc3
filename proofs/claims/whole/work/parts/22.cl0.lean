/-! THE CLASS: models and their rows (by program) -/
def Ja_fill_5b (r0 n0 : Nat)  (kb5 : Int32 → Mu → Option (Unit × Mu)) (v1 : Int32) (v3 : Int32) (v2 : Int32)  (μ : Mu) : Option (Unit × Mu) := (if v3 ≤ v2 then some ((), μ) else stA μ r0 n0 v2 v1 (fun μ1 => kb5 (v2 + 1) μ1))
def Ja_fill_5 (r0 n0 : Nat)  (v1 : Int32) (v3 : Int32) (fu : Nat) : Int32 → Mu → Option (Unit × Mu) := lp (fun kb => Ja_fill_5b r0 n0  kb v1 v3) (fun _ _ => none) fu
def Ja_fill (r0 n0 : Nat) (v1 : Int32) (μ : Mu) : Option (Unit × Mu) := Ja_fill_5 r0 n0 v1 (Int32.ofNat n0) FU 0 μ
set_option maxRecDepth 100000 in
set_option maxHeartbeats 4000000 in
theorem jJa_fill_5b {X : Cx} {l : Launch} {G : Gx} {y : Ly} {r0 n0 : Nat} (hr0 : y.2[r0]? = some (0, n0)) (hX : Ok X l G prog_21_method_103_code 4 none "java/util/Arrays") (v1 : Int32) (v3 : Int32)  {kb5 : Int32 → Mu → Option (Unit × Mu)}  (hk5 : ∀ (v2 : Int32) (μ : Mu), J X G 4 1 y (emy y) rvV tpT 5 [(0, .ref (G.1 + r0)), (1, .int v1), (2, .int v2), (3, .int v3)] [] (μ, y) (kb5 v2 μ)) (v2 : Int32)  (μ : Mu) : J X G 4 1 y (emy y) rvV tpT 5 [(0, .ref (G.1 + r0)), (1, .int v1), (2, .int v2), (3, .int v3)] [] (μ, y) (Ja_fill_5b r0 n0  kb5 v1 v3 v2  μ) := by
  unfold Ja_fill_5b
  refine J_iload_n (k0 := 2) (pc := 5) 2 hX (by decide +kernel) rfl rfl ?_
  refine J_iload_n (k0 := 3) (pc := 6) 3 hX (by decide +kernel) rfl rfl ?_
  refine J_icmp_ge (pc := 7) (off := 13) (tgt := 20) hX (by decide +kernel) (by decide +kernel) (fun _ => ?_) (fun _ => ?_)
  · exact J_vret (pc := 20) hX (by decide +kernel) rfl trivial
  · refine J_aload_n (k0 := 0) (pc := 10) 0 hX (by decide +kernel) rfl rfl ?_
    refine J_iload_n (k0 := 2) (pc := 11) 2 hX (by decide +kernel) rfl rfl ?_
    refine J_iload_n (k0 := 1) (pc := 12) 1 hX (by decide +kernel) rfl rfl ?_
    refine J_stA (pc := 13) hX (by decide +kernel) hr0 (fun μ1 => ?_)
    refine J_iinc (pc := 14) (n := 1) 2 [(2, .int (v2 + 1)), (0, .ref (G.1 + r0)), (1, .int v1), (3, .int v3)] hX (by decide +kernel) rfl rfl (by decide) rfl ?_
    refine J_goto (pc := 17) (off := -12) (tgt := 5) hX (by decide +kernel) (by decide +kernel) ?_
    exact J_sub [1, 2, 0, 3] _ rfl (hk5 (v2 + 1) μ1)
set_option maxRecDepth 100000 in
set_option maxHeartbeats 4000000 in
theorem jJa_fill_5 {X : Cx} {l : Launch} {G : Gx} {y : Ly} {r0 n0 : Nat} (hr0 : y.2[r0]? = some (0, n0)) (hX : Ok X l G prog_21_method_103_code 4 none "java/util/Arrays") (v1 : Int32) (v3 : Int32)   : ∀ (fu : Nat) (v2 : Int32) (μ : Mu), J X G 4 1 y (emy y) rvV tpT 5 [(0, .ref (G.1 + r0)), (1, .int v1), (2, .int v2), (3, .int v3)] [] (μ, y) (Ja_fill_5 r0 n0  v1 v3 fu v2 μ) := by
  intro fu
  induction fu with
  | zero => intros; exact J_none
  | succ fu ih => intro v2 μ; exact jJa_fill_5b hr0 hX v1 v3  ih v2 μ
set_option maxRecDepth 100000 in
set_option maxHeartbeats 4000000 in
theorem jJa_fill {X : Cx} {l : Launch} {G : Gx} {y : Ly} {r0 n0 : Nat} (hr0 : y.2[r0]? = some (0, n0)) (hX : Ok X l G prog_21_method_103_code 4 none "java/util/Arrays") (v1 : Int32) (μ : Mu) : J X G 4 1 y (emy y) rvV tpT 0 [(0, .ref (G.1 + r0)), (1, .int v1)] [] (μ, y) (Ja_fill r0 n0 v1 μ) := by
  unfold Ja_fill
  refine J_iconst (pc := 0) (n := 0) (v := 0) hX (by decide +kernel) (by decide +kernel) ?_
  refine J_istore_n (k0 := 2) (pc := 1) [(2, .int 0), (0, .ref (G.1 + r0)), (1, .int v1)] hX (by decide +kernel) rfl (by decide) rfl ?_
  refine J_aload_n (k0 := 0) (pc := 2) 1 hX (by decide +kernel) rfl rfl ?_
  refine J_alen (pc := 3) hX (by decide +kernel) hr0 (v := Int32.ofNat n0) rfl ?_
  refine J_istore_n (k0 := 3) (pc := 4) [(3, .int (Int32.ofNat n0)), (2, .int 0), (0, .ref (G.1 + r0)), (1, .int v1)] hX (by decide +kernel) rfl (by decide) rfl ?_
  exact J_sub [2, 3, 1, 0] _ rfl (jJa_fill_5 hr0 hX v1 (Int32.ofNat n0) FU 0 μ)
set_option maxRecDepth 100000 in
set_option maxHeartbeats 4000000 in
theorem c_Ja_fill {l : Launch} {G : Gx} {y : Ly} {r0 n0 : Nat} (hr0 : y.2[r0]? = some (0, n0)) (v1 : Int32) (μ : Mu) : Cn l G ⟨"java/util/Arrays", "fill", "([II)V"⟩ prog_21_method_103_code 4 none 1 [.ref (G.1 + r0), .int v1] (μ, y) (emy y) rvV tpT (Ja_fill r0 n0 v1 μ) := cn_of (by decide +kernel) (Nat.le_of_ble_eq_true rfl) (fun _ _ _ => ⟨List.prefix_refl _, trivial⟩) (fun X hX _ => jJa_fill hr0 hX v1 μ)

def Lw_copyFrom (a f1 : Nat)  (μ : Mu) : Option (Unit × Mu) := gF μ f1 0 (fun x1 => pF μ a 0 x1 (fun μ2 => gF μ2 f1 1 (fun x3 => pF μ2 a 1 x3 (fun μ4 => cpA μ4 (f1 + 1) 16 0 (a + 1) 16 0 16 (fun μ5 => cpA μ5 (f1 + 2) 16 0 (a + 2) 16 0 16 (fun μ6 => cpA μ6 (f1 + 3) 16 0 (a + 3) 16 0 16 (fun μ7 => cpA μ7 (f1 + 4) 16 0 (a + 4) 16 0 16 (fun μ8 => cpA μ8 (f1 + 5) 400 0 (a + 5) 400 0 400 (fun μ9 => some ((), μ9))))))))))
set_option maxRecDepth 100000 in
set_option maxHeartbeats 4000000 in
theorem jLw_copyFrom {X : Cx} {l : Launch} {G : Gx} {y : Ly} {a f1 : Nat} (hL : LyLw y a ) (hf1 : LyLw y f1 ) (hX : Ok X l G prog_4_method_2_code 2 none "SaltFigures$Law")  (μ : Mu) : J X G 2 3 y (emy y) rvV tpT 0 [(0, .ref (G.1 + a)), (1, .ref (G.1 + f1))] [] (μ, y) (Lw_copyFrom a f1  μ) := by
  unfold Lw_copyFrom
  refine J_aload_n (k0 := 0) (pc := 0) 0 hX (by decide +kernel) rfl rfl ?_
  refine J_aload_n (k0 := 1) (pc := 1) 1 hX (by decide +kernel) rfl rfl ?_
  refine J_gF (pc := 2) hX (by decide +kernel) fl_Lw_30 hf1.1 rfl (fun x1 => ?_)
  refine J_pF (pc := 5) hX (by decide +kernel) fl_Lw_30 hL.1 rfl (fun μ2 => ?_)
  refine J_aload_n (k0 := 0) (pc := 8) 0 hX (by decide +kernel) rfl rfl ?_
  refine J_aload_n (k0 := 1) (pc := 9) 1 hX (by decide +kernel) rfl rfl ?_
  refine J_gF (pc := 10) hX (by decide +kernel) fl_Lw_34 hf1.1 rfl (fun x3 => ?_)
  refine J_pF (pc := 13) hX (by decide +kernel) fl_Lw_34 hL.1 rfl (fun μ4 => ?_)
  refine J_aload_n (k0 := 1) (pc := 16) 1 hX (by decide +kernel) rfl rfl ?_
  refine J_gr (pc := 17) hX (by decide +kernel) fl_Lw_9 hf1.1 rfl hf1.2.1.1 ?_
  refine J_iconst (pc := 20) (n := 0) (v := 0) hX (by decide +kernel) (by decide +kernel) ?_
  refine J_aload_n (k0 := 0) (pc := 21) 0 hX (by decide +kernel) rfl rfl ?_
  refine J_gr (pc := 22) hX (by decide +kernel) fl_Lw_9 hL.1 rfl hL.2.1.1 ?_
  refine J_iconst (pc := 25) (n := 0) (v := 0) hX (by decide +kernel) (by decide +kernel) ?_
  refine J_bipush (pc := 26) (n := 16) (v := 16) hX (by decide +kernel) (by decide +kernel) ?_
  refine J_acp (pc := 28) (idx := 37) hX (by decide +kernel) (mq mt_4 84 (by decide +kernel)) hf1.2.1.2 hL.2.1.2 (Nat.le_of_ble_eq_true rfl) (Nat.le_of_ble_eq_true rfl) (fun μ5 => ?_)
  refine J_aload_n (k0 := 1) (pc := 31) 1 hX (by decide +kernel) rfl rfl ?_
  refine J_gr (pc := 32) hX (by decide +kernel) fl_Lw_15 hf1.1 rfl hf1.2.2.1.1 ?_
  refine J_iconst (pc := 35) (n := 0) (v := 0) hX (by decide +kernel) (by decide +kernel) ?_
  refine J_aload_n (k0 := 0) (pc := 36) 0 hX (by decide +kernel) rfl rfl ?_
  refine J_gr (pc := 37) hX (by decide +kernel) fl_Lw_15 hL.1 rfl hL.2.2.1.1 ?_
  refine J_iconst (pc := 40) (n := 0) (v := 0) hX (by decide +kernel) (by decide +kernel) ?_
  refine J_bipush (pc := 41) (n := 16) (v := 16) hX (by decide +kernel) (by decide +kernel) ?_
  refine J_acp (pc := 43) (idx := 37) hX (by decide +kernel) (mq mt_4 84 (by decide +kernel)) hf1.2.2.1.2 hL.2.2.1.2 (Nat.le_of_ble_eq_true rfl) (Nat.le_of_ble_eq_true rfl) (fun μ6 => ?_)
  refine J_aload_n (k0 := 1) (pc := 46) 1 hX (by decide +kernel) rfl rfl ?_
  refine J_gr (pc := 47) hX (by decide +kernel) fl_Lw_18 hf1.1 rfl hf1.2.2.2.1.1 ?_
  refine J_iconst (pc := 50) (n := 0) (v := 0) hX (by decide +kernel) (by decide +kernel) ?_
  refine J_aload_n (k0 := 0) (pc := 51) 0 hX (by decide +kernel) rfl rfl ?_
  refine J_gr (pc := 52) hX (by decide +kernel) fl_Lw_18 hL.1 rfl hL.2.2.2.1.1 ?_
  refine J_iconst (pc := 55) (n := 0) (v := 0) hX (by decide +kernel) (by decide +kernel) ?_
  refine J_bipush (pc := 56) (n := 16) (v := 16) hX (by decide +kernel) (by decide +kernel) ?_
  refine J_acp (pc := 58) (idx := 37) hX (by decide +kernel) (mq mt_4 84 (by decide +kernel)) hf1.2.2.2.1.2 hL.2.2.2.1.2 (Nat.le_of_ble_eq_true rfl) (Nat.le_of_ble_eq_true rfl) (fun μ7 => ?_)
  refine J_aload_n (k0 := 1) (pc := 61) 1 hX (by decide +kernel) rfl rfl ?_
  refine J_gr (pc := 62) hX (by decide +kernel) fl_Lw_21 hf1.1 rfl hf1.2.2.2.2.1.1 ?_
  refine J_iconst (pc := 65) (n := 0) (v := 0) hX (by decide +kernel) (by decide +kernel) ?_
  refine J_aload_n (k0 := 0) (pc := 66) 0 hX (by decide +kernel) rfl rfl ?_
  refine J_gr (pc := 67) hX (by decide +kernel) fl_Lw_21 hL.1 rfl hL.2.2.2.2.1.1 ?_
  refine J_iconst (pc := 70) (n := 0) (v := 0) hX (by decide +kernel) (by decide +kernel) ?_
  refine J_bipush (pc := 71) (n := 16) (v := 16) hX (by decide +kernel) (by decide +kernel) ?_
  refine J_acp (pc := 73) (idx := 37) hX (by decide +kernel) (mq mt_4 84 (by decide +kernel)) hf1.2.2.2.2.1.2 hL.2.2.2.2.1.2 (Nat.le_of_ble_eq_true rfl) (Nat.le_of_ble_eq_true rfl) (fun μ8 => ?_)
  refine J_aload_n (k0 := 1) (pc := 76) 1 hX (by decide +kernel) rfl rfl ?_
  refine J_gr (pc := 77) hX (by decide +kernel) fl_Lw_24 hf1.1 rfl hf1.2.2.2.2.2.1.1 ?_
  refine J_iconst (pc := 80) (n := 0) (v := 0) hX (by decide +kernel) (by decide +kernel) ?_
  refine J_aload_n (k0 := 0) (pc := 81) 0 hX (by decide +kernel) rfl rfl ?_
  refine J_gr (pc := 82) hX (by decide +kernel) fl_Lw_24 hL.1 rfl hL.2.2.2.2.2.1.1 ?_
  refine J_iconst (pc := 85) (n := 0) (v := 0) hX (by decide +kernel) (by decide +kernel) ?_
  refine J_sipush (pc := 86) (n := 400) (v := 400) hX (by decide +kernel) (by decide +kernel) ?_
  refine J_acp (pc := 89) (idx := 37) hX (by decide +kernel) (mq mt_4 84 (by decide +kernel)) hf1.2.2.2.2.2.1.2 hL.2.2.2.2.2.1.2 (Nat.le_of_ble_eq_true rfl) (Nat.le_of_ble_eq_true rfl) (fun μ9 => ?_)
  exact J_vret (pc := 92) hX (by decide +kernel) rfl trivial
set_option maxRecDepth 100000 in
set_option maxHeartbeats 4000000 in
theorem c_Lw_copyFrom {l : Launch} {G : Gx} {y : Ly} {a f1 : Nat} (hL : LyLw y a ) (hf1 : LyLw y f1 )  (μ : Mu) : Cn l G ⟨"SaltFigures$Law", "copyFrom", "(LSaltFigures$Law;)V"⟩ prog_4_method_2_code 2 none 3 [.ref (G.1 + a), .ref (G.1 + f1)] (μ, y) (emy y) rvV tpT (Lw_copyFrom a f1  μ) := cn_of (by decide +kernel) (Nat.le_of_ble_eq_true rfl) (fun _ _ _ => ⟨List.prefix_refl _, trivial⟩) (fun X hX _ => jLw_copyFrom hL hf1 hX  μ)

def Tx_countHeirs_43 (a : Nat) (kb10 : Int32 → Mu → Option (Unit × Mu))  (v1 : Int32)  (μ : Mu) : Option (Unit × Mu) := kb10 (v1 + 1) μ
def Tx_countHeirs_10b (a : Nat)  (kb10 : Int32 → Mu → Option (Unit × Mu))  (v1 : Int32)  (μ : Mu) : Option (Unit × Mu) := (if 16 ≤ v1 then some ((), μ) else ldA μ (a + 9) 16 v1 (fun x1 => (if x1 < 0 then Tx_countHeirs_43 a kb10 v1 μ else (if 16 ≤ x1 then Tx_countHeirs_43 a kb10 v1 μ else ldA μ (a + 10) 16 x1 (fun x2 => stA μ (a + 10) 16 x1 (x2 + 1) (fun μ3 => Tx_countHeirs_43 a kb10 v1 μ3))))))
def Tx_countHeirs_10 (a : Nat)   (fu : Nat) : Int32 → Mu → Option (Unit × Mu) := lp (fun kb => Tx_countHeirs_10b a  kb ) (fun _ _ => none) fu
def Tx_countHeirs (a : Nat)  (μ : Mu) : Option (Unit × Mu) := cl (Ja_fill (a + 10) 16 0 μ) (fun _ μ1 => Tx_countHeirs_10 a FU 0 μ1)
set_option maxRecDepth 100000 in
set_option maxHeartbeats 4000000 in
theorem jTx_countHeirs_43 {X : Cx} {l : Launch} {G : Gx} {y : Ly} {a : Nat} (hL : LyTx y a ) (hX : Ok X l G prog_9_method_5_code 3 none "SaltFigures$Texts")  (v1 : Int32)  {kb10 : Int32 → Mu → Option (Unit × Mu)} (hk10 : ∀ (v1 : Int32) (μ : Mu), J X G 3 2 y (emy y) rvV tpT 10 [(0, .ref (G.1 + a)), (1, .int v1)] [] (μ, y) (kb10 v1 μ)) (μ : Mu) : J X G 3 2 y (emy y) rvV tpT 43 [(0, .ref (G.1 + a)), (1, .int v1)] [] (μ, y) (Tx_countHeirs_43 a kb10  v1  μ) := by
  unfold Tx_countHeirs_43
  refine J_iinc (pc := 43) (n := 1) 1 [(1, .int (v1 + 1)), (0, .ref (G.1 + a))] hX (by decide +kernel) rfl rfl (by decide) rfl ?_
  refine J_goto (pc := 46) (off := -36) (tgt := 10) hX (by decide +kernel) (by decide +kernel) ?_
  exact J_sub [1, 0] _ rfl (hk10 (v1 + 1) μ)
set_option maxRecDepth 100000 in
set_option maxHeartbeats 4000000 in
theorem jTx_countHeirs_10b {X : Cx} {l : Launch} {G : Gx} {y : Ly} {a : Nat} (hL : LyTx y a ) (hX : Ok X l G prog_9_method_5_code 3 none "SaltFigures$Texts")   {kb10 : Int32 → Mu → Option (Unit × Mu)}  (hk10 : ∀ (v1 : Int32) (μ : Mu), J X G 3 2 y (emy y) rvV tpT 10 [(0, .ref (G.1 + a)), (1, .int v1)] [] (μ, y) (kb10 v1 μ)) (v1 : Int32)  (μ : Mu) : J X G 3 2 y (emy y) rvV tpT 10 [(0, .ref (G.1 + a)), (1, .int v1)] [] (μ, y) (Tx_countHeirs_10b a  kb10  v1  μ) := by
  unfold Tx_countHeirs_10b
  refine J_iload_n (k0 := 1) (pc := 10) 1 hX (by decide +kernel) rfl rfl ?_
  refine J_bipush (pc := 11) (n := 16) (v := 16) hX (by decide +kernel) (by decide +kernel) ?_
  refine J_icmp_ge (pc := 13) (off := 36) (tgt := 49) hX (by decide +kernel) (by decide +kernel) (fun _ => ?_) (fun _ => ?_)
  · exact J_vret (pc := 49) hX (by decide +kernel) rfl trivial
  · refine J_aload_n (k0 := 0) (pc := 16) 0 hX (by decide +kernel) rfl rfl ?_
    refine J_gr (pc := 17) hX (by decide +kernel) fl_Tx_22 hL.1 rfl hL.2.2.2.1.1 ?_
    refine J_iload_n (k0 := 1) (pc := 20) 1 hX (by decide +kernel) rfl rfl ?_
    refine J_ldA (pc := 21) hX (by decide +kernel) hL.2.2.2.1.2 (fun x1 => ?_)
    refine J_istore_n (k0 := 2) (pc := 22) [(2, .int x1), (0, .ref (G.1 + a)), (1, .int v1)] hX (by decide +kernel) rfl (by decide) rfl ?_
    refine J_iload_n (k0 := 2) (pc := 23) 0 hX (by decide +kernel) rfl rfl ?_
    refine J_if_lt (pc := 24) (off := 19) (tgt := 43) hX (by decide +kernel) (by decide +kernel) (fun _ => ?_) (fun _ => ?_)
    · exact J_sub [1, 2] _ rfl (jTx_countHeirs_43 hL hX v1 hk10 μ)
    · refine J_iload_n (k0 := 2) (pc := 27) 0 hX (by decide +kernel) rfl rfl ?_
      refine J_bipush (pc := 28) (n := 16) (v := 16) hX (by decide +kernel) (by decide +kernel) ?_
      refine J_icmp_ge (pc := 30) (off := 13) (tgt := 43) hX (by decide +kernel) (by decide +kernel) (fun _ => ?_) (fun _ => ?_)
      · exact J_sub [1, 2] _ rfl (jTx_countHeirs_43 hL hX v1 hk10 μ)
      · refine J_aload_n (k0 := 0) (pc := 33) 1 hX (by decide +kernel) rfl rfl ?_
        refine J_gr (pc := 34) hX (by decide +kernel) fl_Tx_25 hL.1 rfl hL.2.2.2.2.1.1 ?_
        refine J_iload_n (k0 := 2) (pc := 37) 0 hX (by decide +kernel) rfl rfl ?_
        refine J_dup2 (pc := 38) hX (by decide +kernel) rfl rfl ?_
        refine J_ldA (pc := 39) hX (by decide +kernel) hL.2.2.2.2.1.2 (fun x2 => ?_)
        refine J_iconst (pc := 40) (n := 1) (v := 1) hX (by decide +kernel) (by decide +kernel) ?_
        refine J_iadd (pc := 41) hX (by decide +kernel) ?_
        refine J_stA (pc := 42) hX (by decide +kernel) hL.2.2.2.2.1.2 (fun μ3 => ?_)
        exact J_sub [1, 2] _ rfl (jTx_countHeirs_43 hL hX v1 hk10 μ3)
set_option maxRecDepth 100000 in
set_option maxHeartbeats 4000000 in
theorem jTx_countHeirs_10 {X : Cx} {l : Launch} {G : Gx} {y : Ly} {a : Nat} (hL : LyTx y a ) (hX : Ok X l G prog_9_method_5_code 3 none "SaltFigures$Texts")    : ∀ (fu : Nat) (v1 : Int32) (μ : Mu), J X G 3 2 y (emy y) rvV tpT 10 [(0, .ref (G.1 + a)), (1, .int v1)] [] (μ, y) (Tx_countHeirs_10 a   fu v1 μ) := by
  intro fu
  induction fu with
  | zero => intros; exact J_none
  | succ fu ih => intro v1 μ; exact jTx_countHeirs_10b hL hX   ih v1 μ
set_option maxRecDepth 100000 in
set_option maxHeartbeats 4000000 in
theorem jTx_countHeirs {X : Cx} {l : Launch} {G : Gx} {y : Ly} {a : Nat} (hL : LyTx y a ) (hX : Ok X l G prog_9_method_5_code 3 none "SaltFigures$Texts")  (μ : Mu) : J X G 3 2 y (emy y) rvV tpT 0 [(0, .ref (G.1 + a))] [] (μ, y) (Tx_countHeirs a  μ) := by
  unfold Tx_countHeirs
  refine J_aload_n (k0 := 0) (pc := 0) 0 hX (by decide +kernel) rfl rfl ?_
  refine J_gr (pc := 1) hX (by decide +kernel) fl_Tx_25 hL.1 rfl hL.2.2.2.2.1.1 ?_
  refine J_iconst (pc := 4) (n := 0) (v := 0) hX (by decide +kernel) (by decide +kernel) ?_
  refine J_cSv (pc := 5) (idx := 31) [.ref (G.1 + (a + 10)), .int 0] hX (by decide +kernel) (mq mt_1 135 (by decide +kernel)) mv_Ja_fill rfl rfl (Nat.le_of_ble_eq_true rfl) (Nat.le_of_ble_eq_true rfl) (c_Ja_fill hL.2.2.2.2.1.2 0 μ) (fun μ1 => ?_)
  refine J_iconst (pc := 8) (n := 0) (v := 0) hX (by decide +kernel) (by decide +kernel) ?_
  refine J_istore_n (k0 := 1) (pc := 9) [(1, .int 0), (0, .ref (G.1 + a))] hX (by decide +kernel) rfl (by decide) rfl ?_
  exact J_sub [1, 0] _ rfl (jTx_countHeirs_10 hL hX FU 0 μ1)
set_option maxRecDepth 100000 in
set_option maxHeartbeats 4000000 in
theorem c_Tx_countHeirs {l : Launch} {G : Gx} {y : Ly} {a : Nat} (hL : LyTx y a )  (μ : Mu) : Cn l G ⟨"SaltFigures$Texts", "countHeirs", "()V"⟩ prog_9_method_5_code 3 none 2 [.ref (G.1 + a)] (μ, y) (emy y) rvV tpT (Tx_countHeirs a  μ) := cn_of (by decide +kernel) (Nat.le_of_ble_eq_true rfl) (fun _ _ _ => ⟨List.prefix_refl _, trivial⟩) (fun X hX _ => jTx_countHeirs hL hX  μ)

def Tx_takeHeirs_64 (a r1 n1 : Nat)     (μ : Mu) : Option (Unit × Mu) := cl (Tx_countHeirs a μ) (fun _ μ1 => some ((), μ1))
def Tx_takeHeirs_58 (a r1 n1 : Nat) (kb10 : Int32 → Mu → Option (Unit × Mu))  (v2 : Int32) (v3 : Int32)  (μ : Mu) : Option (Unit × Mu) := kb10 (v3 + 1) μ
def Tx_takeHeirs_10b (a r1 n1 : Nat)  (kb10 : Int32 → Mu → Option (Unit × Mu)) (v2 : Int32) (v3 : Int32)  (μ : Mu) : Option (Unit × Mu) := (if v2 ≤ v3 then Tx_takeHeirs_64 a r1 n1 μ else (if (Int32.ofNat n1) ≤ ((v3 * 4) + 1) then Tx_takeHeirs_64 a r1 n1 μ else ldA μ r1 n1 (v3 * 4) (fun x1 => (if x1 < 0 then Tx_takeHeirs_58 a r1 n1 kb10 v2 v3 μ else (if 16 ≤ x1 then Tx_takeHeirs_58 a r1 n1 kb10 v2 v3 μ else ldA μ r1 n1 ((v3 * 4) + 1) (fun x2 => stA μ (a + 9) 16 x1 x2 (fun μ3 => Tx_takeHeirs_58 a r1 n1 kb10 v2 v3 μ3)))))))
def Tx_takeHeirs_10 (a r1 n1 : Nat)  (v2 : Int32) (fu : Nat) : Int32 → Mu → Option (Unit × Mu) := lp (fun kb => Tx_takeHeirs_10b a r1 n1  kb v2) (fun _ _ => none) fu
def Tx_takeHeirs (a r1 n1 : Nat) (v2 : Int32) (μ : Mu) : Option (Unit × Mu) := cl (Ja_fill (a + 9) 16 ((-1)) μ) (fun _ μ1 => Tx_takeHeirs_10 a r1 n1 v2 FU 0 μ1)
set_option maxRecDepth 100000 in
set_option maxHeartbeats 4000000 in
theorem jTx_takeHeirs_64 {X : Cx} {l : Launch} {G : Gx} {y : Ly} {a r1 n1 : Nat} (hL : LyTx y a ) (hr1 : y.2[r1]? = some (0, n1)) (hX : Ok X l G prog_9_method_4_code 5 none "SaltFigures$Texts")      (μ : Mu) : J X G 5 3 y (emy y) rvV tpT 64 [(0, .ref (G.1 + a))] [] (μ, y) (Tx_takeHeirs_64 a r1 n1     μ) := by
  unfold Tx_takeHeirs_64
  refine J_aload_n (k0 := 0) (pc := 64) 0 hX (by decide +kernel) rfl rfl ?_
  refine J_cVv (pc := 65) (idx := 59) [] hX (by decide +kernel) (mq mt_4 90 (by decide +kernel)) mv_Tx_countHeirs hL.1 rfl rfl (Nat.le_of_ble_eq_true rfl) (Nat.le_of_ble_eq_true rfl) (c_Tx_countHeirs hL μ) (fun μ1 => ?_)
  exact J_vret (pc := 68) hX (by decide +kernel) rfl trivial
set_option maxRecDepth 100000 in
set_option maxHeartbeats 4000000 in
theorem jTx_takeHeirs_58 {X : Cx} {l : Launch} {G : Gx} {y : Ly} {a r1 n1 : Nat} (hL : LyTx y a ) (hr1 : y.2[r1]? = some (0, n1)) (hX : Ok X l G prog_9_method_4_code 5 none "SaltFigures$Texts")  (v2 : Int32) (v3 : Int32)  {kb10 : Int32 → Mu → Option (Unit × Mu)} (hk10 : ∀ (v3 : Int32) (μ : Mu), J X G 5 3 y (emy y) rvV tpT 10 [(0, .ref (G.1 + a)), (1, .ref (G.1 + r1)), (2, .int v2), (3, .int v3)] [] (μ, y) (kb10 v3 μ)) (μ : Mu) : J X G 5 3 y (emy y) rvV tpT 58 [(0, .ref (G.1 + a)), (1, .ref (G.1 + r1)), (2, .int v2), (3, .int v3)] [] (μ, y) (Tx_takeHeirs_58 a r1 n1 kb10  v2 v3  μ) := by
  unfold Tx_takeHeirs_58
  refine J_iinc (pc := 58) (n := 1) 3 [(3, .int (v3 + 1)), (0, .ref (G.1 + a)), (1, .ref (G.1 + r1)), (2, .int v2)] hX (by decide +kernel) rfl rfl (by decide) rfl ?_
  refine J_goto (pc := 61) (off := -51) (tgt := 10) hX (by decide +kernel) (by decide +kernel) ?_
  exact J_sub [1, 2, 3, 0] _ rfl (hk10 (v3 + 1) μ)
set_option maxRecDepth 100000 in
set_option maxHeartbeats 4000000 in
theorem jTx_takeHeirs_10b {X : Cx} {l : Launch} {G : Gx} {y : Ly} {a r1 n1 : Nat} (hL : LyTx y a ) (hr1 : y.2[r1]? = some (0, n1)) (hX : Ok X l G prog_9_method_4_code 5 none "SaltFigures$Texts") (v2 : Int32)  {kb10 : Int32 → Mu → Option (Unit × Mu)}  (hk10 : ∀ (v3 : Int32) (μ : Mu), J X G 5 3 y (emy y) rvV tpT 10 [(0, .ref (G.1 + a)), (1, .ref (G.1 + r1)), (2, .int v2), (3, .int v3)] [] (μ, y) (kb10 v3 μ)) (v3 : Int32)  (μ : Mu) : J X G 5 3 y (emy y) rvV tpT 10 [(0, .ref (G.1 + a)), (1, .ref (G.1 + r1)), (2, .int v2), (3, .int v3)] [] (μ, y) (Tx_takeHeirs_10b a r1 n1  kb10 v2 v3  μ) := by
  unfold Tx_takeHeirs_10b
  refine J_iload_n (k0 := 3) (pc := 10) 3 hX (by decide +kernel) rfl rfl ?_
  refine J_iload_n (k0 := 2) (pc := 11) 2 hX (by decide +kernel) rfl rfl ?_
  refine J_icmp_ge (pc := 12) (off := 52) (tgt := 64) hX (by decide +kernel) (by decide +kernel) (fun _ => ?_) (fun _ => ?_)
  · exact J_sub [0] _ rfl (jTx_takeHeirs_64 hL hr1 hX μ)
  · refine J_iload_n (k0 := 3) (pc := 15) 3 hX (by decide +kernel) rfl rfl ?_
    refine J_iconst (pc := 16) (n := 4) (v := 4) hX (by decide +kernel) (by decide +kernel) ?_
    refine J_imul (pc := 17) hX (by decide +kernel) ?_
    refine J_iconst (pc := 18) (n := 1) (v := 1) hX (by decide +kernel) (by decide +kernel) ?_
    refine J_iadd (pc := 19) hX (by decide +kernel) ?_
    refine J_aload_n (k0 := 1) (pc := 20) 1 hX (by decide +kernel) rfl rfl ?_
    refine J_alen (pc := 21) hX (by decide +kernel) hr1 (v := Int32.ofNat n1) rfl ?_
    refine J_icmp_ge (pc := 22) (off := 42) (tgt := 64) hX (by decide +kernel) (by decide +kernel) (fun _ => ?_) (fun _ => ?_)
    · exact J_sub [0] _ rfl (jTx_takeHeirs_64 hL hr1 hX μ)
    · refine J_aload_n (k0 := 1) (pc := 25) 1 hX (by decide +kernel) rfl rfl ?_
      refine J_iload_n (k0 := 3) (pc := 26) 3 hX (by decide +kernel) rfl rfl ?_
      refine J_iconst (pc := 27) (n := 4) (v := 4) hX (by decide +kernel) (by decide +kernel) ?_
      refine J_imul (pc := 28) hX (by decide +kernel) ?_
      refine J_ldA (pc := 29) hX (by decide +kernel) hr1 (fun x1 => ?_)
      refine J_istore (pc := 30) [(4, .int x1), (0, .ref (G.1 + a)), (1, .ref (G.1 + r1)), (2, .int v2), (3, .int v3)] hX (by decide +kernel) (by decide) rfl ?_
      refine J_iload (pc := 32) 0 hX (by decide +kernel) rfl ?_
      refine J_if_lt (pc := 34) (off := 24) (tgt := 58) hX (by decide +kernel) (by decide +kernel) (fun _ => ?_) (fun _ => ?_)
      · exact J_sub [1, 2, 3, 4] _ rfl (jTx_takeHeirs_58 hL hr1 hX v2 v3 hk10 μ)
      · refine J_iload (pc := 37) 0 hX (by decide +kernel) rfl ?_
        refine J_bipush (pc := 39) (n := 16) (v := 16) hX (by decide +kernel) (by decide +kernel) ?_
        refine J_icmp_ge (pc := 41) (off := 17) (tgt := 58) hX (by decide +kernel) (by decide +kernel) (fun _ => ?_) (fun _ => ?_)
        · exact J_sub [1, 2, 3, 4] _ rfl (jTx_takeHeirs_58 hL hr1 hX v2 v3 hk10 μ)
        · refine J_aload_n (k0 := 0) (pc := 44) 1 hX (by decide +kernel) rfl rfl ?_
          refine J_gr (pc := 45) hX (by decide +kernel) fl_Tx_22 hL.1 rfl hL.2.2.2.1.1 ?_
          refine J_iload (pc := 48) 0 hX (by decide +kernel) rfl ?_
          refine J_aload_n (k0 := 1) (pc := 50) 2 hX (by decide +kernel) rfl rfl ?_
          refine J_iload_n (k0 := 3) (pc := 51) 4 hX (by decide +kernel) rfl rfl ?_
          refine J_iconst (pc := 52) (n := 4) (v := 4) hX (by decide +kernel) (by decide +kernel) ?_
          refine J_imul (pc := 53) hX (by decide +kernel) ?_
          refine J_iconst (pc := 54) (n := 1) (v := 1) hX (by decide +kernel) (by decide +kernel) ?_
          refine J_iadd (pc := 55) hX (by decide +kernel) ?_
          refine J_ldA (pc := 56) hX (by decide +kernel) hr1 (fun x2 => ?_)
          refine J_stA (pc := 57) hX (by decide +kernel) hL.2.2.2.1.2 (fun μ3 => ?_)
          exact J_sub [1, 2, 3, 4] _ rfl (jTx_takeHeirs_58 hL hr1 hX v2 v3 hk10 μ3)
set_option maxRecDepth 100000 in
set_option maxHeartbeats 4000000 in
theorem jTx_takeHeirs_10 {X : Cx} {l : Launch} {G : Gx} {y : Ly} {a r1 n1 : Nat} (hL : LyTx y a ) (hr1 : y.2[r1]? = some (0, n1)) (hX : Ok X l G prog_9_method_4_code 5 none "SaltFigures$Texts") (v2 : Int32)   : ∀ (fu : Nat) (v3 : Int32) (μ : Mu), J X G 5 3 y (emy y) rvV tpT 10 [(0, .ref (G.1 + a)), (1, .ref (G.1 + r1)), (2, .int v2), (3, .int v3)] [] (μ, y) (Tx_takeHeirs_10 a r1 n1  v2 fu v3 μ) := by
  intro fu
  induction fu with
  | zero => intros; exact J_none
  | succ fu ih => intro v3 μ; exact jTx_takeHeirs_10b hL hr1 hX v2  ih v3 μ
set_option maxRecDepth 100000 in
set_option maxHeartbeats 4000000 in
theorem jTx_takeHeirs {X : Cx} {l : Launch} {G : Gx} {y : Ly} {a r1 n1 : Nat} (hL : LyTx y a ) (hr1 : y.2[r1]? = some (0, n1)) (hX : Ok X l G prog_9_method_4_code 5 none "SaltFigures$Texts") (v2 : Int32) (μ : Mu) : J X G 5 3 y (emy y) rvV tpT 0 [(0, .ref (G.1 + a)), (1, .ref (G.1 + r1)), (2, .int v2)] [] (μ, y) (Tx_takeHeirs a r1 n1 v2 μ) := by
  unfold Tx_takeHeirs
  refine J_aload_n (k0 := 0) (pc := 0) 0 hX (by decide +kernel) rfl rfl ?_
  refine J_gr (pc := 1) hX (by decide +kernel) fl_Tx_22 hL.1 rfl hL.2.2.2.1.1 ?_
  refine J_iconst (pc := 4) (n := -1) (v := (-1)) hX (by decide +kernel) (by decide +kernel) ?_
  refine J_cSv (pc := 5) (idx := 31) [.ref (G.1 + (a + 9)), .int ((-1))] hX (by decide +kernel) (mq mt_1 135 (by decide +kernel)) mv_Ja_fill rfl rfl (Nat.le_of_ble_eq_true rfl) (Nat.le_of_ble_eq_true rfl) (c_Ja_fill hL.2.2.2.1.2 ((-1)) μ) (fun μ1 => ?_)
  refine J_iconst (pc := 8) (n := 0) (v := 0) hX (by decide +kernel) (by decide +kernel) ?_
  refine J_istore_n (k0 := 3) (pc := 9) [(3, .int 0), (0, .ref (G.1 + a)), (1, .ref (G.1 + r1)), (2, .int v2)] hX (by decide +kernel) rfl (by decide) rfl ?_
  exact J_sub [1, 2, 3, 0] _ rfl (jTx_takeHeirs_10 hL hr1 hX v2 FU 0 μ1)
set_option maxRecDepth 100000 in
set_option maxHeartbeats 4000000 in
theorem c_Tx_takeHeirs {l : Launch} {G : Gx} {y : Ly} {a r1 n1 : Nat} (hL : LyTx y a ) (hr1 : y.2[r1]? = some (0, n1)) (v2 : Int32) (μ : Mu) : Cn l G ⟨"SaltFigures$Texts", "takeHeirs", "([II)V"⟩ prog_9_method_4_code 5 none 3 [.ref (G.1 + a), .ref (G.1 + r1), .int v2] (μ, y) (emy y) rvV tpT (Tx_takeHeirs a r1 n1 v2 μ) := cn_of (by decide +kernel) (Nat.le_of_ble_eq_true rfl) (fun _ _ _ => ⟨List.prefix_refl _, trivial⟩) (fun X hX _ => jTx_takeHeirs hL hr1 hX v2 μ)

def Tx_take (a f2 : Nat) (v1 : Int32) (μ : Mu) : Option (Unit × Mu) := (if v1 < 0 then some ((), μ) else (if v1 < 4 then gF μ f2 10 (fun x1 => stA μ (a + 11) 4 v1 x1 (fun μ2 => (if v1 = 0 then cl (Lw_copyFrom (a + 1) (f2 + 2) μ2) (fun _ μ6 => some ((), μ6)) else (if v1 = 2 then cpA μ2 (f2 + 9) 64 0 (a + 8) 64 0 64 (fun μ5 => some ((), μ5)) else (if v1 = 3 then gF μ2 f2 10 (fun x3 => cl (Tx_takeHeirs a (f2 + 9) 64 x3 μ2) (fun _ μ4 => some ((), μ4))) else some ((), μ2)))))) else some ((), μ)))
set_option maxRecDepth 100000 in
set_option maxHeartbeats 4000000 in
theorem jTx_take {X : Cx} {l : Launch} {G : Gx} {y : Ly} {a f2 : Nat} (hL : LyTx y a ) (hf2 : LyRd y f2 ) (hX : Ok X l G prog_9_method_3_code 3 none "SaltFigures$Texts") (v1 : Int32) (μ : Mu) : J X G 3 4 y (emy y) rvV tpT 0 [(0, .ref (G.1 + a)), (1, .int v1), (2, .ref (G.1 + f2))] [] (μ, y) (Tx_take a f2 v1 μ) := by
  unfold Tx_take
  refine J_iload_n (k0 := 1) (pc := 0) 1 hX (by decide +kernel) rfl rfl ?_
  refine J_if_lt (pc := 1) (off := 12) (tgt := 13) hX (by decide +kernel) (by decide +kernel) (fun _ => ?_) (fun _ => ?_)
  · exact J_vret (pc := 13) hX (by decide +kernel) rfl trivial
  · refine J_iload_n (k0 := 1) (pc := 4) 1 hX (by decide +kernel) rfl rfl ?_
    refine J_aload_n (k0 := 0) (pc := 5) 0 hX (by decide +kernel) rfl rfl ?_
    refine J_gr (pc := 6) hX (by decide +kernel) fl_Tx_28 hL.1 rfl hL.2.2.2.2.2.1.1 ?_
    refine J_alen (pc := 9) hX (by decide +kernel) hL.2.2.2.2.2.1.2 (v := 4) (by decide +kernel) ?_
    refine J_icmp_lt (pc := 10) (off := 4) (tgt := 14) hX (by decide +kernel) (by decide +kernel) (fun _ => ?_) (fun _ => ?_)
    · refine J_aload_n (k0 := 0) (pc := 14) 0 hX (by decide +kernel) rfl rfl ?_
      refine J_gr (pc := 15) hX (by decide +kernel) fl_Tx_28 hL.1 rfl hL.2.2.2.2.2.1.1 ?_
      refine J_iload_n (k0 := 1) (pc := 18) 1 hX (by decide +kernel) rfl rfl ?_
      refine J_aload_n (k0 := 2) (pc := 19) 2 hX (by decide +kernel) rfl rfl ?_
      refine J_gF (pc := 20) hX (by decide +kernel) fl_Tx_47 hf2.1 rfl (fun x1 => ?_)
      refine J_stA (pc := 23) hX (by decide +kernel) hL.2.2.2.2.2.1.2 (fun μ2 => ?_)
      refine J_iload_n (k0 := 1) (pc := 24) 1 hX (by decide +kernel) rfl rfl ?_
      refine J_if_ne (pc := 25) (off := 17) (tgt := 42) hX (by decide +kernel) (by decide +kernel) (fun _ => ?_) (fun _ => ?_)
      · refine J_iload_n (k0 := 1) (pc := 42) 1 hX (by decide +kernel) rfl rfl ?_
        refine J_iconst (pc := 43) (n := 2) (v := 2) hX (by decide +kernel) (by decide +kernel) ?_
        refine J_icmp_ne (pc := 44) (off := 24) (tgt := 68) hX (by decide +kernel) (by decide +kernel) (fun _ => ?_) (fun _ => ?_)
        · refine J_iload_n (k0 := 1) (pc := 68) 1 hX (by decide +kernel) rfl rfl ?_
          refine J_iconst (pc := 69) (n := 3) (v := 3) hX (by decide +kernel) (by decide +kernel) ?_
          refine J_icmp_ne (pc := 70) (off := 15) (tgt := 85) hX (by decide +kernel) (by decide +kernel) (fun _ => ?_) (fun _ => ?_)
          · exact J_vret (pc := 85) hX (by decide +kernel) rfl trivial
          · refine J_aload_n (k0 := 0) (pc := 73) 0 hX (by decide +kernel) rfl rfl ?_
            refine J_aload_n (k0 := 2) (pc := 74) 2 hX (by decide +kernel) rfl rfl ?_
            refine J_gr (pc := 75) hX (by decide +kernel) fl_Tx_53 hf2.1 rfl hf2.2.2.2.1.1 ?_
            refine J_aload_n (k0 := 2) (pc := 78) 2 hX (by decide +kernel) rfl rfl ?_
            refine J_gF (pc := 79) hX (by decide +kernel) fl_Tx_47 hf2.1 rfl (fun x3 => ?_)
            refine J_cVv (pc := 82) (idx := 56) [.ref (G.1 + (f2 + 9)), .int x3] hX (by decide +kernel) (mq mt_4 86 (by decide +kernel)) mv_Tx_takeHeirs hL.1 rfl rfl (Nat.le_of_ble_eq_true rfl) (Nat.le_of_ble_eq_true rfl) (c_Tx_takeHeirs hL hf2.2.2.2.1.2 x3 μ2) (fun μ4 => ?_)
            exact J_vret (pc := 85) hX (by decide +kernel) rfl trivial
        · refine J_aload_n (k0 := 2) (pc := 47) 2 hX (by decide +kernel) rfl rfl ?_
          refine J_gr (pc := 48) hX (by decide +kernel) fl_Tx_53 hf2.1 rfl hf2.2.2.2.1.1 ?_
          refine J_iconst (pc := 51) (n := 0) (v := 0) hX (by decide +kernel) (by decide +kernel) ?_
          refine J_aload_n (k0 := 0) (pc := 52) 0 hX (by decide +kernel) rfl rfl ?_
          refine J_gr (pc := 53) hX (by decide +kernel) fl_Tx_18 hL.1 rfl hL.2.2.1.1 ?_
          refine J_iconst (pc := 56) (n := 0) (v := 0) hX (by decide +kernel) (by decide +kernel) ?_
          refine J_aload_n (k0 := 0) (pc := 57) 0 hX (by decide +kernel) rfl rfl ?_
          refine J_gr (pc := 58) hX (by decide +kernel) fl_Tx_18 hL.1 rfl hL.2.2.1.1 ?_
          refine J_alen (pc := 61) hX (by decide +kernel) hL.2.2.1.2 (v := 64) (by decide +kernel) ?_
          refine J_acp (pc := 62) (idx := 41) hX (by decide +kernel) (mq mt_4 85 (by decide +kernel)) hf2.2.2.2.1.2 hL.2.2.1.2 (Nat.le_of_ble_eq_true rfl) (Nat.le_of_ble_eq_true rfl) (fun μ5 => ?_)
          refine J_goto (pc := 65) (off := 20) (tgt := 85) hX (by decide +kernel) (by decide +kernel) ?_
          exact J_vret (pc := 85) hX (by decide +kernel) rfl trivial
      · refine J_aload_n (k0 := 0) (pc := 28) 0 hX (by decide +kernel) rfl rfl ?_
        refine J_gr (pc := 29) hX (by decide +kernel) fl_Tx_12 hL.1 rfl hL.2.1.1 ?_
        refine J_aload_n (k0 := 2) (pc := 32) 2 hX (by decide +kernel) rfl rfl ?_
        refine J_gr (pc := 33) hX (by decide +kernel) fl_Tx_52 hf2.1 rfl hf2.2.2.1.1 ?_
        refine J_cVv (pc := 36) (idx := 37) [.ref (G.1 + (f2 + 2))] hX (by decide +kernel) (mq mt_4 80 (by decide +kernel)) mv_Lw_copyFrom hL.2.1.2.1 rfl rfl (Nat.le_of_ble_eq_true rfl) (Nat.le_of_ble_eq_true rfl) (c_Lw_copyFrom hL.2.1.2 hf2.2.2.1.2 μ2) (fun μ6 => ?_)
        refine J_goto (pc := 39) (off := 46) (tgt := 85) hX (by decide +kernel) (by decide +kernel) ?_
        exact J_vret (pc := 85) hX (by decide +kernel) rfl trivial
    · exact J_vret (pc := 13) hX (by decide +kernel) rfl trivial
set_option maxRecDepth 100000 in
set_option maxHeartbeats 4000000 in
theorem c_Tx_take {l : Launch} {G : Gx} {y : Ly} {a f2 : Nat} (hL : LyTx y a ) (hf2 : LyRd y f2 ) (v1 : Int32) (μ : Mu) : Cn l G ⟨"SaltFigures$Texts", "take", "(ILSaltFigures$Reader;)V"⟩ prog_9_method_3_code 3 none 4 [.ref (G.1 + a), .int v1, .ref (G.1 + f2)] (μ, y) (emy y) rvV tpT (Tx_take a f2 v1 μ) := cn_of (by decide +kernel) (Nat.le_of_ble_eq_true rfl) (fun _ _ _ => ⟨List.prefix_refl _, trivial⟩) (fun X hX _ => jTx_take hL hf2 hX v1 μ)

def Fg_get_27 (a : Nat)   (v1 : Int32) (v2 : Int32) (s0 : Int32) (μ : Mu) : Option (Int32 × Mu) := (if s0 = 0 then some ((-1), μ) else ldA μ (a + 1) 112 ((v1 * 7) + v2) (fun x1 => some (x1, μ)))
def Fg_get_26 (a : Nat)   (v1 : Int32) (v2 : Int32)  (μ : Mu) : Option (Int32 × Mu) := Fg_get_27 a v1 v2 0 μ
def Fg_get (a : Nat) (v1 : Int32) (v2 : Int32) (μ : Mu) : Option (Int32 × Mu) := (if v1 < 0 then Fg_get_26 a v1 v2 μ else gF μ a 3 (fun x1 => (if x1 ≤ v1 then Fg_get_26 a v1 v2 μ else (if v2 < 0 then Fg_get_26 a v1 v2 μ else (if 7 ≤ v2 then Fg_get_26 a v1 v2 μ else Fg_get_27 a v1 v2 1 μ)))))
set_option maxRecDepth 100000 in
set_option maxHeartbeats 4000000 in
theorem jFg_get_27 {X : Cx} {l : Launch} {G : Gx} {y : Ly} {a : Nat} (hL : LyFg y a ) (hX : Ok X l G prog_3_method_6_code 4 (some .int) "SaltFigures$Figures")  (v1 : Int32) (v2 : Int32) (s0 : Int32)   (μ : Mu) : J X G 4 1 y (emy y) rvI tpT 27 [(0, .ref (G.1 + a)), (1, .int v1), (2, .int v2)] [.int s0] (μ, y) (Fg_get_27 a   v1 v2 s0 μ) := by
  unfold Fg_get_27
  refine J_istore_n (k0 := 3) (pc := 27) [(3, .int s0), (0, .ref (G.1 + a)), (1, .int v1), (2, .int v2)] hX (by decide +kernel) rfl (by decide) rfl ?_
  refine J_iload_n (k0 := 3) (pc := 28) 0 hX (by decide +kernel) rfl rfl ?_
  refine J_if_eq (pc := 29) (off := 17) (tgt := 46) hX (by decide +kernel) (by decide +kernel) (fun _ => ?_) (fun _ => ?_)
  · refine J_iconst (pc := 46) (n := -1) (v := (-1)) hX (by decide +kernel) (by decide +kernel) ?_
    exact J_iret (pc := 47) hX (by decide +kernel) rfl trivial
  · refine J_aload_n (k0 := 0) (pc := 32) 1 hX (by decide +kernel) rfl rfl ?_
    refine J_gr (pc := 33) hX (by decide +kernel) fl_Fg_9 hL.1 rfl hL.2.1.1 ?_
    refine J_iload_n (k0 := 1) (pc := 36) 2 hX (by decide +kernel) rfl rfl ?_
    refine J_bipush (pc := 37) (n := 7) (v := 7) hX (by decide +kernel) (by decide +kernel) ?_
    refine J_imul (pc := 39) hX (by decide +kernel) ?_
    refine J_iload_n (k0 := 2) (pc := 40) 3 hX (by decide +kernel) rfl rfl ?_
    refine J_iadd (pc := 41) hX (by decide +kernel) ?_
    refine J_ldA (pc := 42) hX (by decide +kernel) hL.2.1.2 (fun x1 => ?_)
    refine J_goto (pc := 43) (off := 4) (tgt := 47) hX (by decide +kernel) (by decide +kernel) ?_
    exact J_iret (pc := 47) hX (by decide +kernel) rfl trivial
set_option maxRecDepth 100000 in
set_option maxHeartbeats 4000000 in
theorem jFg_get_26 {X : Cx} {l : Launch} {G : Gx} {y : Ly} {a : Nat} (hL : LyFg y a ) (hX : Ok X l G prog_3_method_6_code 4 (some .int) "SaltFigures$Figures")  (v1 : Int32) (v2 : Int32)    (μ : Mu) : J X G 4 1 y (emy y) rvI tpT 26 [(0, .ref (G.1 + a)), (1, .int v1), (2, .int v2)] [] (μ, y) (Fg_get_26 a   v1 v2  μ) := by
  unfold Fg_get_26
  refine J_iconst (pc := 26) (n := 0) (v := 0) hX (by decide +kernel) (by decide +kernel) ?_
  exact J_sub [0, 1, 2] _ rfl (jFg_get_27 hL hX v1 v2 0 μ)
set_option maxRecDepth 100000 in
set_option maxHeartbeats 4000000 in
theorem jFg_get {X : Cx} {l : Launch} {G : Gx} {y : Ly} {a : Nat} (hL : LyFg y a ) (hX : Ok X l G prog_3_method_6_code 4 (some .int) "SaltFigures$Figures") (v1 : Int32) (v2 : Int32) (μ : Mu) : J X G 4 1 y (emy y) rvI tpT 0 [(0, .ref (G.1 + a)), (1, .int v1), (2, .int v2)] [] (μ, y) (Fg_get a v1 v2 μ) := by
  unfold Fg_get
  refine J_iload_n (k0 := 1) (pc := 0) 1 hX (by decide +kernel) rfl rfl ?_
  refine J_if_lt (pc := 1) (off := 25) (tgt := 26) hX (by decide +kernel) (by decide +kernel) (fun _ => ?_) (fun _ => ?_)
  · exact J_sub [0, 1, 2] _ rfl (jFg_get_26 hL hX v1 v2 μ)
  · refine J_iload_n (k0 := 1) (pc := 4) 1 hX (by decide +kernel) rfl rfl ?_
    refine J_aload_n (k0 := 0) (pc := 5) 0 hX (by decide +kernel) rfl rfl ?_
    refine J_gF (pc := 6) hX (by decide +kernel) fl_Fg_34 hL.1 rfl (fun x1 => ?_)
    refine J_icmp_ge (pc := 9) (off := 17) (tgt := 26) hX (by decide +kernel) (by decide +kernel) (fun _ => ?_) (fun _ => ?_)
    · exact J_sub [0, 1, 2] _ rfl (jFg_get_26 hL hX v1 v2 μ)
    · refine J_iload_n (k0 := 2) (pc := 12) 2 hX (by decide +kernel) rfl rfl ?_
      refine J_if_lt (pc := 13) (off := 13) (tgt := 26) hX (by decide +kernel) (by decide +kernel) (fun _ => ?_) (fun _ => ?_)
      · exact J_sub [0, 1, 2] _ rfl (jFg_get_26 hL hX v1 v2 μ)
      · refine J_iload_n (k0 := 2) (pc := 16) 2 hX (by decide +kernel) rfl rfl ?_
        refine J_bipush (pc := 17) (n := 7) (v := 7) hX (by decide +kernel) (by decide +kernel) ?_
        refine J_icmp_ge (pc := 19) (off := 7) (tgt := 26) hX (by decide +kernel) (by decide +kernel) (fun _ => ?_) (fun _ => ?_)
        · exact J_sub [0, 1, 2] _ rfl (jFg_get_26 hL hX v1 v2 μ)
        · refine J_iconst (pc := 22) (n := 1) (v := 1) hX (by decide +kernel) (by decide +kernel) ?_
          refine J_goto (pc := 23) (off := 4) (tgt := 27) hX (by decide +kernel) (by decide +kernel) ?_
          exact J_sub [0, 1, 2] _ rfl (jFg_get_27 hL hX v1 v2 1 μ)
set_option maxRecDepth 100000 in
set_option maxHeartbeats 4000000 in
theorem c_Fg_get {l : Launch} {G : Gx} {y : Ly} {a : Nat} (hL : LyFg y a ) (v1 : Int32) (v2 : Int32) (μ : Mu) : Cn l G ⟨"SaltFigures$Figures", "get", "(II)I"⟩ prog_3_method_6_code 4 (some .int) 1 [.ref (G.1 + a), .int v1, .int v2] (μ, y) (emy y) rvI tpT (Fg_get a v1 v2 μ) := cn_of (by decide +kernel) (Nat.le_of_ble_eq_true rfl) (fun _ _ _ => ⟨List.prefix_refl _, trivial⟩) (fun X hX _ => jFg_get hL hX v1 v2 μ)

def Fg_put (a : Nat) (v1 : Int32) (v2 : Int32) (v3 : Int32) (μ : Mu) : Option (Unit × Mu) := (if v1 < 0 then some ((), μ) else gF μ a 3 (fun x1 => (if x1 ≤ v1 then some ((), μ) else (if v2 < 0 then some ((), μ) else (if 7 ≤ v2 then some ((), μ) else stA μ (a + 1) 112 ((v1 * 7) + v2) v3 (fun μ2 => some ((), μ2)))))))
set_option maxRecDepth 100000 in
set_option maxHeartbeats 4000000 in
theorem jFg_put {X : Cx} {l : Launch} {G : Gx} {y : Ly} {a : Nat} (hL : LyFg y a ) (hX : Ok X l G prog_3_method_7_code 4 none "SaltFigures$Figures") (v1 : Int32) (v2 : Int32) (v3 : Int32) (μ : Mu) : J X G 4 1 y (emy y) rvV tpT 0 [(0, .ref (G.1 + a)), (1, .int v1), (2, .int v2), (3, .int v3)] [] (μ, y) (Fg_put a v1 v2 v3 μ) := by
  unfold Fg_put
  refine J_iload_n (k0 := 1) (pc := 0) 1 hX (by decide +kernel) rfl rfl ?_
  refine J_if_lt (pc := 1) (off := 33) (tgt := 34) hX (by decide +kernel) (by decide +kernel) (fun _ => ?_) (fun _ => ?_)
  · exact J_vret (pc := 34) hX (by decide +kernel) rfl trivial
  · refine J_iload_n (k0 := 1) (pc := 4) 1 hX (by decide +kernel) rfl rfl ?_
    refine J_aload_n (k0 := 0) (pc := 5) 0 hX (by decide +kernel) rfl rfl ?_
    refine J_gF (pc := 6) hX (by decide +kernel) fl_Fg_34 hL.1 rfl (fun x1 => ?_)
    refine J_icmp_ge (pc := 9) (off := 25) (tgt := 34) hX (by decide +kernel) (by decide +kernel) (fun _ => ?_) (fun _ => ?_)
    · exact J_vret (pc := 34) hX (by decide +kernel) rfl trivial
    · refine J_iload_n (k0 := 2) (pc := 12) 2 hX (by decide +kernel) rfl rfl ?_
      refine J_if_lt (pc := 13) (off := 21) (tgt := 34) hX (by decide +kernel) (by decide +kernel) (fun _ => ?_) (fun _ => ?_)
      · exact J_vret (pc := 34) hX (by decide +kernel) rfl trivial
      · refine J_iload_n (k0 := 2) (pc := 16) 2 hX (by decide +kernel) rfl rfl ?_
        refine J_bipush (pc := 17) (n := 7) (v := 7) hX (by decide +kernel) (by decide +kernel) ?_
        refine J_icmp_ge (pc := 19) (off := 15) (tgt := 34) hX (by decide +kernel) (by decide +kernel) (fun _ => ?_) (fun _ => ?_)
        · exact J_vret (pc := 34) hX (by decide +kernel) rfl trivial
        · refine J_aload_n (k0 := 0) (pc := 22) 0 hX (by decide +kernel) rfl rfl ?_
          refine J_gr (pc := 23) hX (by decide +kernel) fl_Fg_9 hL.1 rfl hL.2.1.1 ?_
          refine J_iload_n (k0 := 1) (pc := 26) 1 hX (by decide +kernel) rfl rfl ?_
          refine J_bipush (pc := 27) (n := 7) (v := 7) hX (by decide +kernel) (by decide +kernel) ?_
          refine J_imul (pc := 29) hX (by decide +kernel) ?_
          refine J_iload_n (k0 := 2) (pc := 30) 2 hX (by decide +kernel) rfl rfl ?_
          refine J_iadd (pc := 31) hX (by decide +kernel) ?_
          refine J_iload_n (k0 := 3) (pc := 32) 3 hX (by decide +kernel) rfl rfl ?_
          refine J_stA (pc := 33) hX (by decide +kernel) hL.2.1.2 (fun μ2 => ?_)
          exact J_vret (pc := 34) hX (by decide +kernel) rfl trivial
set_option maxRecDepth 100000 in
set_option maxHeartbeats 4000000 in
theorem c_Fg_put {l : Launch} {G : Gx} {y : Ly} {a : Nat} (hL : LyFg y a ) (v1 : Int32) (v2 : Int32) (v3 : Int32) (μ : Mu) : Cn l G ⟨"SaltFigures$Figures", "put", "(III)V"⟩ prog_3_method_7_code 4 none 1 [.ref (G.1 + a), .int v1, .int v2, .int v3] (μ, y) (emy y) rvV tpT (Fg_put a v1 v2 v3 μ) := cn_of (by decide +kernel) (Nat.le_of_ble_eq_true rfl) (fun _ _ _ => ⟨List.prefix_refl _, trivial⟩) (fun X hX _ => jFg_put hL hX v1 v2 v3 μ)

def Fg_rise (a : Nat) (v1 : Int32) (μ : Mu) : Option (Unit × Mu) := cl (Fg_get a v1 6 μ) (fun x2 μ1 => (if x2 < 0 then some ((), μ1) else (if 16 ≤ x2 then some ((), μ1) else stA μ1 (a + 2) 16 x2 ((-1)) (fun μ3 => cl (Fg_put a v1 6 ((-1)) μ3) (fun _ μ4 => some ((), μ4))))))
set_option maxRecDepth 100000 in
set_option maxHeartbeats 4000000 in
theorem jFg_rise {X : Cx} {l : Launch} {G : Gx} {y : Ly} {a : Nat} (hL : LyFg y a ) (hX : Ok X l G prog_3_method_14_code 3 none "SaltFigures$Figures") (v1 : Int32) (μ : Mu) : J X G 3 2 y (emy y) rvV tpT 0 [(0, .ref (G.1 + a)), (1, .int v1)] [] (μ, y) (Fg_rise a v1 μ) := by
  unfold Fg_rise
  refine J_aload_n (k0 := 0) (pc := 0) 0 hX (by decide +kernel) rfl rfl ?_
  refine J_iload_n (k0 := 1) (pc := 1) 1 hX (by decide +kernel) rfl rfl ?_
  refine J_bipush (pc := 2) (n := 6) (v := 6) hX (by decide +kernel) (by decide +kernel) ?_
  refine J_cVi (pc := 4) (idx := 60) [.int v1, .int 6] hX (by decide +kernel) (mq mt_2 167 (by decide +kernel)) mv_Fg_get hL.1 rfl rfl (Nat.le_of_ble_eq_true rfl) (Nat.le_of_ble_eq_true rfl) (c_Fg_get hL v1 6 μ) (fun x2 μ1 => ?_)
  refine J_istore_n (k0 := 2) (pc := 7) [(2, .int x2), (0, .ref (G.1 + a)), (1, .int v1)] hX (by decide +kernel) rfl (by decide) rfl ?_
  refine J_iload_n (k0 := 2) (pc := 8) 0 hX (by decide +kernel) rfl rfl ?_
  refine J_if_lt (pc := 9) (off := 24) (tgt := 33) hX (by decide +kernel) (by decide +kernel) (fun _ => ?_) (fun _ => ?_)
  · exact J_vret (pc := 33) hX (by decide +kernel) rfl trivial
  · refine J_iload_n (k0 := 2) (pc := 12) 0 hX (by decide +kernel) rfl rfl ?_
    refine J_bipush (pc := 13) (n := 16) (v := 16) hX (by decide +kernel) (by decide +kernel) ?_
    refine J_icmp_ge (pc := 15) (off := 18) (tgt := 33) hX (by decide +kernel) (by decide +kernel) (fun _ => ?_) (fun _ => ?_)
    · exact J_vret (pc := 33) hX (by decide +kernel) rfl trivial
    · refine J_aload_n (k0 := 0) (pc := 18) 1 hX (by decide +kernel) rfl rfl ?_
      refine J_gr (pc := 19) hX (by decide +kernel) fl_Fg_15 hL.1 rfl hL.2.2.1.1 ?_
      refine J_iload_n (k0 := 2) (pc := 22) 0 hX (by decide +kernel) rfl rfl ?_
      refine J_iconst (pc := 23) (n := -1) (v := (-1)) hX (by decide +kernel) (by decide +kernel) ?_
      refine J_stA (pc := 24) hX (by decide +kernel) hL.2.2.1.2 (fun μ3 => ?_)
      refine J_aload_n (k0 := 0) (pc := 25) 1 hX (by decide +kernel) rfl rfl ?_
      refine J_iload_n (k0 := 1) (pc := 26) 2 hX (by decide +kernel) rfl rfl ?_
      refine J_bipush (pc := 27) (n := 6) (v := 6) hX (by decide +kernel) (by decide +kernel) ?_
      refine J_iconst (pc := 29) (n := -1) (v := (-1)) hX (by decide +kernel) (by decide +kernel) ?_
      refine J_cVv (pc := 30) (idx := 56) [.int v1, .int 6, .int ((-1))] hX (by decide +kernel) (mq mt_2 155 (by decide +kernel)) mv_Fg_put hL.1 rfl rfl (Nat.le_of_ble_eq_true rfl) (Nat.le_of_ble_eq_true rfl) (c_Fg_put hL v1 6 ((-1)) μ3) (fun μ4 => ?_)
      exact J_vret (pc := 33) hX (by decide +kernel) rfl trivial
set_option maxRecDepth 100000 in
set_option maxHeartbeats 4000000 in
theorem c_Fg_rise {l : Launch} {G : Gx} {y : Ly} {a : Nat} (hL : LyFg y a ) (v1 : Int32) (μ : Mu) : Cn l G ⟨"SaltFigures$Figures", "rise", "(I)V"⟩ prog_3_method_14_code 3 none 2 [.ref (G.1 + a), .int v1] (μ, y) (emy y) rvV tpT (Fg_rise a v1 μ) := cn_of (by decide +kernel) (Nat.le_of_ble_eq_true rfl) (fun _ _ _ => ⟨List.prefix_refl _, trivial⟩) (fun X hX _ => jFg_rise hL hX v1 μ)

def Fg_isAlive (a : Nat) (v1 : Int32) (μ : Mu) : Option (Int32 × Mu) := cl (Fg_get a v1 5 μ) (fun x2 μ1 => (if x2 = 1 then some (1, μ1) else some (0, μ1)))
set_option maxRecDepth 100000 in
set_option maxHeartbeats 4000000 in
theorem jFg_isAlive {X : Cx} {l : Launch} {G : Gx} {y : Ly} {a : Nat} (hL : LyFg y a ) (hX : Ok X l G prog_3_method_5_code 2 (some .boolean) "SaltFigures$Figures") (v1 : Int32) (μ : Mu) : J X G 2 2 y (emy y) rvI tpT 0 [(0, .ref (G.1 + a)), (1, .int v1)] [] (μ, y) (Fg_isAlive a v1 μ) := by
  unfold Fg_isAlive
  refine J_aload_n (k0 := 0) (pc := 0) 0 hX (by decide +kernel) rfl rfl ?_
  refine J_iload_n (k0 := 1) (pc := 1) 1 hX (by decide +kernel) rfl rfl ?_
  refine J_iconst (pc := 2) (n := 5) (v := 5) hX (by decide +kernel) (by decide +kernel) ?_
  refine J_cVi (pc := 3) (idx := 60) [.int v1, .int 5] hX (by decide +kernel) (mq mt_2 167 (by decide +kernel)) mv_Fg_get hL.1 rfl rfl (Nat.le_of_ble_eq_true rfl) (Nat.le_of_ble_eq_true rfl) (c_Fg_get hL v1 5 μ) (fun x2 μ1 => ?_)
  refine J_iconst (pc := 6) (n := 1) (v := 1) hX (by decide +kernel) (by decide +kernel) ?_
  refine J_icmp_ne (pc := 7) (off := 7) (tgt := 14) hX (by decide +kernel) (by decide +kernel) (fun _ => ?_) (fun _ => ?_)
  · refine J_iconst (pc := 14) (n := 0) (v := 0) hX (by decide +kernel) (by decide +kernel) ?_
    exact J_zret (pc := 15) hX (by decide +kernel) rfl (by decide +kernel) trivial
  · refine J_iconst (pc := 10) (n := 1) (v := 1) hX (by decide +kernel) (by decide +kernel) ?_
    refine J_goto (pc := 11) (off := 4) (tgt := 15) hX (by decide +kernel) (by decide +kernel) ?_
    exact J_zret (pc := 15) hX (by decide +kernel) rfl (by decide +kernel) trivial
set_option maxRecDepth 100000 in
set_option maxHeartbeats 4000000 in
theorem c_Fg_isAlive {l : Launch} {G : Gx} {y : Ly} {a : Nat} (hL : LyFg y a ) (v1 : Int32) (μ : Mu) : Cn l G ⟨"SaltFigures$Figures", "isAlive", "(I)Z"⟩ prog_3_method_5_code 2 (some .boolean) 2 [.ref (G.1 + a), .int v1] (μ, y) (emy y) rvI tpT (Fg_isAlive a v1 μ) := cn_of (by decide +kernel) (Nat.le_of_ble_eq_true rfl) (fun _ _ _ => ⟨List.prefix_refl _, trivial⟩) (fun X hX _ => jFg_isAlive hL hX v1 μ)

def Fg_holder (a : Nat) (v1 : Int32) (μ : Mu) : Option (Int32 × Mu) := (if v1 < 0 then some ((-1), μ) else (if 16 ≤ v1 then some ((-1), μ) else ldA μ (a + 2) 16 v1 (fun x1 => some (x1, μ))))
set_option maxRecDepth 100000 in
set_option maxHeartbeats 4000000 in
theorem jFg_holder {X : Cx} {l : Launch} {G : Gx} {y : Ly} {a : Nat} (hL : LyFg y a ) (hX : Ok X l G prog_3_method_11_code 2 (some .int) "SaltFigures$Figures") (v1 : Int32) (μ : Mu) : J X G 2 1 y (emy y) rvI tpT 0 [(0, .ref (G.1 + a)), (1, .int v1)] [] (μ, y) (Fg_holder a v1 μ) := by
  unfold Fg_holder
  refine J_iload_n (k0 := 1) (pc := 0) 1 hX (by decide +kernel) rfl rfl ?_
  refine J_if_lt (pc := 1) (off := 18) (tgt := 19) hX (by decide +kernel) (by decide +kernel) (fun _ => ?_) (fun _ => ?_)
  · refine J_iconst (pc := 19) (n := -1) (v := (-1)) hX (by decide +kernel) (by decide +kernel) ?_
    exact J_iret (pc := 20) hX (by decide +kernel) rfl trivial
  · refine J_iload_n (k0 := 1) (pc := 4) 1 hX (by decide +kernel) rfl rfl ?_
    refine J_bipush (pc := 5) (n := 16) (v := 16) hX (by decide +kernel) (by decide +kernel) ?_
    refine J_icmp_ge (pc := 7) (off := 12) (tgt := 19) hX (by decide +kernel) (by decide +kernel) (fun _ => ?_) (fun _ => ?_)
    · refine J_iconst (pc := 19) (n := -1) (v := (-1)) hX (by decide +kernel) (by decide +kernel) ?_
      exact J_iret (pc := 20) hX (by decide +kernel) rfl trivial
    · refine J_aload_n (k0 := 0) (pc := 10) 0 hX (by decide +kernel) rfl rfl ?_
      refine J_gr (pc := 11) hX (by decide +kernel) fl_Fg_15 hL.1 rfl hL.2.2.1.1 ?_
      refine J_iload_n (k0 := 1) (pc := 14) 1 hX (by decide +kernel) rfl rfl ?_
      refine J_ldA (pc := 15) hX (by decide +kernel) hL.2.2.1.2 (fun x1 => ?_)
      refine J_goto (pc := 16) (off := 4) (tgt := 20) hX (by decide +kernel) (by decide +kernel) ?_
      exact J_iret (pc := 20) hX (by decide +kernel) rfl trivial
set_option maxRecDepth 100000 in
set_option maxHeartbeats 4000000 in
theorem c_Fg_holder {l : Launch} {G : Gx} {y : Ly} {a : Nat} (hL : LyFg y a ) (v1 : Int32) (μ : Mu) : Cn l G ⟨"SaltFigures$Figures", "holder", "(I)I"⟩ prog_3_method_11_code 2 (some .int) 1 [.ref (G.1 + a), .int v1] (μ, y) (emy y) rvI tpT (Fg_holder a v1 μ) := cn_of (by decide +kernel) (Nat.le_of_ble_eq_true rfl) (fun _ _ _ => ⟨List.prefix_refl _, trivial⟩) (fun X hX _ => jFg_holder hL hX v1 μ)

def Fg_sit (a : Nat) (v1 : Int32) (v2 : Int32) (μ : Mu) : Option (Unit × Mu) := (if v2 < 0 then some ((), μ) else (if 16 ≤ v2 then some ((), μ) else stA μ (a + 2) 16 v2 v1 (fun μ1 => cl (Fg_put a v1 6 v2 μ1) (fun _ μ2 => some ((), μ2)))))
set_option maxRecDepth 100000 in
set_option maxHeartbeats 4000000 in
theorem jFg_sit {X : Cx} {l : Launch} {G : Gx} {y : Ly} {a : Nat} (hL : LyFg y a ) (hX : Ok X l G prog_3_method_13_code 3 none "SaltFigures$Figures") (v1 : Int32) (v2 : Int32) (μ : Mu) : J X G 3 2 y (emy y) rvV tpT 0 [(0, .ref (G.1 + a)), (1, .int v1), (2, .int v2)] [] (μ, y) (Fg_sit a v1 v2 μ) := by
  unfold Fg_sit
  refine J_iload_n (k0 := 2) (pc := 0) 2 hX (by decide +kernel) rfl rfl ?_
  refine J_if_lt (pc := 1) (off := 24) (tgt := 25) hX (by decide +kernel) (by decide +kernel) (fun _ => ?_) (fun _ => ?_)
  · exact J_vret (pc := 25) hX (by decide +kernel) rfl trivial
  · refine J_iload_n (k0 := 2) (pc := 4) 2 hX (by decide +kernel) rfl rfl ?_
    refine J_bipush (pc := 5) (n := 16) (v := 16) hX (by decide +kernel) (by decide +kernel) ?_
    refine J_icmp_ge (pc := 7) (off := 18) (tgt := 25) hX (by decide +kernel) (by decide +kernel) (fun _ => ?_) (fun _ => ?_)
    · exact J_vret (pc := 25) hX (by decide +kernel) rfl trivial
    · refine J_aload_n (k0 := 0) (pc := 10) 0 hX (by decide +kernel) rfl rfl ?_
      refine J_gr (pc := 11) hX (by decide +kernel) fl_Fg_15 hL.1 rfl hL.2.2.1.1 ?_
      refine J_iload_n (k0 := 2) (pc := 14) 2 hX (by decide +kernel) rfl rfl ?_
      refine J_iload_n (k0 := 1) (pc := 15) 1 hX (by decide +kernel) rfl rfl ?_
      refine J_stA (pc := 16) hX (by decide +kernel) hL.2.2.1.2 (fun μ1 => ?_)
      refine J_aload_n (k0 := 0) (pc := 17) 0 hX (by decide +kernel) rfl rfl ?_
      refine J_iload_n (k0 := 1) (pc := 18) 1 hX (by decide +kernel) rfl rfl ?_
      refine J_bipush (pc := 19) (n := 6) (v := 6) hX (by decide +kernel) (by decide +kernel) ?_
      refine J_iload_n (k0 := 2) (pc := 21) 2 hX (by decide +kernel) rfl rfl ?_
      refine J_cVv (pc := 22) (idx := 56) [.int v1, .int 6, .int v2] hX (by decide +kernel) (mq mt_2 155 (by decide +kernel)) mv_Fg_put hL.1 rfl rfl (Nat.le_of_ble_eq_true rfl) (Nat.le_of_ble_eq_true rfl) (c_Fg_put hL v1 6 v2 μ1) (fun μ2 => ?_)
      exact J_vret (pc := 25) hX (by decide +kernel) rfl trivial
set_option maxRecDepth 100000 in
set_option maxHeartbeats 4000000 in
theorem c_Fg_sit {l : Launch} {G : Gx} {y : Ly} {a : Nat} (hL : LyFg y a ) (v1 : Int32) (v2 : Int32) (μ : Mu) : Cn l G ⟨"SaltFigures$Figures", "sit", "(II)V"⟩ prog_3_method_13_code 3 none 2 [.ref (G.1 + a), .int v1, .int v2] (μ, y) (emy y) rvV tpT (Fg_sit a v1 v2 μ) := cn_of (by decide +kernel) (Nat.le_of_ble_eq_true rfl) (fun _ _ _ => ⟨List.prefix_refl _, trivial⟩) (fun X hX _ => jFg_sit hL hX v1 v2 μ)

def Fg_seatAll_87 (a r1 n1 : Nat) (kb23 : Int32 → Mu → Option (Unit × Mu))  (v2 : Int32) (v3 : Int32)  (μ : Mu) : Option (Unit × Mu) := kb23 (v3 + 1) μ
def Fg_seatAll_23b (a r1 n1 : Nat)  (kb23 : Int32 → Mu → Option (Unit × Mu)) (v2 : Int32) (v3 : Int32)  (μ : Mu) : Option (Unit × Mu) := (if v2 ≤ v3 then some ((), μ) else (if (Int32.ofNat n1) ≤ ((v3 * 4) + 1) then some ((), μ) else ldA μ r1 n1 (v3 * 4) (fun x1 => ldA μ r1 n1 ((v3 * 4) + 1) (fun x2 => cl (Fg_isAlive a x2 μ) (fun x4 μ3 => (if x4 = 0 then Fg_seatAll_87 a r1 n1 kb23 v2 v3 μ3 else cl (Fg_holder a x1 μ3) (fun x6 μ5 => cl (Fg_rise a x6 μ5) (fun _ μ7 => cl (Fg_rise a x2 μ7) (fun _ μ8 => cl (Fg_sit a x2 x1 μ8) (fun _ μ9 => Fg_seatAll_87 a r1 n1 kb23 v2 v3 μ9))))))))))
def Fg_seatAll_23 (a r1 n1 : Nat)  (v2 : Int32) (fu : Nat) : Int32 → Mu → Option (Unit × Mu) := lp (fun kb => Fg_seatAll_23b a r1 n1  kb v2) (fun _ _ => none) fu
def Fg_seatAll_2b (a r1 n1 : Nat)  (kb2 : Int32 → Mu → Option (Unit × Mu)) (v2 : Int32) (v3 : Int32)  (μ : Mu) : Option (Unit × Mu) := gF μ a 3 (fun x1 => (if x1 ≤ v3 then Fg_seatAll_23 a r1 n1 v2 FU 0 μ else cl (Fg_rise a v3 μ) (fun _ μ2 => kb2 (v3 + 1) μ2)))
def Fg_seatAll_2 (a r1 n1 : Nat)  (v2 : Int32) (fu : Nat) : Int32 → Mu → Option (Unit × Mu) := lp (fun kb => Fg_seatAll_2b a r1 n1  kb v2) (fun _ _ => none) fu
def Fg_seatAll (a r1 n1 : Nat) (v2 : Int32) (μ : Mu) : Option (Unit × Mu) := Fg_seatAll_2 a r1 n1 v2 FU 0 μ
set_option maxRecDepth 100000 in
set_option maxHeartbeats 4000000 in
theorem jFg_seatAll_87 {X : Cx} {l : Launch} {G : Gx} {y : Ly} {a r1 n1 : Nat} (hL : LyFg y a ) (hr1 : y.2[r1]? = some (0, n1)) (hX : Ok X l G prog_3_method_15_code 6 none "SaltFigures$Figures")  (v2 : Int32) (v3 : Int32)  {kb23 : Int32 → Mu → Option (Unit × Mu)} (hk23 : ∀ (v3 : Int32) (μ : Mu), J X G 6 3 y (emy y) rvV tpT 23 [(0, .ref (G.1 + a)), (1, .ref (G.1 + r1)), (2, .int v2), (3, .int v3)] [] (μ, y) (kb23 v3 μ)) (μ : Mu) : J X G 6 3 y (emy y) rvV tpT 87 [(0, .ref (G.1 + a)), (1, .ref (G.1 + r1)), (2, .int v2), (3, .int v3)] [] (μ, y) (Fg_seatAll_87 a r1 n1 kb23  v2 v3  μ) := by
  unfold Fg_seatAll_87
  refine J_iinc (pc := 87) (n := 1) 3 [(3, .int (v3 + 1)), (0, .ref (G.1 + a)), (1, .ref (G.1 + r1)), (2, .int v2)] hX (by decide +kernel) rfl rfl (by decide) rfl ?_
  refine J_goto (pc := 90) (off := -67) (tgt := 23) hX (by decide +kernel) (by decide +kernel) ?_
  exact J_sub [1, 2, 3, 0] _ rfl (hk23 (v3 + 1) μ)
set_option maxRecDepth 100000 in
set_option maxHeartbeats 4000000 in
theorem jFg_seatAll_23b {X : Cx} {l : Launch} {G : Gx} {y : Ly} {a r1 n1 : Nat} (hL : LyFg y a ) (hr1 : y.2[r1]? = some (0, n1)) (hX : Ok X l G prog_3_method_15_code 6 none "SaltFigures$Figures") (v2 : Int32)  {kb23 : Int32 → Mu → Option (Unit × Mu)}  (hk23 : ∀ (v3 : Int32) (μ : Mu), J X G 6 3 y (emy y) rvV tpT 23 [(0, .ref (G.1 + a)), (1, .ref (G.1 + r1)), (2, .int v2), (3, .int v3)] [] (μ, y) (kb23 v3 μ)) (v3 : Int32)  (μ : Mu) : J X G 6 3 y (emy y) rvV tpT 23 [(0, .ref (G.1 + a)), (1, .ref (G.1 + r1)), (2, .int v2), (3, .int v3)] [] (μ, y) (Fg_seatAll_23b a r1 n1  kb23 v2 v3  μ) := by
  unfold Fg_seatAll_23b
  refine J_iload_n (k0 := 3) (pc := 23) 3 hX (by decide +kernel) rfl rfl ?_
  refine J_iload_n (k0 := 2) (pc := 24) 2 hX (by decide +kernel) rfl rfl ?_
  refine J_icmp_ge (pc := 25) (off := 68) (tgt := 93) hX (by decide +kernel) (by decide +kernel) (fun _ => ?_) (fun _ => ?_)
  · exact J_vret (pc := 93) hX (by decide +kernel) rfl trivial
  · refine J_iload_n (k0 := 3) (pc := 28) 3 hX (by decide +kernel) rfl rfl ?_
    refine J_iconst (pc := 29) (n := 4) (v := 4) hX (by decide +kernel) (by decide +kernel) ?_
    refine J_imul (pc := 30) hX (by decide +kernel) ?_
    refine J_iconst (pc := 31) (n := 1) (v := 1) hX (by decide +kernel) (by decide +kernel) ?_
    refine J_iadd (pc := 32) hX (by decide +kernel) ?_
    refine J_aload_n (k0 := 1) (pc := 33) 1 hX (by decide +kernel) rfl rfl ?_
    refine J_alen (pc := 34) hX (by decide +kernel) hr1 (v := Int32.ofNat n1) rfl ?_
    refine J_icmp_ge (pc := 35) (off := 58) (tgt := 93) hX (by decide +kernel) (by decide +kernel) (fun _ => ?_) (fun _ => ?_)
    · exact J_vret (pc := 93) hX (by decide +kernel) rfl trivial
    · refine J_aload_n (k0 := 1) (pc := 38) 1 hX (by decide +kernel) rfl rfl ?_
      refine J_iload_n (k0 := 3) (pc := 39) 3 hX (by decide +kernel) rfl rfl ?_
      refine J_iconst (pc := 40) (n := 4) (v := 4) hX (by decide +kernel) (by decide +kernel) ?_
      refine J_imul (pc := 41) hX (by decide +kernel) ?_
      refine J_ldA (pc := 42) hX (by decide +kernel) hr1 (fun x1 => ?_)
      refine J_istore (pc := 43) [(4, .int x1), (0, .ref (G.1 + a)), (1, .ref (G.1 + r1)), (2, .int v2), (3, .int v3)] hX (by decide +kernel) (by decide) rfl ?_
      refine J_aload_n (k0 := 1) (pc := 45) 2 hX (by decide +kernel) rfl rfl ?_
      refine J_iload_n (k0 := 3) (pc := 46) 4 hX (by decide +kernel) rfl rfl ?_
      refine J_iconst (pc := 47) (n := 4) (v := 4) hX (by decide +kernel) (by decide +kernel) ?_
      refine J_imul (pc := 48) hX (by decide +kernel) ?_
      refine J_iconst (pc := 49) (n := 1) (v := 1) hX (by decide +kernel) (by decide +kernel) ?_
      refine J_iadd (pc := 50) hX (by decide +kernel) ?_
      refine J_ldA (pc := 51) hX (by decide +kernel) hr1 (fun x2 => ?_)
      refine J_istore (pc := 52) [(5, .int x2), (4, .int x1), (0, .ref (G.1 + a)), (1, .ref (G.1 + r1)), (2, .int v2), (3, .int v3)] hX (by decide +kernel) (by decide) rfl ?_
      refine J_aload_n (k0 := 0) (pc := 54) 2 hX (by decide +kernel) rfl rfl ?_
      refine J_iload (pc := 55) 0 hX (by decide +kernel) rfl ?_
      refine J_cVi (pc := 57) (idx := 72) [.int x2] hX (by decide +kernel) (mq mt_4 99 (by decide +kernel)) mv_Fg_isAlive hL.1 rfl rfl (Nat.le_of_ble_eq_true rfl) (Nat.le_of_ble_eq_true rfl) (c_Fg_isAlive hL x2 μ) (fun x4 μ3 => ?_)
      refine J_if_eq (pc := 60) (off := 27) (tgt := 87) hX (by decide +kernel) (by decide +kernel) (fun _ => ?_) (fun _ => ?_)
      · exact J_sub [2, 3, 4, 5] _ rfl (jFg_seatAll_87 hL hr1 hX v2 v3 hk23 μ3)
      · refine J_aload_n (k0 := 0) (pc := 63) 2 hX (by decide +kernel) rfl rfl ?_
        refine J_aload_n (k0 := 0) (pc := 64) 2 hX (by decide +kernel) rfl rfl ?_
        refine J_iload (pc := 65) 1 hX (by decide +kernel) rfl ?_
        refine J_cVi (pc := 67) (idx := 64) [.int x1] hX (by decide +kernel) (mq mt_4 100 (by decide +kernel)) mv_Fg_holder hL.1 rfl rfl (Nat.le_of_ble_eq_true rfl) (Nat.le_of_ble_eq_true rfl) (c_Fg_holder hL x1 μ3) (fun x6 μ5 => ?_)
        refine J_cVv (pc := 70) (idx := 68) [.int x6] hX (by decide +kernel) (mq mt_4 98 (by decide +kernel)) mv_Fg_rise hL.1 rfl rfl (Nat.le_of_ble_eq_true rfl) (Nat.le_of_ble_eq_true rfl) (c_Fg_rise hL x6 μ5) (fun μ7 => ?_)
        refine J_aload_n (k0 := 0) (pc := 73) 2 hX (by decide +kernel) rfl rfl ?_
        refine J_iload (pc := 74) 0 hX (by decide +kernel) rfl ?_
        refine J_cVv (pc := 76) (idx := 68) [.int x2] hX (by decide +kernel) (mq mt_4 98 (by decide +kernel)) mv_Fg_rise hL.1 rfl rfl (Nat.le_of_ble_eq_true rfl) (Nat.le_of_ble_eq_true rfl) (c_Fg_rise hL x2 μ7) (fun μ8 => ?_)
        refine J_aload_n (k0 := 0) (pc := 79) 2 hX (by decide +kernel) rfl rfl ?_
        refine J_iload (pc := 80) 0 hX (by decide +kernel) rfl ?_
        refine J_iload (pc := 82) 1 hX (by decide +kernel) rfl ?_
        refine J_cVv (pc := 84) (idx := 76) [.int x2, .int x1] hX (by decide +kernel) (mq mt_4 101 (by decide +kernel)) mv_Fg_sit hL.1 rfl rfl (Nat.le_of_ble_eq_true rfl) (Nat.le_of_ble_eq_true rfl) (c_Fg_sit hL x2 x1 μ8) (fun μ9 => ?_)
        exact J_sub [2, 3, 4, 5] _ rfl (jFg_seatAll_87 hL hr1 hX v2 v3 hk23 μ9)
set_option maxRecDepth 100000 in
set_option maxHeartbeats 4000000 in
theorem jFg_seatAll_23 {X : Cx} {l : Launch} {G : Gx} {y : Ly} {a r1 n1 : Nat} (hL : LyFg y a ) (hr1 : y.2[r1]? = some (0, n1)) (hX : Ok X l G prog_3_method_15_code 6 none "SaltFigures$Figures") (v2 : Int32)   : ∀ (fu : Nat) (v3 : Int32) (μ : Mu), J X G 6 3 y (emy y) rvV tpT 23 [(0, .ref (G.1 + a)), (1, .ref (G.1 + r1)), (2, .int v2), (3, .int v3)] [] (μ, y) (Fg_seatAll_23 a r1 n1  v2 fu v3 μ) := by
  intro fu
  induction fu with
  | zero => intros; exact J_none
  | succ fu ih => intro v3 μ; exact jFg_seatAll_23b hL hr1 hX v2  ih v3 μ
set_option maxRecDepth 100000 in
set_option maxHeartbeats 4000000 in
theorem jFg_seatAll_2b {X : Cx} {l : Launch} {G : Gx} {y : Ly} {a r1 n1 : Nat} (hL : LyFg y a ) (hr1 : y.2[r1]? = some (0, n1)) (hX : Ok X l G prog_3_method_15_code 6 none "SaltFigures$Figures") (v2 : Int32)  {kb2 : Int32 → Mu → Option (Unit × Mu)}  (hk2 : ∀ (v3 : Int32) (μ : Mu), J X G 6 3 y (emy y) rvV tpT 2 [(0, .ref (G.1 + a)), (1, .ref (G.1 + r1)), (2, .int v2), (3, .int v3)] [] (μ, y) (kb2 v3 μ)) (v3 : Int32)  (μ : Mu) : J X G 6 3 y (emy y) rvV tpT 2 [(0, .ref (G.1 + a)), (1, .ref (G.1 + r1)), (2, .int v2), (3, .int v3)] [] (μ, y) (Fg_seatAll_2b a r1 n1  kb2 v2 v3  μ) := by
  unfold Fg_seatAll_2b
  refine J_iload_n (k0 := 3) (pc := 2) 3 hX (by decide +kernel) rfl rfl ?_
  refine J_aload_n (k0 := 0) (pc := 3) 0 hX (by decide +kernel) rfl rfl ?_
  refine J_gF (pc := 4) hX (by decide +kernel) fl_Fg_34 hL.1 rfl (fun x1 => ?_)
  refine J_icmp_ge (pc := 7) (off := 14) (tgt := 21) hX (by decide +kernel) (by decide +kernel) (fun _ => ?_) (fun _ => ?_)
  · refine J_iconst (pc := 21) (n := 0) (v := 0) hX (by decide +kernel) (by decide +kernel) ?_
    refine J_istore_n (k0 := 3) (pc := 22) [(3, .int 0), (0, .ref (G.1 + a)), (1, .ref (G.1 + r1)), (2, .int v2)] hX (by decide +kernel) rfl (by decide) rfl ?_
    exact J_sub [1, 2, 3, 0] _ rfl (jFg_seatAll_23 hL hr1 hX v2 FU 0 μ)
  · refine J_aload_n (k0 := 0) (pc := 10) 0 hX (by decide +kernel) rfl rfl ?_
    refine J_iload_n (k0 := 3) (pc := 11) 3 hX (by decide +kernel) rfl rfl ?_
    refine J_cVv (pc := 12) (idx := 68) [.int v3] hX (by decide +kernel) (mq mt_4 98 (by decide +kernel)) mv_Fg_rise hL.1 rfl rfl (Nat.le_of_ble_eq_true rfl) (Nat.le_of_ble_eq_true rfl) (c_Fg_rise hL v3 μ) (fun μ2 => ?_)
    refine J_iinc (pc := 15) (n := 1) 3 [(3, .int (v3 + 1)), (0, .ref (G.1 + a)), (1, .ref (G.1 + r1)), (2, .int v2)] hX (by decide +kernel) rfl rfl (by decide) rfl ?_
    refine J_goto (pc := 18) (off := -16) (tgt := 2) hX (by decide +kernel) (by decide +kernel) ?_
    exact J_sub [1, 2, 3, 0] _ rfl (hk2 (v3 + 1) μ2)
set_option maxRecDepth 100000 in
set_option maxHeartbeats 4000000 in
theorem jFg_seatAll_2 {X : Cx} {l : Launch} {G : Gx} {y : Ly} {a r1 n1 : Nat} (hL : LyFg y a ) (hr1 : y.2[r1]? = some (0, n1)) (hX : Ok X l G prog_3_method_15_code 6 none "SaltFigures$Figures") (v2 : Int32)   : ∀ (fu : Nat) (v3 : Int32) (μ : Mu), J X G 6 3 y (emy y) rvV tpT 2 [(0, .ref (G.1 + a)), (1, .ref (G.1 + r1)), (2, .int v2), (3, .int v3)] [] (μ, y) (Fg_seatAll_2 a r1 n1  v2 fu v3 μ) := by
  intro fu
  induction fu with
  | zero => intros; exact J_none
  | succ fu ih => intro v3 μ; exact jFg_seatAll_2b hL hr1 hX v2  ih v3 μ
set_option maxRecDepth 100000 in
set_option maxHeartbeats 4000000 in
theorem jFg_seatAll {X : Cx} {l : Launch} {G : Gx} {y : Ly} {a r1 n1 : Nat} (hL : LyFg y a ) (hr1 : y.2[r1]? = some (0, n1)) (hX : Ok X l G prog_3_method_15_code 6 none "SaltFigures$Figures") (v2 : Int32) (μ : Mu) : J X G 6 3 y (emy y) rvV tpT 0 [(0, .ref (G.1 + a)), (1, .ref (G.1 + r1)), (2, .int v2)] [] (μ, y) (Fg_seatAll a r1 n1 v2 μ) := by
  unfold Fg_seatAll
  refine J_iconst (pc := 0) (n := 0) (v := 0) hX (by decide +kernel) (by decide +kernel) ?_
  refine J_istore_n (k0 := 3) (pc := 1) [(3, .int 0), (0, .ref (G.1 + a)), (1, .ref (G.1 + r1)), (2, .int v2)] hX (by decide +kernel) rfl (by decide) rfl ?_
  exact J_sub [1, 2, 3, 0] _ rfl (jFg_seatAll_2 hL hr1 hX v2 FU 0 μ)
set_option maxRecDepth 100000 in
set_option maxHeartbeats 4000000 in
theorem c_Fg_seatAll {l : Launch} {G : Gx} {y : Ly} {a r1 n1 : Nat} (hL : LyFg y a ) (hr1 : y.2[r1]? = some (0, n1)) (v2 : Int32) (μ : Mu) : Cn l G ⟨"SaltFigures$Figures", "seatAll", "([II)V"⟩ prog_3_method_15_code 6 none 3 [.ref (G.1 + a), .ref (G.1 + r1), .int v2] (μ, y) (emy y) rvV tpT (Fg_seatAll a r1 n1 v2 μ) := cn_of (by decide +kernel) (Nat.le_of_ble_eq_true rfl) (fun _ _ _ => ⟨List.prefix_refl _, trivial⟩) (fun X hX _ => jFg_seatAll hL hr1 hX v2 μ)

def Sf_forget (a : Nat)  (μ : Mu) : Option (Unit × Mu) := pF μ a 8 0 (fun μ1 => some ((), μ1))
set_option maxRecDepth 100000 in
set_option maxHeartbeats 4000000 in
theorem jSf_forget {X : Cx} {l : Launch} {G : Gx} {y : Ly} {a : Nat} (hL : LySf y a ) (hX : Ok X l G prog_1_method_46_code 1 none "SaltFigures")  (μ : Mu) : J X G 1 1 y (emy y) rvV tpT 0 [(0, .ref (G.1 + a))] [] (μ, y) (Sf_forget a  μ) := by
  unfold Sf_forget
  refine J_aload_n (k0 := 0) (pc := 0) 0 hX (by decide +kernel) rfl rfl ?_
  refine J_iconst (pc := 1) (n := 0) (v := 0) hX (by decide +kernel) (by decide +kernel) ?_
  refine J_pF (pc := 2) hX (by decide +kernel) fl_Sf_359 hL.1 rfl (fun μ1 => ?_)
  exact J_vret (pc := 5) hX (by decide +kernel) rfl trivial
set_option maxRecDepth 100000 in
set_option maxHeartbeats 4000000 in
theorem c_Sf_forget {l : Launch} {G : Gx} {y : Ly} {a : Nat} (hL : LySf y a )  (μ : Mu) : Cn l G ⟨"SaltFigures", "forget", "()V"⟩ prog_1_method_46_code 1 none 1 [.ref (G.1 + a)] (μ, y) (emy y) rvV tpT (Sf_forget a  μ) := cn_of (by decide +kernel) (Nat.le_of_ble_eq_true rfl) (fun _ _ _ => ⟨List.prefix_refl _, trivial⟩) (fun X hX _ => jSf_forget hL hX  μ)

def Sf_accept_54 (a : Nat)     (μ : Mu) : Option (Unit × Mu) := cl (Sf_forget a μ) (fun _ μ1 => some ((), μ1))
def Sf_accept_44 (a : Nat)   (v1 : Int32)  (μ : Mu) : Option (Unit × Mu) := (if v1 = 1 then Sf_accept_54 a μ else (if v1 = 2 then Sf_accept_54 a μ else some ((), μ)))
def Sf_accept (a : Nat) (v1 : Int32) (μ : Mu) : Option (Unit × Mu) := cl (Tx_take (a + 1 + 5) (a + 48) v1 μ) (fun _ μ1 => (if v1 = 1 then gF μ1 (a + 48) 10 (fun x2 => cl (Fg_seatAll (a + 1 + 1) (a + 48 + 9) 64 x2 μ1) (fun _ μ3 => Sf_accept_44 a v1 μ3)) else Sf_accept_44 a v1 μ1))
set_option maxRecDepth 100000 in
set_option maxHeartbeats 4000000 in
theorem jSf_accept_54 {X : Cx} {l : Launch} {G : Gx} {y : Ly} {a : Nat} (hL : LySf y a ) (hX : Ok X l G prog_1_method_11_code 2 none "SaltFigures")      (μ : Mu) : J X G 2 5 y (emy y) rvV tpT 54 [(0, .ref (G.1 + a))] [] (μ, y) (Sf_accept_54 a     μ) := by
  unfold Sf_accept_54
  refine J_aload_n (k0 := 0) (pc := 54) 0 hX (by decide +kernel) rfl rfl ?_
  refine J_cVv (pc := 55) (idx := 65) [] hX (by decide +kernel) (mq mt_2 140 (by decide +kernel)) mv_Sf_forget hL.1 rfl rfl (Nat.le_of_ble_eq_true rfl) (Nat.le_of_ble_eq_true rfl) (c_Sf_forget hL μ) (fun μ1 => ?_)
  exact J_vret (pc := 58) hX (by decide +kernel) rfl trivial
set_option maxRecDepth 100000 in
set_option maxHeartbeats 4000000 in
theorem jSf_accept_44 {X : Cx} {l : Launch} {G : Gx} {y : Ly} {a : Nat} (hL : LySf y a ) (hX : Ok X l G prog_1_method_11_code 2 none "SaltFigures")  (v1 : Int32)    (μ : Mu) : J X G 2 5 y (emy y) rvV tpT 44 [(0, .ref (G.1 + a)), (1, .int v1)] [] (μ, y) (Sf_accept_44 a   v1  μ) := by
  unfold Sf_accept_44
  refine J_iload_n (k0 := 1) (pc := 44) 1 hX (by decide +kernel) rfl rfl ?_
  refine J_iconst (pc := 45) (n := 1) (v := 1) hX (by decide +kernel) (by decide +kernel) ?_
  refine J_icmp_eq (pc := 46) (off := 8) (tgt := 54) hX (by decide +kernel) (by decide +kernel) (fun _ => ?_) (fun _ => ?_)
  · exact J_sub [0] _ rfl (jSf_accept_54 hL hX μ)
  · refine J_iload_n (k0 := 1) (pc := 49) 1 hX (by decide +kernel) rfl rfl ?_
    refine J_iconst (pc := 50) (n := 2) (v := 2) hX (by decide +kernel) (by decide +kernel) ?_
    refine J_icmp_ne (pc := 51) (off := 7) (tgt := 58) hX (by decide +kernel) (by decide +kernel) (fun _ => ?_) (fun _ => ?_)
    · exact J_vret (pc := 58) hX (by decide +kernel) rfl trivial
    · exact J_sub [0] _ rfl (jSf_accept_54 hL hX μ)
set_option maxRecDepth 100000 in
set_option maxHeartbeats 4000000 in
theorem jSf_accept {X : Cx} {l : Launch} {G : Gx} {y : Ly} {a : Nat} (hL : LySf y a ) (hX : Ok X l G prog_1_method_11_code 2 none "SaltFigures") (v1 : Int32) (μ : Mu) : J X G 2 5 y (emy y) rvV tpT 0 [(0, .ref (G.1 + a)), (1, .int v1)] [] (μ, y) (Sf_accept a v1 μ) := by
  unfold Sf_accept
  refine J_aload_n (k0 := 0) (pc := 0) 0 hX (by decide +kernel) rfl rfl ?_
  refine J_gr (pc := 1) hX (by decide +kernel) fl_Sf_12 hL.1 rfl hL.2.1.1 ?_
  refine J_gr (pc := 4) hX (by decide +kernel) fl_Sf_162 hL.2.1.2.1 rfl hL.2.1.2.2.2.2.1.1 ?_
  refine J_iload_n (k0 := 1) (pc := 7) 1 hX (by decide +kernel) rfl rfl ?_
  refine J_aload_n (k0 := 0) (pc := 8) 0 hX (by decide +kernel) rfl rfl ?_
  refine J_gr (pc := 9) hX (by decide +kernel) fl_Sf_50 hL.1 rfl hL.2.2.2.2.2.1.1 ?_
  refine J_cVv (pc := 12) (idx := 166) [.int v1, .ref (G.1 + (a + 48))] hX (by decide +kernel) (mq mt_4 76 (by decide +kernel)) mv_Tx_take hL.2.1.2.2.2.2.1.2.1 rfl rfl (Nat.le_of_ble_eq_true rfl) (Nat.le_of_ble_eq_true rfl) (c_Tx_take hL.2.1.2.2.2.2.1.2 hL.2.2.2.2.2.1.2 v1 μ) (fun μ1 => ?_)
  refine J_iload_n (k0 := 1) (pc := 15) 1 hX (by decide +kernel) rfl rfl ?_
  refine J_iconst (pc := 16) (n := 1) (v := 1) hX (by decide +kernel) (by decide +kernel) ?_
  refine J_icmp_ne (pc := 17) (off := 27) (tgt := 44) hX (by decide +kernel) (by decide +kernel) (fun _ => ?_) (fun _ => ?_)
  · exact J_sub [0, 1] _ rfl (jSf_accept_44 hL hX v1 μ1)
  · refine J_aload_n (k0 := 0) (pc := 20) 0 hX (by decide +kernel) rfl rfl ?_
    refine J_gr (pc := 21) hX (by decide +kernel) fl_Sf_12 hL.1 rfl hL.2.1.1 ?_
    refine J_gr (pc := 24) hX (by decide +kernel) fl_Sf_58 hL.2.1.2.1 rfl hL.2.1.2.2.1.1 ?_
    refine J_aload_n (k0 := 0) (pc := 27) 0 hX (by decide +kernel) rfl rfl ?_
    refine J_gr (pc := 28) hX (by decide +kernel) fl_Sf_50 hL.1 rfl hL.2.2.2.2.2.1.1 ?_
    refine J_gr (pc := 31) hX (by decide +kernel) fl_Sf_172 hL.2.2.2.2.2.1.2.1 rfl hL.2.2.2.2.2.1.2.2.2.2.1.1 ?_
    refine J_aload_n (k0 := 0) (pc := 34) 0 hX (by decide +kernel) rfl rfl ?_
    refine J_gr (pc := 35) hX (by decide +kernel) fl_Sf_50 hL.1 rfl hL.2.2.2.2.2.1.1 ?_
    refine J_gF (pc := 38) hX (by decide +kernel) fl_Sf_159 hL.2.2.2.2.2.1.2.1 rfl (fun x2 => ?_)
    refine J_cVv (pc := 41) (idx := 176) [.ref (G.1 + (a + 48 + 9)), .int x2] hX (by decide +kernel) (mq mt_4 94 (by decide +kernel)) mv_Fg_seatAll hL.2.1.2.2.1.2.1 rfl rfl (Nat.le_of_ble_eq_true rfl) (Nat.le_of_ble_eq_true rfl) (c_Fg_seatAll hL.2.1.2.2.1.2 hL.2.2.2.2.2.1.2.2.2.2.1.2 x2 μ1) (fun μ3 => ?_)
    exact J_sub [0, 1] _ rfl (jSf_accept_44 hL hX v1 μ3)
set_option maxRecDepth 100000 in
set_option maxHeartbeats 4000000 in
theorem c_Sf_accept {l : Launch} {G : Gx} {y : Ly} {a : Nat} (hL : LySf y a ) (v1 : Int32) (μ : Mu) : Cn l G ⟨"SaltFigures", "accept", "(I)V"⟩ prog_1_method_11_code 2 none 5 [.ref (G.1 + a), .int v1] (μ, y) (emy y) rvV tpT (Sf_accept a v1 μ) := cn_of (by decide +kernel) (Nat.le_of_ble_eq_true rfl) (fun _ _ _ => ⟨List.prefix_refl _, trivial⟩) (fun X hX _ => jSf_accept hL hX v1 μ)

def Sf_within  (v0 : Int32) (v1 : Int32) (v2 : Int32) (μ : Mu) : Option (Int32 × Mu) := (if v0 < v1 then some (0, μ) else (if v2 < v0 then some (0, μ) else some (1, μ)))
set_option maxRecDepth 100000 in
set_option maxHeartbeats 4000000 in
theorem jSf_within {X : Cx} {l : Launch} {G : Gx} {y : Ly}   (hX : Ok X l G prog_1_method_47_code 3 (some .boolean) "SaltFigures") (v0 : Int32) (v1 : Int32) (v2 : Int32) (μ : Mu) : J X G 3 1 y (emy y) rvI tpT 0 [(0, .int v0), (1, .int v1), (2, .int v2)] [] (μ, y) (Sf_within  v0 v1 v2 μ) := by
  unfold Sf_within
  refine J_iload_n (k0 := 0) (pc := 0) 0 hX (by decide +kernel) rfl rfl ?_
  refine J_iload_n (k0 := 1) (pc := 1) 1 hX (by decide +kernel) rfl rfl ?_
  refine J_icmp_lt (pc := 2) (off := 12) (tgt := 14) hX (by decide +kernel) (by decide +kernel) (fun _ => ?_) (fun _ => ?_)
  · refine J_iconst (pc := 14) (n := 0) (v := 0) hX (by decide +kernel) (by decide +kernel) ?_
    exact J_zret (pc := 15) hX (by decide +kernel) rfl (by decide +kernel) trivial
  · refine J_iload_n (k0 := 0) (pc := 5) 0 hX (by decide +kernel) rfl rfl ?_
    refine J_iload_n (k0 := 2) (pc := 6) 2 hX (by decide +kernel) rfl rfl ?_
    refine J_icmp_gt (pc := 7) (off := 7) (tgt := 14) hX (by decide +kernel) (by decide +kernel) (fun _ => ?_) (fun _ => ?_)
    · refine J_iconst (pc := 14) (n := 0) (v := 0) hX (by decide +kernel) (by decide +kernel) ?_
      exact J_zret (pc := 15) hX (by decide +kernel) rfl (by decide +kernel) trivial
    · refine J_iconst (pc := 10) (n := 1) (v := 1) hX (by decide +kernel) (by decide +kernel) ?_
      refine J_goto (pc := 11) (off := 4) (tgt := 15) hX (by decide +kernel) (by decide +kernel) ?_
      exact J_zret (pc := 15) hX (by decide +kernel) rfl (by decide +kernel) trivial
set_option maxRecDepth 100000 in
set_option maxHeartbeats 4000000 in
theorem c_Sf_within {l : Launch} {G : Gx} {y : Ly}   (v0 : Int32) (v1 : Int32) (v2 : Int32) (μ : Mu) : Cn l G ⟨"SaltFigures", "within", "(III)Z"⟩ prog_1_method_47_code 3 (some .boolean) 1 [.int v0, .int v1, .int v2] (μ, y) (emy y) rvI tpT (Sf_within  v0 v1 v2 μ) := cn_of (by decide +kernel) (Nat.le_of_ble_eq_true rfl) (fun _ _ _ => ⟨List.prefix_refl _, trivial⟩) (fun X hX _ => jSf_within  hX v0 v1 v2 μ)

def Sf_canAct (a : Nat) (v1 : Int32) (v2 : Int32) (v3 : Int32) (μ : Mu) : Option (Int32 × Mu) := cl (Fg_isAlive (a + 1 + 1) v2 μ) (fun x2 μ1 => (if x2 = 0 then some (0, μ1) else (if v1 = 0 then some (1, μ1) else (if v1 = 1 then cl (Sf_within v3 0 15 μ1) (fun x4 μ3 => (if x4 = 0 then some (0, μ3) else cl (Fg_get (a + 1 + 1) v2 6 μ3) (fun x6 μ5 => (if x6 = ((-1)) then cl (Fg_holder (a + 1 + 1) v3 μ5) (fun x8 μ7 => (if x8 = ((-1)) then some (1, μ7) else some (0, μ7))) else some (0, μ5))))) else (if v1 = 2 then cl (Fg_get (a + 1 + 1) v2 6 μ1) (fun x10 μ9 => (if x10 = ((-1)) then some (0, μ9) else some (1, μ9))) else (if v1 = 3 then cl (Fg_get (a + 1 + 1) v2 1 μ1) (fun x12 μ11 => (if x12 ≤ 0 then some (0, μ11) else some (1, μ11))) else (if v1 = 4 then some (1, μ1) else some (0, μ1))))))))
set_option maxRecDepth 100000 in
set_option maxHeartbeats 4000000 in
theorem jSf_canAct {X : Cx} {l : Launch} {G : Gx} {y : Ly} {a : Nat} (hL : LySf y a ) (hX : Ok X l G prog_1_method_6_code 5 (some .boolean) "SaltFigures") (v1 : Int32) (v2 : Int32) (v3 : Int32) (μ : Mu) : J X G 5 3 y (emy y) rvI tpT 0 [(0, .ref (G.1 + a)), (1, .int v1), (2, .int v2), (3, .int v3)] [] (μ, y) (Sf_canAct a v1 v2 v3 μ) := by
  unfold Sf_canAct
  refine J_aload_n (k0 := 0) (pc := 0) 0 hX (by decide +kernel) rfl rfl ?_
  refine J_gr (pc := 1) hX (by decide +kernel) fl_Sf_12 hL.1 rfl hL.2.1.1 ?_
  refine J_gr (pc := 4) hX (by decide +kernel) fl_Sf_58 hL.2.1.2.1 rfl hL.2.1.2.2.1.1 ?_
  refine J_astore (pc := 7) [(4, .ref (G.1 + (a + 1 + 1))), (0, .ref (G.1 + a)), (1, .int v1), (2, .int v2), (3, .int v3)] hX (by decide +kernel) (by decide) rfl ?_
  refine J_aload (pc := 9) 0 hX (by decide +kernel) rfl ?_
  refine J_iload_n (k0 := 2) (pc := 11) 3 hX (by decide +kernel) rfl rfl ?_
  refine J_cVi (pc := 12) (idx := 82) [.int v2] hX (by decide +kernel) (mq mt_2 163 (by decide +kernel)) mv_Fg_isAlive hL.2.1.2.2.1.2.1 rfl rfl (Nat.le_of_ble_eq_true rfl) (Nat.le_of_ble_eq_true rfl) (c_Fg_isAlive hL.2.1.2.2.1.2 v2 μ) (fun x2 μ1 => ?_)
  refine J_if_ne (pc := 15) (off := 5) (tgt := 20) hX (by decide +kernel) (by decide +kernel) (fun _ => ?_) (fun _ => ?_)
  · refine J_iload_n (k0 := 1) (pc := 20) 2 hX (by decide +kernel) rfl rfl ?_
    refine J_ite _ (fun hc0 => ?_) (fun hc0 => ?_)
    · refine J_tsIn (pc := 21) (dflt := 109) (lo := 0) (hi := 4) (offs := #[35, 37, 75, 93, 35]) (len := 35) (off := 35) (tgt := 56) 0 hc0 hX (by decide +kernel) (by decide +kernel) (by decide +kernel) (by decide +kernel) (by decide +kernel) ?_
      refine J_iconst (pc := 56) (n := 1) (v := 1) hX (by decide +kernel) (by decide +kernel) ?_
      exact J_zret (pc := 57) hX (by decide +kernel) rfl (by decide +kernel) trivial
    · refine J_ite _ (fun hc1 => ?_) (fun hc1 => ?_)
      · refine J_tsIn (pc := 21) (dflt := 109) (lo := 0) (hi := 4) (offs := #[35, 37, 75, 93, 35]) (len := 35) (off := 37) (tgt := 58) 1 hc1 hX (by decide +kernel) (by decide +kernel) (by decide +kernel) (by decide +kernel) (by decide +kernel) ?_
        refine J_iload_n (k0 := 3) (pc := 58) 4 hX (by decide +kernel) rfl rfl ?_
        refine J_iconst (pc := 59) (n := 0) (v := 0) hX (by decide +kernel) (by decide +kernel) ?_
        refine J_bipush (pc := 60) (n := 15) (v := 15) hX (by decide +kernel) (by decide +kernel) ?_
        refine J_cSi (pc := 62) (idx := 68) [.int v3, .int 0, .int 15] hX (by decide +kernel) (mq mt_2 148 (by decide +kernel)) mv_Sf_within rfl rfl (Nat.le_of_ble_eq_true rfl) (Nat.le_of_ble_eq_true rfl) (c_Sf_within v3 0 15 μ1) (fun x4 μ3 => ?_)
        refine J_if_eq (pc := 65) (off := 29) (tgt := 94) hX (by decide +kernel) (by decide +kernel) (fun _ => ?_) (fun _ => ?_)
        · refine J_iconst (pc := 94) (n := 0) (v := 0) hX (by decide +kernel) (by decide +kernel) ?_
          exact J_zret (pc := 95) hX (by decide +kernel) rfl (by decide +kernel) trivial
        · refine J_aload (pc := 68) 0 hX (by decide +kernel) rfl ?_
          refine J_iload_n (k0 := 2) (pc := 70) 3 hX (by decide +kernel) rfl rfl ?_
          refine J_bipush (pc := 71) (n := 6) (v := 6) hX (by decide +kernel) (by decide +kernel) ?_
          refine J_cVi (pc := 73) (idx := 114) [.int v2, .int 6] hX (by decide +kernel) (mq mt_2 180 (by decide +kernel)) mv_Fg_get hL.2.1.2.2.1.2.1 rfl rfl (Nat.le_of_ble_eq_true rfl) (Nat.le_of_ble_eq_true rfl) (c_Fg_get hL.2.1.2.2.1.2 v2 6 μ3) (fun x6 μ5 => ?_)
          refine J_iconst (pc := 76) (n := -1) (v := (-1)) hX (by decide +kernel) (by decide +kernel) ?_
          refine J_icmp_ne (pc := 77) (off := 17) (tgt := 94) hX (by decide +kernel) (by decide +kernel) (fun _ => ?_) (fun _ => ?_)
          · refine J_iconst (pc := 94) (n := 0) (v := 0) hX (by decide +kernel) (by decide +kernel) ?_
            exact J_zret (pc := 95) hX (by decide +kernel) rfl (by decide +kernel) trivial
          · refine J_aload (pc := 80) 0 hX (by decide +kernel) rfl ?_
            refine J_iload_n (k0 := 3) (pc := 82) 4 hX (by decide +kernel) rfl rfl ?_
            refine J_cVi (pc := 83) (idx := 118) [.int v3] hX (by decide +kernel) (mq mt_2 181 (by decide +kernel)) mv_Fg_holder hL.2.1.2.2.1.2.1 rfl rfl (Nat.le_of_ble_eq_true rfl) (Nat.le_of_ble_eq_true rfl) (c_Fg_holder hL.2.1.2.2.1.2 v3 μ5) (fun x8 μ7 => ?_)
            refine J_iconst (pc := 86) (n := -1) (v := (-1)) hX (by decide +kernel) (by decide +kernel) ?_
            refine J_icmp_ne (pc := 87) (off := 7) (tgt := 94) hX (by decide +kernel) (by decide +kernel) (fun _ => ?_) (fun _ => ?_)
            · refine J_iconst (pc := 94) (n := 0) (v := 0) hX (by decide +kernel) (by decide +kernel) ?_
              exact J_zret (pc := 95) hX (by decide +kernel) rfl (by decide +kernel) trivial
            · refine J_iconst (pc := 90) (n := 1) (v := 1) hX (by decide +kernel) (by decide +kernel) ?_
              refine J_goto (pc := 91) (off := 4) (tgt := 95) hX (by decide +kernel) (by decide +kernel) ?_
              exact J_zret (pc := 95) hX (by decide +kernel) rfl (by decide +kernel) trivial
      · refine J_ite _ (fun hc2 => ?_) (fun hc2 => ?_)
        · refine J_tsIn (pc := 21) (dflt := 109) (lo := 0) (hi := 4) (offs := #[35, 37, 75, 93, 35]) (len := 35) (off := 75) (tgt := 96) 2 hc2 hX (by decide +kernel) (by decide +kernel) (by decide +kernel) (by decide +kernel) (by decide +kernel) ?_
          refine J_aload (pc := 96) 0 hX (by decide +kernel) rfl ?_
          refine J_iload_n (k0 := 2) (pc := 98) 3 hX (by decide +kernel) rfl rfl ?_
          refine J_bipush (pc := 99) (n := 6) (v := 6) hX (by decide +kernel) (by decide +kernel) ?_
          refine J_cVi (pc := 101) (idx := 114) [.int v2, .int 6] hX (by decide +kernel) (mq mt_2 180 (by decide +kernel)) mv_Fg_get hL.2.1.2.2.1.2.1 rfl rfl (Nat.le_of_ble_eq_true rfl) (Nat.le_of_ble_eq_true rfl) (c_Fg_get hL.2.1.2.2.1.2 v2 6 μ1) (fun x10 μ9 => ?_)
          refine J_iconst (pc := 104) (n := -1) (v := (-1)) hX (by decide +kernel) (by decide +kernel) ?_
          refine J_icmp_eq (pc := 105) (off := 7) (tgt := 112) hX (by decide +kernel) (by decide +kernel) (fun _ => ?_) (fun _ => ?_)
          · refine J_iconst (pc := 112) (n := 0) (v := 0) hX (by decide +kernel) (by decide +kernel) ?_
            exact J_zret (pc := 113) hX (by decide +kernel) rfl (by decide +kernel) trivial
          · refine J_iconst (pc := 108) (n := 1) (v := 1) hX (by decide +kernel) (by decide +kernel) ?_
            refine J_goto (pc := 109) (off := 4) (tgt := 113) hX (by decide +kernel) (by decide +kernel) ?_
            exact J_zret (pc := 113) hX (by decide +kernel) rfl (by decide +kernel) trivial
        · refine J_ite _ (fun hc3 => ?_) (fun hc3 => ?_)
          · refine J_tsIn (pc := 21) (dflt := 109) (lo := 0) (hi := 4) (offs := #[35, 37, 75, 93, 35]) (len := 35) (off := 93) (tgt := 114) 3 hc3 hX (by decide +kernel) (by decide +kernel) (by decide +kernel) (by decide +kernel) (by decide +kernel) ?_
            refine J_aload (pc := 114) 0 hX (by decide +kernel) rfl ?_
            refine J_iload_n (k0 := 2) (pc := 116) 3 hX (by decide +kernel) rfl rfl ?_
            refine J_iconst (pc := 117) (n := 1) (v := 1) hX (by decide +kernel) (by decide +kernel) ?_
            refine J_cVi (pc := 118) (idx := 114) [.int v2, .int 1] hX (by decide +kernel) (mq mt_2 180 (by decide +kernel)) mv_Fg_get hL.2.1.2.2.1.2.1 rfl rfl (Nat.le_of_ble_eq_true rfl) (Nat.le_of_ble_eq_true rfl) (c_Fg_get hL.2.1.2.2.1.2 v2 1 μ1) (fun x12 μ11 => ?_)
            refine J_if_le (pc := 121) (off := 7) (tgt := 128) hX (by decide +kernel) (by decide +kernel) (fun _ => ?_) (fun _ => ?_)
            · refine J_iconst (pc := 128) (n := 0) (v := 0) hX (by decide +kernel) (by decide +kernel) ?_
              exact J_zret (pc := 129) hX (by decide +kernel) rfl (by decide +kernel) trivial
            · refine J_iconst (pc := 124) (n := 1) (v := 1) hX (by decide +kernel) (by decide +kernel) ?_
              refine J_goto (pc := 125) (off := 4) (tgt := 129) hX (by decide +kernel) (by decide +kernel) ?_
              exact J_zret (pc := 129) hX (by decide +kernel) rfl (by decide +kernel) trivial
          · refine J_ite _ (fun hc4 => ?_) (fun hc4 => ?_)
            · refine J_tsIn (pc := 21) (dflt := 109) (lo := 0) (hi := 4) (offs := #[35, 37, 75, 93, 35]) (len := 35) (off := 35) (tgt := 56) 4 hc4 hX (by decide +kernel) (by decide +kernel) (by decide +kernel) (by decide +kernel) (by decide +kernel) ?_
              refine J_iconst (pc := 56) (n := 1) (v := 1) hX (by decide +kernel) (by decide +kernel) ?_
              exact J_zret (pc := 57) hX (by decide +kernel) rfl (by decide +kernel) trivial
            · refine J_tsOut (pc := 21) (dflt := 109) (lo := 0) (hi := 4) (offs := #[35, 37, 75, 93, 35]) (len := 35) (tgt := 130) hX (by decide +kernel) (by simp only [i32_eq] at hc0 hc1 hc2 hc3 hc4; have q0 : ((0 : Int32)).toInt = 0 := (by decide +kernel) ; have q1 : ((1 : Int32)).toInt = 1 := (by decide +kernel) ; have q2 : ((2 : Int32)).toInt = 2 := (by decide +kernel) ; have q3 : ((3 : Int32)).toInt = 3 := (by decide +kernel) ; have q4 : ((4 : Int32)).toInt = 4 := (by decide +kernel); omega) (by decide +kernel) ?_
              refine J_iconst (pc := 130) (n := 0) (v := 0) hX (by decide +kernel) (by decide +kernel) ?_
              exact J_zret (pc := 131) hX (by decide +kernel) rfl (by decide +kernel) trivial
  · refine J_iconst (pc := 18) (n := 0) (v := 0) hX (by decide +kernel) (by decide +kernel) ?_
    exact J_zret (pc := 19) hX (by decide +kernel) rfl (by decide +kernel) trivial
set_option maxRecDepth 100000 in
set_option maxHeartbeats 4000000 in
theorem c_Sf_canAct {l : Launch} {G : Gx} {y : Ly} {a : Nat} (hL : LySf y a ) (v1 : Int32) (v2 : Int32) (v3 : Int32) (μ : Mu) : Cn l G ⟨"SaltFigures", "canAct", "(III)Z"⟩ prog_1_method_6_code 5 (some .boolean) 3 [.ref (G.1 + a), .int v1, .int v2, .int v3] (μ, y) (emy y) rvI tpT (Sf_canAct a v1 v2 v3 μ) := cn_of (by decide +kernel) (Nat.le_of_ble_eq_true rfl) (fun _ _ _ => ⟨List.prefix_refl _, trivial⟩) (fun X hX _ => jSf_canAct hL hX v1 v2 v3 μ)

def Fg_copyFrom (a f1 : Nat)  (μ : Mu) : Option (Unit × Mu) := cpA μ (f1 + 1) 112 0 (a + 1) 112 0 112 (fun μ1 => cpA μ1 (f1 + 2) 16 0 (a + 2) 16 0 16 (fun μ2 => gF μ2 f1 3 (fun x3 => pF μ2 a 3 x3 (fun μ4 => gF μ4 f1 4 (fun x5 => pF μ4 a 4 x5 (fun μ6 => gF μ6 f1 5 (fun x7 => pF μ6 a 5 x7 (fun μ8 => gF μ8 f1 6 (fun x9 => pF μ8 a 6 x9 (fun μ10 => gF μ10 f1 7 (fun x11 => pF μ10 a 7 x11 (fun μ12 => gF μ12 f1 8 (fun x13 => pF μ12 a 8 x13 (fun μ14 => gF μ14 f1 9 (fun x15 => pF μ14 a 9 x15 (fun μ16 => some ((), μ16)))))))))))))))))
set_option maxRecDepth 100000 in
set_option maxHeartbeats 4000000 in
theorem jFg_copyFrom {X : Cx} {l : Launch} {G : Gx} {y : Ly} {a f1 : Nat} (hL : LyFg y a ) (hf1 : LyFg y f1 ) (hX : Ok X l G prog_3_method_2_code 2 none "SaltFigures$Figures")  (μ : Mu) : J X G 2 3 y (emy y) rvV tpT 0 [(0, .ref (G.1 + a)), (1, .ref (G.1 + f1))] [] (μ, y) (Fg_copyFrom a f1  μ) := by
  unfold Fg_copyFrom
  refine J_aload_n (k0 := 1) (pc := 0) 1 hX (by decide +kernel) rfl rfl ?_
  refine J_gr (pc := 1) hX (by decide +kernel) fl_Fg_9 hf1.1 rfl hf1.2.1.1 ?_
  refine J_iconst (pc := 4) (n := 0) (v := 0) hX (by decide +kernel) (by decide +kernel) ?_
  refine J_aload_n (k0 := 0) (pc := 5) 0 hX (by decide +kernel) rfl rfl ?_
  refine J_gr (pc := 6) hX (by decide +kernel) fl_Fg_9 hL.1 rfl hL.2.1.1 ?_
  refine J_iconst (pc := 9) (n := 0) (v := 0) hX (by decide +kernel) (by decide +kernel) ?_
  refine J_bipush (pc := 10) (n := 112) (v := 112) hX (by decide +kernel) (by decide +kernel) ?_
  refine J_acp (pc := 12) (idx := 28) hX (by decide +kernel) (mq mt_2 197 (by decide +kernel)) hf1.2.1.2 hL.2.1.2 (Nat.le_of_ble_eq_true rfl) (Nat.le_of_ble_eq_true rfl) (fun μ1 => ?_)
  refine J_aload_n (k0 := 1) (pc := 15) 1 hX (by decide +kernel) rfl rfl ?_
  refine J_gr (pc := 16) hX (by decide +kernel) fl_Fg_15 hf1.1 rfl hf1.2.2.1.1 ?_
  refine J_iconst (pc := 19) (n := 0) (v := 0) hX (by decide +kernel) (by decide +kernel) ?_
  refine J_aload_n (k0 := 0) (pc := 20) 0 hX (by decide +kernel) rfl rfl ?_
  refine J_gr (pc := 21) hX (by decide +kernel) fl_Fg_15 hL.1 rfl hL.2.2.1.1 ?_
  refine J_iconst (pc := 24) (n := 0) (v := 0) hX (by decide +kernel) (by decide +kernel) ?_
  refine J_bipush (pc := 25) (n := 16) (v := 16) hX (by decide +kernel) (by decide +kernel) ?_
  refine J_acp (pc := 27) (idx := 28) hX (by decide +kernel) (mq mt_2 197 (by decide +kernel)) hf1.2.2.1.2 hL.2.2.1.2 (Nat.le_of_ble_eq_true rfl) (Nat.le_of_ble_eq_true rfl) (fun μ2 => ?_)
  refine J_aload_n (k0 := 0) (pc := 30) 0 hX (by decide +kernel) rfl rfl ?_
  refine J_aload_n (k0 := 1) (pc := 31) 1 hX (by decide +kernel) rfl rfl ?_
  refine J_gF (pc := 32) hX (by decide +kernel) fl_Fg_34 hf1.1 rfl (fun x3 => ?_)
  refine J_pF (pc := 35) hX (by decide +kernel) fl_Fg_34 hL.1 rfl (fun μ4 => ?_)
  refine J_aload_n (k0 := 0) (pc := 38) 0 hX (by decide +kernel) rfl rfl ?_
  refine J_aload_n (k0 := 1) (pc := 39) 1 hX (by decide +kernel) rfl rfl ?_
  refine J_gF (pc := 40) hX (by decide +kernel) fl_Fg_38 hf1.1 rfl (fun x5 => ?_)
  refine J_pF (pc := 43) hX (by decide +kernel) fl_Fg_38 hL.1 rfl (fun μ6 => ?_)
  refine J_aload_n (k0 := 0) (pc := 46) 0 hX (by decide +kernel) rfl rfl ?_
  refine J_aload_n (k0 := 1) (pc := 47) 1 hX (by decide +kernel) rfl rfl ?_
  refine J_gF (pc := 48) hX (by decide +kernel) fl_Fg_41 hf1.1 rfl (fun x7 => ?_)
  refine J_pF (pc := 51) hX (by decide +kernel) fl_Fg_41 hL.1 rfl (fun μ8 => ?_)
  refine J_aload_n (k0 := 0) (pc := 54) 0 hX (by decide +kernel) rfl rfl ?_
  refine J_aload_n (k0 := 1) (pc := 55) 1 hX (by decide +kernel) rfl rfl ?_
  refine J_gF (pc := 56) hX (by decide +kernel) fl_Fg_44 hf1.1 rfl (fun x9 => ?_)
  refine J_pF (pc := 59) hX (by decide +kernel) fl_Fg_44 hL.1 rfl (fun μ10 => ?_)
  refine J_aload_n (k0 := 0) (pc := 62) 0 hX (by decide +kernel) rfl rfl ?_
  refine J_aload_n (k0 := 1) (pc := 63) 1 hX (by decide +kernel) rfl rfl ?_
  refine J_gF (pc := 64) hX (by decide +kernel) fl_Fg_47 hf1.1 rfl (fun x11 => ?_)
  refine J_pF (pc := 67) hX (by decide +kernel) fl_Fg_47 hL.1 rfl (fun μ12 => ?_)
  refine J_aload_n (k0 := 0) (pc := 70) 0 hX (by decide +kernel) rfl rfl ?_
  refine J_aload_n (k0 := 1) (pc := 71) 1 hX (by decide +kernel) rfl rfl ?_
  refine J_gF (pc := 72) hX (by decide +kernel) fl_Fg_50 hf1.1 rfl (fun x13 => ?_)
  refine J_pF (pc := 75) hX (by decide +kernel) fl_Fg_50 hL.1 rfl (fun μ14 => ?_)
  refine J_aload_n (k0 := 0) (pc := 78) 0 hX (by decide +kernel) rfl rfl ?_
  refine J_aload_n (k0 := 1) (pc := 79) 1 hX (by decide +kernel) rfl rfl ?_
  refine J_gF (pc := 80) hX (by decide +kernel) fl_Fg_53 hf1.1 rfl (fun x15 => ?_)
  refine J_pF (pc := 83) hX (by decide +kernel) fl_Fg_53 hL.1 rfl (fun μ16 => ?_)
  exact J_vret (pc := 86) hX (by decide +kernel) rfl trivial
set_option maxRecDepth 100000 in
set_option maxHeartbeats 4000000 in
theorem c_Fg_copyFrom {l : Launch} {G : Gx} {y : Ly} {a f1 : Nat} (hL : LyFg y a ) (hf1 : LyFg y f1 )  (μ : Mu) : Cn l G ⟨"SaltFigures$Figures", "copyFrom", "(LSaltFigures$Figures;)V"⟩ prog_3_method_2_code 2 none 3 [.ref (G.1 + a), .ref (G.1 + f1)] (μ, y) (emy y) rvV tpT (Fg_copyFrom a f1  μ) := cn_of (by decide +kernel) (Nat.le_of_ble_eq_true rfl) (fun _ _ _ => ⟨List.prefix_refl _, trivial⟩) (fun X hX _ => jFg_copyFrom hL hf1 hX  μ)

def Fg_add (a : Nat) (v1 : Int32) (v2 : Int32) (v3 : Int32) (μ : Mu) : Option (Unit × Mu) := cl (Fg_get a v1 v2 μ) (fun x2 μ1 => cl (Fg_put a v1 v2 (x2 + v3) μ1) (fun _ μ3 => some ((), μ3)))
set_option maxRecDepth 100000 in
set_option maxHeartbeats 4000000 in
theorem jFg_add {X : Cx} {l : Launch} {G : Gx} {y : Ly} {a : Nat} (hL : LyFg y a ) (hX : Ok X l G prog_3_method_8_code 4 none "SaltFigures$Figures") (v1 : Int32) (v2 : Int32) (v3 : Int32) (μ : Mu) : J X G 4 2 y (emy y) rvV tpT 0 [(0, .ref (G.1 + a)), (1, .int v1), (2, .int v2), (3, .int v3)] [] (μ, y) (Fg_add a v1 v2 v3 μ) := by
  unfold Fg_add
  refine J_aload_n (k0 := 0) (pc := 0) 0 hX (by decide +kernel) rfl rfl ?_
  refine J_iload_n (k0 := 1) (pc := 1) 1 hX (by decide +kernel) rfl rfl ?_
  refine J_iload_n (k0 := 2) (pc := 2) 2 hX (by decide +kernel) rfl rfl ?_
  refine J_aload_n (k0 := 0) (pc := 3) 0 hX (by decide +kernel) rfl rfl ?_
  refine J_iload_n (k0 := 1) (pc := 4) 1 hX (by decide +kernel) rfl rfl ?_
  refine J_iload_n (k0 := 2) (pc := 5) 2 hX (by decide +kernel) rfl rfl ?_
  refine J_cVi (pc := 6) (idx := 60) [.int v1, .int v2] hX (by decide +kernel) (mq mt_2 167 (by decide +kernel)) mv_Fg_get hL.1 rfl rfl (Nat.le_of_ble_eq_true rfl) (Nat.le_of_ble_eq_true rfl) (c_Fg_get hL v1 v2 μ) (fun x2 μ1 => ?_)
  refine J_iload_n (k0 := 3) (pc := 9) 3 hX (by decide +kernel) rfl rfl ?_
  refine J_iadd (pc := 10) hX (by decide +kernel) ?_
  refine J_cVv (pc := 11) (idx := 56) [.int v1, .int v2, .int (x2 + v3)] hX (by decide +kernel) (mq mt_2 155 (by decide +kernel)) mv_Fg_put hL.1 rfl rfl (Nat.le_of_ble_eq_true rfl) (Nat.le_of_ble_eq_true rfl) (c_Fg_put hL v1 v2 (x2 + v3) μ1) (fun μ3 => ?_)
  exact J_vret (pc := 14) hX (by decide +kernel) rfl trivial
set_option maxRecDepth 100000 in
set_option maxHeartbeats 4000000 in
theorem c_Fg_add {l : Launch} {G : Gx} {y : Ly} {a : Nat} (hL : LyFg y a ) (v1 : Int32) (v2 : Int32) (v3 : Int32) (μ : Mu) : Cn l G ⟨"SaltFigures$Figures", "add", "(III)V"⟩ prog_3_method_8_code 4 none 2 [.ref (G.1 + a), .int v1, .int v2, .int v3] (μ, y) (emy y) rvV tpT (Fg_add a v1 v2 v3 μ) := cn_of (by decide +kernel) (Nat.le_of_ble_eq_true rfl) (fun _ _ _ => ⟨List.prefix_refl _, trivial⟩) (fun X hX _ => jFg_add hL hX v1 v2 v3 μ)

def Tx_heirOfHowMany (a : Nat) (v1 : Int32) (μ : Mu) : Option (Int32 × Mu) := (if v1 < 0 then some (0, μ) else (if 16 ≤ v1 then some (0, μ) else ldA μ (a + 10) 16 v1 (fun x1 => some (x1, μ))))
set_option maxRecDepth 100000 in
set_option maxHeartbeats 4000000 in
theorem jTx_heirOfHowMany {X : Cx} {l : Launch} {G : Gx} {y : Ly} {a : Nat} (hL : LyTx y a ) (hX : Ok X l G prog_9_method_9_code 2 (some .int) "SaltFigures$Texts") (v1 : Int32) (μ : Mu) : J X G 2 1 y (emy y) rvI tpT 0 [(0, .ref (G.1 + a)), (1, .int v1)] [] (μ, y) (Tx_heirOfHowMany a v1 μ) := by
  unfold Tx_heirOfHowMany
  refine J_iload_n (k0 := 1) (pc := 0) 1 hX (by decide +kernel) rfl rfl ?_
  refine J_if_lt (pc := 1) (off := 18) (tgt := 19) hX (by decide +kernel) (by decide +kernel) (fun _ => ?_) (fun _ => ?_)
  · refine J_iconst (pc := 19) (n := 0) (v := 0) hX (by decide +kernel) (by decide +kernel) ?_
    exact J_iret (pc := 20) hX (by decide +kernel) rfl trivial
  · refine J_iload_n (k0 := 1) (pc := 4) 1 hX (by decide +kernel) rfl rfl ?_
    refine J_bipush (pc := 5) (n := 16) (v := 16) hX (by decide +kernel) (by decide +kernel) ?_
    refine J_icmp_ge (pc := 7) (off := 12) (tgt := 19) hX (by decide +kernel) (by decide +kernel) (fun _ => ?_) (fun _ => ?_)
    · refine J_iconst (pc := 19) (n := 0) (v := 0) hX (by decide +kernel) (by decide +kernel) ?_
      exact J_iret (pc := 20) hX (by decide +kernel) rfl trivial
    · refine J_aload_n (k0 := 0) (pc := 10) 0 hX (by decide +kernel) rfl rfl ?_
      refine J_gr (pc := 11) hX (by decide +kernel) fl_Tx_25 hL.1 rfl hL.2.2.2.2.1.1 ?_
      refine J_iload_n (k0 := 1) (pc := 14) 1 hX (by decide +kernel) rfl rfl ?_
      refine J_ldA (pc := 15) hX (by decide +kernel) hL.2.2.2.2.1.2 (fun x1 => ?_)
      refine J_goto (pc := 16) (off := 4) (tgt := 20) hX (by decide +kernel) (by decide +kernel) ?_
      exact J_iret (pc := 20) hX (by decide +kernel) rfl trivial
set_option maxRecDepth 100000 in
set_option maxHeartbeats 4000000 in
theorem c_Tx_heirOfHowMany {l : Launch} {G : Gx} {y : Ly} {a : Nat} (hL : LyTx y a ) (v1 : Int32) (μ : Mu) : Cn l G ⟨"SaltFigures$Texts", "heirOfHowMany", "(I)I"⟩ prog_9_method_9_code 2 (some .int) 1 [.ref (G.1 + a), .int v1] (μ, y) (emy y) rvI tpT (Tx_heirOfHowMany a v1 μ) := cn_of (by decide +kernel) (Nat.le_of_ble_eq_true rfl) (fun _ _ _ => ⟨List.prefix_refl _, trivial⟩) (fun X hX _ => jTx_heirOfHowMany hL hX v1 μ)

def Dy_readWords_92 (a pt f1 : Nat)   (v2 : Int32) (s0 : Int32) (s1 : Int32) (μ : Mu) : Option (Unit × Mu) := stA μ (a + 1) 10 s1 s0 (fun μ1 => cl (Tx_heirOfHowMany (pt + 5) v2 μ1) (fun x3 μ2 => stA μ2 (a + 1) 10 8 x3 (fun μ4 => gF μ4 f1 7 (fun x5 => stA μ4 (a + 1) 10 9 x5 (fun μ6 => some ((), μ6))))))
def Dy_readWords_49 (a pt f1 : Nat)   (v2 : Int32) (v3 : Int32) (s0 : Int32) (μ : Mu) : Option (Unit × Mu) := stA μ (a + 1) 10 5 v3 (fun μ1 => gF μ1 f1 4 (fun x2 => stA μ1 (a + 1) 10 6 x2 (fun μ3 => (if s0 = ((-1)) then Dy_readWords_92 a pt f1 v2 0 7 μ3 else cl (Fg_get f1 s0 1 μ3) (fun x5 μ4 => Dy_readWords_92 a pt f1 v2 x5 7 μ4)))))
def Dy_readWords_2b (a pt f1 : Nat)  (kb2 : Int32 → Mu → Option (Unit × Mu)) (v2 : Int32) (v3 : Int32)  (μ : Mu) : Option (Unit × Mu) := (if 5 ≤ v3 then cl (Fg_get f1 v2 6 μ) (fun x2 μ1 => (if x2 = ((-1)) then Dy_readWords_49 a pt f1 v2 x2 ((-1)) μ1 else cl (Fg_holder f1 (x2 + 1) μ1) (fun x4 μ3 => Dy_readWords_49 a pt f1 v2 x2 x4 μ3))) else cl (Fg_get f1 v2 v3 μ) (fun x6 μ5 => stA μ5 (a + 1) 10 v3 x6 (fun μ7 => kb2 (v3 + 1) μ7)))
def Dy_readWords_2 (a pt f1 : Nat)  (v2 : Int32) (fu : Nat) : Int32 → Mu → Option (Unit × Mu) := lp (fun kb => Dy_readWords_2b a pt f1  kb v2) (fun _ _ => none) fu
def Dy_readWords (a pt f1 : Nat) (v2 : Int32) (μ : Mu) : Option (Unit × Mu) := Dy_readWords_2 a pt f1 v2 FU 0 μ
set_option maxRecDepth 100000 in
set_option maxHeartbeats 4000000 in
theorem jDy_readWords_92 {X : Cx} {l : Launch} {G : Gx} {y : Ly} {a pt f1 : Nat} (hL : LyDy y a pt) (hf1 : LyFg y f1 ) (hX : Ok X l G prog_2_method_12_code 5 none "SaltFigures$Days")  (v2 : Int32) (s0 : Int32) (s1 : Int32)   (μ : Mu) : J X G 5 2 y (emy y) rvV tpT 92 [(0, .ref (G.1 + a)), (1, .ref (G.1 + f1)), (2, .int v2)] [.int s0, .int s1, .ref (G.1 + (a + 1))] (μ, y) (Dy_readWords_92 a pt f1   v2 s0 s1 μ) := by
  unfold Dy_readWords_92
  refine J_stA (pc := 92) hX (by decide +kernel) hL.2.2.2.1.2 (fun μ1 => ?_)
  refine J_aload_n (k0 := 0) (pc := 93) 0 hX (by decide +kernel) rfl rfl ?_
  refine J_gr (pc := 94) hX (by decide +kernel) fl_Dy_9 hL.1 rfl hL.2.2.2.1.1 ?_
  refine J_bipush (pc := 97) (n := 8) (v := 8) hX (by decide +kernel) (by decide +kernel) ?_
  refine J_aload_n (k0 := 0) (pc := 99) 0 hX (by decide +kernel) rfl rfl ?_
  refine J_gr (pc := 100) hX (by decide +kernel) fl_Dy_28 hL.1 rfl hL.2.2.1.1 ?_
  refine J_iload_n (k0 := 2) (pc := 103) 2 hX (by decide +kernel) rfl rfl ?_
  refine J_cVi (pc := 104) (idx := 173) [.int v2] hX (by decide +kernel) (mq mt_2 221 (by decide +kernel)) mv_Tx_heirOfHowMany hL.2.2.1.2.1 rfl rfl (Nat.le_of_ble_eq_true rfl) (Nat.le_of_ble_eq_true rfl) (c_Tx_heirOfHowMany hL.2.2.1.2 v2 μ1) (fun x3 μ2 => ?_)
  refine J_stA (pc := 107) hX (by decide +kernel) hL.2.2.2.1.2 (fun μ4 => ?_)
  refine J_aload_n (k0 := 0) (pc := 108) 0 hX (by decide +kernel) rfl rfl ?_
  refine J_gr (pc := 109) hX (by decide +kernel) fl_Dy_9 hL.1 rfl hL.2.2.2.1.1 ?_
  refine J_bipush (pc := 112) (n := 9) (v := 9) hX (by decide +kernel) (by decide +kernel) ?_
  refine J_aload_n (k0 := 1) (pc := 114) 1 hX (by decide +kernel) rfl rfl ?_
  refine J_gF (pc := 115) hX (by decide +kernel) fl_Dy_58 hf1.1 rfl (fun x5 => ?_)
  refine J_stA (pc := 118) hX (by decide +kernel) hL.2.2.2.1.2 (fun μ6 => ?_)
  exact J_vret (pc := 119) hX (by decide +kernel) rfl trivial
set_option maxRecDepth 100000 in
set_option maxHeartbeats 4000000 in
theorem jDy_readWords_49 {X : Cx} {l : Launch} {G : Gx} {y : Ly} {a pt f1 : Nat} (hL : LyDy y a pt) (hf1 : LyFg y f1 ) (hX : Ok X l G prog_2_method_12_code 5 none "SaltFigures$Days")  (v2 : Int32) (v3 : Int32) (s0 : Int32)   (μ : Mu) : J X G 5 2 y (emy y) rvV tpT 49 [(0, .ref (G.1 + a)), (1, .ref (G.1 + f1)), (2, .int v2), (3, .int v3)] [.int s0] (μ, y) (Dy_readWords_49 a pt f1   v2 v3 s0 μ) := by
  unfold Dy_readWords_49
  refine J_istore (pc := 49) [(4, .int s0), (0, .ref (G.1 + a)), (1, .ref (G.1 + f1)), (2, .int v2), (3, .int v3)] hX (by decide +kernel) (by decide) rfl ?_
  refine J_aload_n (k0 := 0) (pc := 51) 1 hX (by decide +kernel) rfl rfl ?_
  refine J_gr (pc := 52) hX (by decide +kernel) fl_Dy_9 hL.1 rfl hL.2.2.2.1.1 ?_
  refine J_iconst (pc := 55) (n := 5) (v := 5) hX (by decide +kernel) (by decide +kernel) ?_
  refine J_iload_n (k0 := 3) (pc := 56) 4 hX (by decide +kernel) rfl rfl ?_
  refine J_stA (pc := 57) hX (by decide +kernel) hL.2.2.2.1.2 (fun μ1 => ?_)
  refine J_aload_n (k0 := 0) (pc := 58) 1 hX (by decide +kernel) rfl rfl ?_
  refine J_gr (pc := 59) hX (by decide +kernel) fl_Dy_9 hL.1 rfl hL.2.2.2.1.1 ?_
  refine J_bipush (pc := 62) (n := 6) (v := 6) hX (by decide +kernel) (by decide +kernel) ?_
  refine J_aload_n (k0 := 1) (pc := 64) 2 hX (by decide +kernel) rfl rfl ?_
  refine J_gF (pc := 65) hX (by decide +kernel) fl_Dy_78 hf1.1 rfl (fun x2 => ?_)
  refine J_stA (pc := 68) hX (by decide +kernel) hL.2.2.2.1.2 (fun μ3 => ?_)
  refine J_aload_n (k0 := 0) (pc := 69) 1 hX (by decide +kernel) rfl rfl ?_
  refine J_gr (pc := 70) hX (by decide +kernel) fl_Dy_9 hL.1 rfl hL.2.2.2.1.1 ?_
  refine J_bipush (pc := 73) (n := 7) (v := 7) hX (by decide +kernel) (by decide +kernel) ?_
  refine J_iload (pc := 75) 0 hX (by decide +kernel) rfl ?_
  refine J_iconst (pc := 77) (n := -1) (v := (-1)) hX (by decide +kernel) (by decide +kernel) ?_
  refine J_icmp_ne (pc := 78) (off := 7) (tgt := 85) hX (by decide +kernel) (by decide +kernel) (fun _ => ?_) (fun _ => ?_)
  · refine J_aload_n (k0 := 1) (pc := 85) 2 hX (by decide +kernel) rfl rfl ?_
    refine J_iload (pc := 86) 0 hX (by decide +kernel) rfl ?_
    refine J_iconst (pc := 88) (n := 1) (v := 1) hX (by decide +kernel) (by decide +kernel) ?_
    refine J_cVi (pc := 89) (idx := 84) [.int s0, .int 1] hX (by decide +kernel) (mq mt_2 219 (by decide +kernel)) mv_Fg_get hf1.1 rfl rfl (Nat.le_of_ble_eq_true rfl) (Nat.le_of_ble_eq_true rfl) (c_Fg_get hf1 s0 1 μ3) (fun x5 μ4 => ?_)
    exact J_sub [1, 2, 3] _ rfl (jDy_readWords_92 hL hf1 hX v2 x5 7 μ4)
  · refine J_iconst (pc := 81) (n := 0) (v := 0) hX (by decide +kernel) (by decide +kernel) ?_
    refine J_goto (pc := 82) (off := 10) (tgt := 92) hX (by decide +kernel) (by decide +kernel) ?_
    exact J_sub [1, 2, 3] _ rfl (jDy_readWords_92 hL hf1 hX v2 0 7 μ3)
set_option maxRecDepth 100000 in
set_option maxHeartbeats 4000000 in
theorem jDy_readWords_2b {X : Cx} {l : Launch} {G : Gx} {y : Ly} {a pt f1 : Nat} (hL : LyDy y a pt) (hf1 : LyFg y f1 ) (hX : Ok X l G prog_2_method_12_code 5 none "SaltFigures$Days") (v2 : Int32)  {kb2 : Int32 → Mu → Option (Unit × Mu)}  (hk2 : ∀ (v3 : Int32) (μ : Mu), J X G 5 2 y (emy y) rvV tpT 2 [(0, .ref (G.1 + a)), (1, .ref (G.1 + f1)), (2, .int v2), (3, .int v3)] [] (μ, y) (kb2 v3 μ)) (v3 : Int32)  (μ : Mu) : J X G 5 2 y (emy y) rvV tpT 2 [(0, .ref (G.1 + a)), (1, .ref (G.1 + f1)), (2, .int v2), (3, .int v3)] [] (μ, y) (Dy_readWords_2b a pt f1  kb2 v2 v3  μ) := by
  unfold Dy_readWords_2b
  refine J_iload_n (k0 := 3) (pc := 2) 3 hX (by decide +kernel) rfl rfl ?_
  refine J_iconst (pc := 3) (n := 5) (v := 5) hX (by decide +kernel) (by decide +kernel) ?_
  refine J_icmp_ge (pc := 4) (off := 21) (tgt := 25) hX (by decide +kernel) (by decide +kernel) (fun _ => ?_) (fun _ => ?_)
  · refine J_aload_n (k0 := 1) (pc := 25) 1 hX (by decide +kernel) rfl rfl ?_
    refine J_iload_n (k0 := 2) (pc := 26) 2 hX (by decide +kernel) rfl rfl ?_
    refine J_bipush (pc := 27) (n := 6) (v := 6) hX (by decide +kernel) (by decide +kernel) ?_
    refine J_cVi (pc := 29) (idx := 84) [.int v2, .int 6] hX (by decide +kernel) (mq mt_2 219 (by decide +kernel)) mv_Fg_get hf1.1 rfl rfl (Nat.le_of_ble_eq_true rfl) (Nat.le_of_ble_eq_true rfl) (c_Fg_get hf1 v2 6 μ) (fun x2 μ1 => ?_)
    refine J_istore_n (k0 := 3) (pc := 32) [(3, .int x2), (0, .ref (G.1 + a)), (1, .ref (G.1 + f1)), (2, .int v2)] hX (by decide +kernel) rfl (by decide) rfl ?_
    refine J_iload_n (k0 := 3) (pc := 33) 0 hX (by decide +kernel) rfl rfl ?_
    refine J_iconst (pc := 34) (n := -1) (v := (-1)) hX (by decide +kernel) (by decide +kernel) ?_
    refine J_icmp_ne (pc := 35) (off := 7) (tgt := 42) hX (by decide +kernel) (by decide +kernel) (fun _ => ?_) (fun _ => ?_)
    · refine J_aload_n (k0 := 1) (pc := 42) 2 hX (by decide +kernel) rfl rfl ?_
      refine J_iload_n (k0 := 3) (pc := 43) 0 hX (by decide +kernel) rfl rfl ?_
      refine J_iconst (pc := 44) (n := 1) (v := 1) hX (by decide +kernel) (by decide +kernel) ?_
      refine J_iadd (pc := 45) hX (by decide +kernel) ?_
      refine J_cVi (pc := 46) (idx := 133) [.int (x2 + 1)] hX (by decide +kernel) (mq mt_2 220 (by decide +kernel)) mv_Fg_holder hf1.1 rfl rfl (Nat.le_of_ble_eq_true rfl) (Nat.le_of_ble_eq_true rfl) (c_Fg_holder hf1 (x2 + 1) μ1) (fun x4 μ3 => ?_)
      exact J_sub [1, 2, 3, 0] _ rfl (jDy_readWords_49 hL hf1 hX v2 x2 x4 μ3)
    · refine J_iconst (pc := 38) (n := -1) (v := (-1)) hX (by decide +kernel) (by decide +kernel) ?_
      refine J_goto (pc := 39) (off := 10) (tgt := 49) hX (by decide +kernel) (by decide +kernel) ?_
      exact J_sub [1, 2, 3, 0] _ rfl (jDy_readWords_49 hL hf1 hX v2 x2 ((-1)) μ1)
  · refine J_aload_n (k0 := 0) (pc := 7) 0 hX (by decide +kernel) rfl rfl ?_
    refine J_gr (pc := 8) hX (by decide +kernel) fl_Dy_9 hL.1 rfl hL.2.2.2.1.1 ?_
    refine J_iload_n (k0 := 3) (pc := 11) 3 hX (by decide +kernel) rfl rfl ?_
    refine J_aload_n (k0 := 1) (pc := 12) 1 hX (by decide +kernel) rfl rfl ?_
    refine J_iload_n (k0 := 2) (pc := 13) 2 hX (by decide +kernel) rfl rfl ?_
    refine J_iload_n (k0 := 3) (pc := 14) 3 hX (by decide +kernel) rfl rfl ?_
    refine J_cVi (pc := 15) (idx := 84) [.int v2, .int v3] hX (by decide +kernel) (mq mt_2 219 (by decide +kernel)) mv_Fg_get hf1.1 rfl rfl (Nat.le_of_ble_eq_true rfl) (Nat.le_of_ble_eq_true rfl) (c_Fg_get hf1 v2 v3 μ) (fun x6 μ5 => ?_)
    refine J_stA (pc := 18) hX (by decide +kernel) hL.2.2.2.1.2 (fun μ7 => ?_)
    refine J_iinc (pc := 19) (n := 1) 3 [(3, .int (v3 + 1)), (0, .ref (G.1 + a)), (1, .ref (G.1 + f1)), (2, .int v2)] hX (by decide +kernel) rfl rfl (by decide) rfl ?_
    refine J_goto (pc := 22) (off := -20) (tgt := 2) hX (by decide +kernel) (by decide +kernel) ?_
    exact J_sub [1, 2, 3, 0] _ rfl (hk2 (v3 + 1) μ7)
set_option maxRecDepth 100000 in
set_option maxHeartbeats 4000000 in
theorem jDy_readWords_2 {X : Cx} {l : Launch} {G : Gx} {y : Ly} {a pt f1 : Nat} (hL : LyDy y a pt) (hf1 : LyFg y f1 ) (hX : Ok X l G prog_2_method_12_code 5 none "SaltFigures$Days") (v2 : Int32)   : ∀ (fu : Nat) (v3 : Int32) (μ : Mu), J X G 5 2 y (emy y) rvV tpT 2 [(0, .ref (G.1 + a)), (1, .ref (G.1 + f1)), (2, .int v2), (3, .int v3)] [] (μ, y) (Dy_readWords_2 a pt f1  v2 fu v3 μ) := by
  intro fu
  induction fu with
  | zero => intros; exact J_none
  | succ fu ih => intro v3 μ; exact jDy_readWords_2b hL hf1 hX v2  ih v3 μ
set_option maxRecDepth 100000 in
set_option maxHeartbeats 4000000 in
theorem jDy_readWords {X : Cx} {l : Launch} {G : Gx} {y : Ly} {a pt f1 : Nat} (hL : LyDy y a pt) (hf1 : LyFg y f1 ) (hX : Ok X l G prog_2_method_12_code 5 none "SaltFigures$Days") (v2 : Int32) (μ : Mu) : J X G 5 2 y (emy y) rvV tpT 0 [(0, .ref (G.1 + a)), (1, .ref (G.1 + f1)), (2, .int v2)] [] (μ, y) (Dy_readWords a pt f1 v2 μ) := by
  unfold Dy_readWords
  refine J_iconst (pc := 0) (n := 0) (v := 0) hX (by decide +kernel) (by decide +kernel) ?_
  refine J_istore_n (k0 := 3) (pc := 1) [(3, .int 0), (0, .ref (G.1 + a)), (1, .ref (G.1 + f1)), (2, .int v2)] hX (by decide +kernel) rfl (by decide) rfl ?_
  exact J_sub [1, 2, 3, 0] _ rfl (jDy_readWords_2 hL hf1 hX v2 FU 0 μ)
set_option maxRecDepth 100000 in
set_option maxHeartbeats 4000000 in
theorem c_Dy_readWords {l : Launch} {G : Gx} {y : Ly} {a pt f1 : Nat} (hL : LyDy y a pt) (hf1 : LyFg y f1 ) (v2 : Int32) (μ : Mu) : Cn l G ⟨"SaltFigures$Days", "readWords", "(LSaltFigures$Figures;I)V"⟩ prog_2_method_12_code 5 none 2 [.ref (G.1 + a), .ref (G.1 + f1), .int v2] (μ, y) (emy y) rvV tpT (Dy_readWords a pt f1 v2 μ) := cn_of (by decide +kernel) (Nat.le_of_ble_eq_true rfl) (fun _ _ _ => ⟨List.prefix_refl _, trivial⟩) (fun X hX _ => jDy_readWords hL hf1 hX v2 μ)

def Dy_usual (a pt : Nat) (v1 : Int32) (μ : Mu) : Option (Int32 × Mu) := (if v1 = 1 then some (500, μ) else (if v1 = 2 then ldA μ (a + 1) 10 0 (fun x3 => some (10 * x3, μ)) else ldA μ (a + 1) 10 6 (fun x1 => ldA μ (a + 1) 10 1 (fun x2 => some (x1 * (x2 / 100), μ)))))
set_option maxRecDepth 100000 in
set_option maxHeartbeats 4000000 in
theorem jDy_usual {X : Cx} {l : Launch} {G : Gx} {y : Ly} {a pt : Nat} (hL : LyDy y a pt) (hX : Ok X l G prog_2_method_13_code 2 (some .int) "SaltFigures$Days") (v1 : Int32) (μ : Mu) : J X G 2 1 y (emy y) rvI tpT 0 [(0, .ref (G.1 + a)), (1, .int v1)] [] (μ, y) (Dy_usual a pt v1 μ) := by
  unfold Dy_usual
  refine J_iload_n (k0 := 1) (pc := 0) 1 hX (by decide +kernel) rfl rfl ?_
  refine J_iconst (pc := 1) (n := 1) (v := 1) hX (by decide +kernel) (by decide +kernel) ?_
  refine J_icmp_ne (pc := 2) (off := 7) (tgt := 9) hX (by decide +kernel) (by decide +kernel) (fun _ => ?_) (fun _ => ?_)
  · refine J_iload_n (k0 := 1) (pc := 9) 1 hX (by decide +kernel) rfl rfl ?_
    refine J_iconst (pc := 10) (n := 2) (v := 2) hX (by decide +kernel) (by decide +kernel) ?_
    refine J_icmp_ne (pc := 11) (off := 15) (tgt := 26) hX (by decide +kernel) (by decide +kernel) (fun _ => ?_) (fun _ => ?_)
    · refine J_aload_n (k0 := 0) (pc := 26) 0 hX (by decide +kernel) rfl rfl ?_
      refine J_gr (pc := 27) hX (by decide +kernel) fl_Dy_9 hL.1 rfl hL.2.2.2.1.1 ?_
      refine J_bipush (pc := 30) (n := 6) (v := 6) hX (by decide +kernel) (by decide +kernel) ?_
      refine J_ldA (pc := 32) hX (by decide +kernel) hL.2.2.2.1.2 (fun x1 => ?_)
      refine J_aload_n (k0 := 0) (pc := 33) 0 hX (by decide +kernel) rfl rfl ?_
      refine J_gr (pc := 34) hX (by decide +kernel) fl_Dy_9 hL.1 rfl hL.2.2.2.1.1 ?_
      refine J_iconst (pc := 37) (n := 1) (v := 1) hX (by decide +kernel) (by decide +kernel) ?_
      refine J_ldA (pc := 38) hX (by decide +kernel) hL.2.2.2.1.2 (fun x2 => ?_)
      refine J_bipush (pc := 39) (n := 100) (v := 100) hX (by decide +kernel) (by decide +kernel) ?_
      refine J_idivK (pc := 41) hX (by decide +kernel) (by decide +kernel) ?_
      refine J_imul (pc := 42) hX (by decide +kernel) ?_
      exact J_iret (pc := 43) hX (by decide +kernel) rfl trivial
    · refine J_bipush (pc := 14) (n := 10) (v := 10) hX (by decide +kernel) (by decide +kernel) ?_
      refine J_aload_n (k0 := 0) (pc := 16) 0 hX (by decide +kernel) rfl rfl ?_
      refine J_gr (pc := 17) hX (by decide +kernel) fl_Dy_9 hL.1 rfl hL.2.2.2.1.1 ?_
      refine J_iconst (pc := 20) (n := 0) (v := 0) hX (by decide +kernel) (by decide +kernel) ?_
      refine J_ldA (pc := 21) hX (by decide +kernel) hL.2.2.2.1.2 (fun x3 => ?_)
      refine J_imul (pc := 22) hX (by decide +kernel) ?_
      refine J_goto (pc := 23) (off := 20) (tgt := 43) hX (by decide +kernel) (by decide +kernel) ?_
      exact J_iret (pc := 43) hX (by decide +kernel) rfl trivial
  · refine J_sipush (pc := 5) (n := 500) (v := 500) hX (by decide +kernel) (by decide +kernel) ?_
    exact J_iret (pc := 8) hX (by decide +kernel) rfl trivial
set_option maxRecDepth 100000 in
set_option maxHeartbeats 4000000 in
theorem c_Dy_usual {l : Launch} {G : Gx} {y : Ly} {a pt : Nat} (hL : LyDy y a pt) (v1 : Int32) (μ : Mu) : Cn l G ⟨"SaltFigures$Days", "usual", "(I)I"⟩ prog_2_method_13_code 2 (some .int) 1 [.ref (G.1 + a), .int v1] (μ, y) (emy y) rvI tpT (Dy_usual a pt v1 μ) := cn_of (by decide +kernel) (Nat.le_of_ble_eq_true rfl) (fun _ _ _ => ⟨List.prefix_refl _, trivial⟩) (fun X hX _ => jDy_usual hL hX v1 μ)

def Lw_single  (v0 : Int32) (v1 : Int32) (v2 : Int32) (μ : Mu) : Option (Int32 × Mu) := (if v0 = 7 then (if v1 = 0 then some (1, μ) else some (0, μ)) else (if v2 = 0 then some (0, μ) else nz v2 (some (v1 / v2, μ))))
set_option maxRecDepth 100000 in
set_option maxHeartbeats 4000000 in
theorem jLw_single {X : Cx} {l : Launch} {G : Gx} {y : Ly}   (hX : Ok X l G prog_4_method_9_code 3 (some .int) "SaltFigures$Law") (v0 : Int32) (v1 : Int32) (v2 : Int32) (μ : Mu) : J X G 3 1 y (emy y) rvI tpT 0 [(0, .int v0), (1, .int v1), (2, .int v2)] [] (μ, y) (Lw_single  v0 v1 v2 μ) := by
  unfold Lw_single
  refine J_iload_n (k0 := 0) (pc := 0) 0 hX (by decide +kernel) rfl rfl ?_
  refine J_bipush (pc := 1) (n := 7) (v := 7) hX (by decide +kernel) (by decide +kernel) ?_
  refine J_icmp_ne (pc := 3) (off := 13) (tgt := 16) hX (by decide +kernel) (by decide +kernel) (fun _ => ?_) (fun _ => ?_)
  · refine J_iload_n (k0 := 2) (pc := 16) 2 hX (by decide +kernel) rfl rfl ?_
    refine J_if_ne (pc := 17) (off := 7) (tgt := 24) hX (by decide +kernel) (by decide +kernel) (fun _ => ?_) (fun _ => ?_)
    · refine J_iload_n (k0 := 1) (pc := 24) 1 hX (by decide +kernel) rfl rfl ?_
      refine J_iload_n (k0 := 2) (pc := 25) 2 hX (by decide +kernel) rfl rfl ?_
      refine J_idiv (pc := 26) hX (by decide +kernel) (fun _ => ?_)
      exact J_iret (pc := 27) hX (by decide +kernel) rfl trivial
    · refine J_iconst (pc := 20) (n := 0) (v := 0) hX (by decide +kernel) (by decide +kernel) ?_
      refine J_goto (pc := 21) (off := 6) (tgt := 27) hX (by decide +kernel) (by decide +kernel) ?_
      exact J_iret (pc := 27) hX (by decide +kernel) rfl trivial
  · refine J_iload_n (k0 := 1) (pc := 6) 1 hX (by decide +kernel) rfl rfl ?_
    refine J_if_ne (pc := 7) (off := 7) (tgt := 14) hX (by decide +kernel) (by decide +kernel) (fun _ => ?_) (fun _ => ?_)
    · refine J_iconst (pc := 14) (n := 0) (v := 0) hX (by decide +kernel) (by decide +kernel) ?_
      exact J_iret (pc := 15) hX (by decide +kernel) rfl trivial
    · refine J_iconst (pc := 10) (n := 1) (v := 1) hX (by decide +kernel) (by decide +kernel) ?_
      refine J_goto (pc := 11) (off := 4) (tgt := 15) hX (by decide +kernel) (by decide +kernel) ?_
      exact J_iret (pc := 15) hX (by decide +kernel) rfl trivial
set_option maxRecDepth 100000 in
set_option maxHeartbeats 4000000 in
theorem c_Lw_single {l : Launch} {G : Gx} {y : Ly}   (v0 : Int32) (v1 : Int32) (v2 : Int32) (μ : Mu) : Cn l G ⟨"SaltFigures$Law", "single", "(III)I"⟩ prog_4_method_9_code 3 (some .int) 1 [.int v0, .int v1, .int v2] (μ, y) (emy y) rvI tpT (Lw_single  v0 v1 v2 μ) := cn_of (by decide +kernel) (Nat.le_of_ble_eq_true rfl) (fun _ _ _ => ⟨List.prefix_refl _, trivial⟩) (fun X hX _ => jLw_single  hX v0 v1 v2 μ)

def Lw_pair  (v0 : Int32) (v1 : Int32) (v2 : Int32) (μ : Mu) : Option (Int32 × Mu) := (if v0 = 6 then some (v1 &&& v2, μ) else (if v0 = 42 then some (v1 * v2, μ) else (if v0 = 43 then some (v1 + v2, μ) else (if v0 = 45 then some (v1 - v2, μ) else (if v0 = 60 then (if v2 ≤ v1 then some (0, μ) else some (1, μ)) else (if v0 = 61 then (if v1 = v2 then some (1, μ) else some (0, μ)) else (if v0 = 62 then (if v1 ≤ v2 then some (0, μ) else some (1, μ)) else some (v1 ||| v2, μ))))))))
set_option maxRecDepth 100000 in
set_option maxHeartbeats 4000000 in
theorem jLw_pair {X : Cx} {l : Launch} {G : Gx} {y : Ly}   (hX : Ok X l G prog_4_method_10_code 3 (some .int) "SaltFigures$Law") (v0 : Int32) (v1 : Int32) (v2 : Int32) (μ : Mu) : J X G 3 1 y (emy y) rvI tpT 0 [(0, .int v0), (1, .int v1), (2, .int v2)] [] (μ, y) (Lw_pair  v0 v1 v2 μ) := by
  unfold Lw_pair
  refine J_iload_n (k0 := 0) (pc := 0) 0 hX (by decide +kernel) rfl rfl ?_
  refine J_ite _ (fun hc0 => ?_) (fun hc0 => ?_)
  · refine J_lks (pc := 1) (dflt := 116) (ps := #[(6, 112), (42, 75), (43, 67), (45, 71), (60, 79), (61, 90), (62, 101)]) (len := 67) (off := 112) (tgt := 113) hX (by decide +kernel) (by decide +kernel) (by rw [hc0]; decide +kernel) (by decide +kernel) ?_
    refine J_iload_n (k0 := 1) (pc := 113) 1 hX (by decide +kernel) rfl rfl ?_
    refine J_iload_n (k0 := 2) (pc := 114) 2 hX (by decide +kernel) rfl rfl ?_
    refine J_iand (pc := 115) hX (by decide +kernel) ?_
    exact J_iret (pc := 116) hX (by decide +kernel) rfl trivial
  · refine J_ite _ (fun hc1 => ?_) (fun hc1 => ?_)
    · refine J_lks (pc := 1) (dflt := 116) (ps := #[(6, 112), (42, 75), (43, 67), (45, 71), (60, 79), (61, 90), (62, 101)]) (len := 67) (off := 75) (tgt := 76) hX (by decide +kernel) (by decide +kernel) (by rw [hc1]; decide +kernel) (by decide +kernel) ?_
      refine J_iload_n (k0 := 1) (pc := 76) 1 hX (by decide +kernel) rfl rfl ?_
      refine J_iload_n (k0 := 2) (pc := 77) 2 hX (by decide +kernel) rfl rfl ?_
      refine J_imul (pc := 78) hX (by decide +kernel) ?_
      exact J_iret (pc := 79) hX (by decide +kernel) rfl trivial
    · refine J_ite _ (fun hc2 => ?_) (fun hc2 => ?_)
      · refine J_lks (pc := 1) (dflt := 116) (ps := #[(6, 112), (42, 75), (43, 67), (45, 71), (60, 79), (61, 90), (62, 101)]) (len := 67) (off := 67) (tgt := 68) hX (by decide +kernel) (by decide +kernel) (by rw [hc2]; decide +kernel) (by decide +kernel) ?_
        refine J_iload_n (k0 := 1) (pc := 68) 1 hX (by decide +kernel) rfl rfl ?_
        refine J_iload_n (k0 := 2) (pc := 69) 2 hX (by decide +kernel) rfl rfl ?_
        refine J_iadd (pc := 70) hX (by decide +kernel) ?_
        exact J_iret (pc := 71) hX (by decide +kernel) rfl trivial
      · refine J_ite _ (fun hc3 => ?_) (fun hc3 => ?_)
        · refine J_lks (pc := 1) (dflt := 116) (ps := #[(6, 112), (42, 75), (43, 67), (45, 71), (60, 79), (61, 90), (62, 101)]) (len := 67) (off := 71) (tgt := 72) hX (by decide +kernel) (by decide +kernel) (by rw [hc3]; decide +kernel) (by decide +kernel) ?_
          refine J_iload_n (k0 := 1) (pc := 72) 1 hX (by decide +kernel) rfl rfl ?_
          refine J_iload_n (k0 := 2) (pc := 73) 2 hX (by decide +kernel) rfl rfl ?_
          refine J_isub (pc := 74) hX (by decide +kernel) ?_
          exact J_iret (pc := 75) hX (by decide +kernel) rfl trivial
        · refine J_ite _ (fun hc4 => ?_) (fun hc4 => ?_)
          · refine J_lks (pc := 1) (dflt := 116) (ps := #[(6, 112), (42, 75), (43, 67), (45, 71), (60, 79), (61, 90), (62, 101)]) (len := 67) (off := 79) (tgt := 80) hX (by decide +kernel) (by decide +kernel) (by rw [hc4]; decide +kernel) (by decide +kernel) ?_
            refine J_iload_n (k0 := 1) (pc := 80) 1 hX (by decide +kernel) rfl rfl ?_
            refine J_iload_n (k0 := 2) (pc := 81) 2 hX (by decide +kernel) rfl rfl ?_
            refine J_icmp_ge (pc := 82) (off := 7) (tgt := 89) hX (by decide +kernel) (by decide +kernel) (fun _ => ?_) (fun _ => ?_)
            · refine J_iconst (pc := 89) (n := 0) (v := 0) hX (by decide +kernel) (by decide +kernel) ?_
              exact J_iret (pc := 90) hX (by decide +kernel) rfl trivial
            · refine J_iconst (pc := 85) (n := 1) (v := 1) hX (by decide +kernel) (by decide +kernel) ?_
              refine J_goto (pc := 86) (off := 4) (tgt := 90) hX (by decide +kernel) (by decide +kernel) ?_
              exact J_iret (pc := 90) hX (by decide +kernel) rfl trivial
          · refine J_ite _ (fun hc5 => ?_) (fun hc5 => ?_)
            · refine J_lks (pc := 1) (dflt := 116) (ps := #[(6, 112), (42, 75), (43, 67), (45, 71), (60, 79), (61, 90), (62, 101)]) (len := 67) (off := 90) (tgt := 91) hX (by decide +kernel) (by decide +kernel) (by rw [hc5]; decide +kernel) (by decide +kernel) ?_
              refine J_iload_n (k0 := 1) (pc := 91) 1 hX (by decide +kernel) rfl rfl ?_
              refine J_iload_n (k0 := 2) (pc := 92) 2 hX (by decide +kernel) rfl rfl ?_
              refine J_icmp_ne (pc := 93) (off := 7) (tgt := 100) hX (by decide +kernel) (by decide +kernel) (fun _ => ?_) (fun _ => ?_)
              · refine J_iconst (pc := 100) (n := 0) (v := 0) hX (by decide +kernel) (by decide +kernel) ?_
                exact J_iret (pc := 101) hX (by decide +kernel) rfl trivial
              · refine J_iconst (pc := 96) (n := 1) (v := 1) hX (by decide +kernel) (by decide +kernel) ?_
                refine J_goto (pc := 97) (off := 4) (tgt := 101) hX (by decide +kernel) (by decide +kernel) ?_
                exact J_iret (pc := 101) hX (by decide +kernel) rfl trivial
            · refine J_ite _ (fun hc6 => ?_) (fun hc6 => ?_)
              · refine J_lks (pc := 1) (dflt := 116) (ps := #[(6, 112), (42, 75), (43, 67), (45, 71), (60, 79), (61, 90), (62, 101)]) (len := 67) (off := 101) (tgt := 102) hX (by decide +kernel) (by decide +kernel) (by rw [hc6]; decide +kernel) (by decide +kernel) ?_
                refine J_iload_n (k0 := 1) (pc := 102) 1 hX (by decide +kernel) rfl rfl ?_
                refine J_iload_n (k0 := 2) (pc := 103) 2 hX (by decide +kernel) rfl rfl ?_
                refine J_icmp_le (pc := 104) (off := 7) (tgt := 111) hX (by decide +kernel) (by decide +kernel) (fun _ => ?_) (fun _ => ?_)
                · refine J_iconst (pc := 111) (n := 0) (v := 0) hX (by decide +kernel) (by decide +kernel) ?_
                  exact J_iret (pc := 112) hX (by decide +kernel) rfl trivial
                · refine J_iconst (pc := 107) (n := 1) (v := 1) hX (by decide +kernel) (by decide +kernel) ?_
                  refine J_goto (pc := 108) (off := 4) (tgt := 112) hX (by decide +kernel) (by decide +kernel) ?_
                  exact J_iret (pc := 112) hX (by decide +kernel) rfl trivial
              · refine J_lks (pc := 1) (dflt := 116) (ps := #[(6, 112), (42, 75), (43, 67), (45, 71), (60, 79), (61, 90), (62, 101)]) (len := 67) (off := 116) (tgt := 117) hX (by decide +kernel) (by decide +kernel) (by show Op.lookupswitch.offset [(6, 112), (42, 75), (43, 67), (45, 71), (60, 79), (61, 90), (62, 101)] 116 _ = _; simp only [Op.lookupswitch.offset, if_neg (lsw_ne hc0 6 (by decide +kernel)), if_neg (lsw_ne hc1 42 (by decide +kernel)), if_neg (lsw_ne hc2 43 (by decide +kernel)), if_neg (lsw_ne hc3 45 (by decide +kernel)), if_neg (lsw_ne hc4 60 (by decide +kernel)), if_neg (lsw_ne hc5 61 (by decide +kernel)), if_neg (lsw_ne hc6 62 (by decide +kernel))]) (by decide +kernel) ?_
                refine J_iload_n (k0 := 1) (pc := 117) 1 hX (by decide +kernel) rfl rfl ?_
                refine J_iload_n (k0 := 2) (pc := 118) 2 hX (by decide +kernel) rfl rfl ?_
                refine J_ior (pc := 119) hX (by decide +kernel) ?_
                exact J_iret (pc := 120) hX (by decide +kernel) rfl trivial
set_option maxRecDepth 100000 in
set_option maxHeartbeats 4000000 in
theorem c_Lw_pair {l : Launch} {G : Gx} {y : Ly}   (v0 : Int32) (v1 : Int32) (v2 : Int32) (μ : Mu) : Cn l G ⟨"SaltFigures$Law", "pair", "(III)I"⟩ prog_4_method_10_code 3 (some .int) 1 [.int v0, .int v1, .int v2] (μ, y) (emy y) rvI tpT (Lw_pair  v0 v1 v2 μ) := cn_of (by decide +kernel) (Nat.le_of_ble_eq_true rfl) (fun _ _ _ => ⟨List.prefix_refl _, trivial⟩) (fun X hX _ => jLw_pair  hX v0 v1 v2 μ)

def Lw_value_205 (a r3 n3 : Nat)   (v4 : Int32)  (μ : Mu) : Option (Int32 × Mu) := (if v4 ≤ 0 then some (0, μ) else ldA μ (a + 6) 32 (v4 - 1) (fun x1 => some (x1, μ)))
def Lw_value_199 (a r3 n3 : Nat) (kb10 : Int32 → Int32 → Mu → Option (Int32 × Mu))  (v2 : Int32) (v4 : Int32) (v5 : Int32)  (μ : Mu) : Option (Int32 × Mu) := kb10 v4 (v5 + 1) μ
def Lw_value_106 (a r3 n3 : Nat) (kb10 : Int32 → Int32 → Mu → Option (Int32 × Mu))  (v2 : Int32) (v4 : Int32) (v5 : Int32) (s0 : Int32) (s1 : Int32) (μ : Mu) : Option (Int32 × Mu) := stA μ (a + 6) 32 s1 s0 (fun μ1 => Lw_value_199 a r3 n3 kb10 v2 (v4 + 1) v5 μ1)
def Lw_value_77 (a r3 n3 : Nat) (kb10 : Int32 → Int32 → Mu → Option (Int32 × Mu))  (v2 : Int32) (v4 : Int32) (v5 : Int32) (v6 : Int32) (v7 : Int32) (v8 : Int32)  (μ : Mu) : Option (Int32 × Mu) := (if 32 ≤ v4 then Lw_value_199 a r3 n3 kb10 v2 v4 v5 μ else (if v6 = 30 then Lw_value_106 a r3 n3 kb10 v2 v4 v5 v7 v4 μ else ldA μ r3 n3 v8 (fun x1 => Lw_value_106 a r3 n3 kb10 v2 v4 v5 x1 v4 μ)))
def Lw_value_127 (a r3 n3 : Nat) (kb10 : Int32 → Int32 → Mu → Option (Int32 × Mu))  (v2 : Int32) (v4 : Int32) (v5 : Int32) (v6 : Int32) (v7 : Int32)  (μ : Mu) : Option (Int32 × Mu) := (if v4 ≤ 0 then Lw_value_199 a r3 n3 kb10 v2 v4 v5 μ else ldA μ (a + 6) 32 (v4 - 1) (fun x1 => cl (Lw_single v6 x1 v7 μ) (fun x3 μ2 => stA μ2 (a + 6) 32 (v4 - 1) x3 (fun μ4 => Lw_value_199 a r3 n3 kb10 v2 v4 v5 μ4))))
def Lw_value_113 (a r3 n3 : Nat) (kb10 : Int32 → Int32 → Mu → Option (Int32 × Mu))  (v2 : Int32) (v4 : Int32) (v5 : Int32) (v6 : Int32) (v7 : Int32)  (μ : Mu) : Option (Int32 × Mu) := (if v6 = 7 then Lw_value_127 a r3 n3 kb10 v2 v4 v5 v6 v7 μ else (if v6 = 47 then Lw_value_127 a r3 n3 kb10 v2 v4 v5 v6 v7 μ else (if v4 ≤ 1 then Lw_value_199 a r3 n3 kb10 v2 v4 v5 μ else ldA μ (a + 6) 32 ((v4 + (-1)) - 1) (fun x1 => ldA μ (a + 6) 32 (v4 + (-1)) (fun x2 => cl (Lw_pair v6 x1 x2 μ) (fun x4 μ3 => stA μ3 (a + 6) 32 ((v4 + (-1)) - 1) x4 (fun μ5 => Lw_value_199 a r3 n3 kb10 v2 (v4 + (-1)) v5 μ5)))))))
def Lw_value_10b (a r3 n3 : Nat)  (kb10 : Int32 → Int32 → Mu → Option (Int32 × Mu)) (v2 : Int32) (v4 : Int32) (v5 : Int32)  (μ : Mu) : Option (Int32 × Mu) := (if v2 ≤ v5 then Lw_value_205 a r3 n3 v4 μ else gF μ a 1 (fun x1 => (if x1 ≤ v5 then Lw_value_205 a r3 n3 v4 μ else ldA μ (a + 5) 400 v5 (fun x2 => ldA μ (a + 5) 400 v5 (fun x3 => (if (x2 / 10000) = 30 then Lw_value_77 a r3 n3 kb10 v2 v4 v5 (x2 / 10000) (jrem x3 10000) ((x2 / 10000) - 8) μ else (if ((x2 / 10000) - 8) < 0 then Lw_value_113 a r3 n3 kb10 v2 v4 v5 (x2 / 10000) (jrem x3 10000) μ else (if (Int32.ofNat n3) ≤ ((x2 / 10000) - 8) then Lw_value_113 a r3 n3 kb10 v2 v4 v5 (x2 / 10000) (jrem x3 10000) μ else Lw_value_77 a r3 n3 kb10 v2 v4 v5 (x2 / 10000) (jrem x3 10000) ((x2 / 10000) - 8) μ))))))))
def Lw_value_10 (a r3 n3 : Nat)  (v2 : Int32) (fu : Nat) : Int32 → Int32 → Mu → Option (Int32 × Mu) := lp (fun kb => Lw_value_10b a r3 n3  kb v2) (fun _ _ _ => none) fu
def Lw_value (a r3 n3 : Nat) (v1 : Int32) (v2 : Int32) (μ : Mu) : Option (Int32 × Mu) := Lw_value_10 a r3 n3 v2 FU 0 (jmax v1 0) μ
set_option maxRecDepth 100000 in
set_option maxHeartbeats 4000000 in
theorem jLw_value_205 {X : Cx} {l : Launch} {G : Gx} {y : Ly} {a r3 n3 : Nat} (hL : LyLw y a ) (hr3 : y.2[r3]? = some (0, n3)) (hX : Ok X l G prog_4_method_8_code 9 (some .int) "SaltFigures$Law")  (v4 : Int32)    (μ : Mu) : J X G 9 3 y (emy y) rvI tpT 205 [(0, .ref (G.1 + a)), (4, .int v4)] [] (μ, y) (Lw_value_205 a r3 n3   v4  μ) := by
  unfold Lw_value_205
  refine J_iload (pc := 205) 1 hX (by decide +kernel) rfl ?_
  refine J_if_le (pc := 207) (off := 15) (tgt := 222) hX (by decide +kernel) (by decide +kernel) (fun _ => ?_) (fun _ => ?_)
  · refine J_iconst (pc := 222) (n := 0) (v := 0) hX (by decide +kernel) (by decide +kernel) ?_
    exact J_iret (pc := 223) hX (by decide +kernel) rfl trivial
  · refine J_aload_n (k0 := 0) (pc := 210) 0 hX (by decide +kernel) rfl rfl ?_
    refine J_gr (pc := 211) hX (by decide +kernel) fl_Lw_27 hL.1 rfl hL.2.2.2.2.2.2.1.1 ?_
    refine J_iload (pc := 214) 1 hX (by decide +kernel) rfl ?_
    refine J_iconst (pc := 216) (n := 1) (v := 1) hX (by decide +kernel) (by decide +kernel) ?_
    refine J_isub (pc := 217) hX (by decide +kernel) ?_
    refine J_ldA (pc := 218) hX (by decide +kernel) hL.2.2.2.2.2.2.1.2 (fun x1 => ?_)
    refine J_goto (pc := 219) (off := 4) (tgt := 223) hX (by decide +kernel) (by decide +kernel) ?_
    exact J_iret (pc := 223) hX (by decide +kernel) rfl trivial
set_option maxRecDepth 100000 in
set_option maxHeartbeats 4000000 in
theorem jLw_value_199 {X : Cx} {l : Launch} {G : Gx} {y : Ly} {a r3 n3 : Nat} (hL : LyLw y a ) (hr3 : y.2[r3]? = some (0, n3)) (hX : Ok X l G prog_4_method_8_code 9 (some .int) "SaltFigures$Law")  (v2 : Int32) (v4 : Int32) (v5 : Int32)  {kb10 : Int32 → Int32 → Mu → Option (Int32 × Mu)} (hk10 : ∀ (v4 : Int32) (v5 : Int32) (μ : Mu), J X G 9 3 y (emy y) rvI tpT 10 [(0, .ref (G.1 + a)), (2, .int v2), (3, .ref (G.1 + r3)), (4, .int v4), (5, .int v5)] [] (μ, y) (kb10 v4 v5 μ)) (μ : Mu) : J X G 9 3 y (emy y) rvI tpT 199 [(0, .ref (G.1 + a)), (2, .int v2), (3, .ref (G.1 + r3)), (4, .int v4), (5, .int v5)] [] (μ, y) (Lw_value_199 a r3 n3 kb10  v2 v4 v5  μ) := by
  unfold Lw_value_199
  refine J_iinc (pc := 199) (n := 1) 4 [(5, .int (v5 + 1)), (0, .ref (G.1 + a)), (2, .int v2), (3, .ref (G.1 + r3)), (4, .int v4)] hX (by decide +kernel) rfl rfl (by decide) rfl ?_
  refine J_goto (pc := 202) (off := -192) (tgt := 10) hX (by decide +kernel) (by decide +kernel) ?_
  exact J_sub [1, 2, 3, 4, 0] _ rfl (hk10 v4 (v5 + 1) μ)
set_option maxRecDepth 100000 in
set_option maxHeartbeats 4000000 in
theorem jLw_value_106 {X : Cx} {l : Launch} {G : Gx} {y : Ly} {a r3 n3 : Nat} (hL : LyLw y a ) (hr3 : y.2[r3]? = some (0, n3)) (hX : Ok X l G prog_4_method_8_code 9 (some .int) "SaltFigures$Law")  (v2 : Int32) (v4 : Int32) (v5 : Int32) (s0 : Int32) (s1 : Int32) {kb10 : Int32 → Int32 → Mu → Option (Int32 × Mu)} (hk10 : ∀ (v4 : Int32) (v5 : Int32) (μ : Mu), J X G 9 3 y (emy y) rvI tpT 10 [(0, .ref (G.1 + a)), (2, .int v2), (3, .ref (G.1 + r3)), (4, .int v4), (5, .int v5)] [] (μ, y) (kb10 v4 v5 μ)) (μ : Mu) : J X G 9 3 y (emy y) rvI tpT 106 [(0, .ref (G.1 + a)), (2, .int v2), (3, .ref (G.1 + r3)), (4, .int v4), (5, .int v5)] [.int s0, .int s1, .ref (G.1 + (a + 6))] (μ, y) (Lw_value_106 a r3 n3 kb10  v2 v4 v5 s0 s1 μ) := by
  unfold Lw_value_106
  refine J_stA (pc := 106) hX (by decide +kernel) hL.2.2.2.2.2.2.1.2 (fun μ1 => ?_)
  refine J_iinc (pc := 107) (n := 1) 3 [(4, .int (v4 + 1)), (0, .ref (G.1 + a)), (2, .int v2), (3, .ref (G.1 + r3)), (5, .int v5)] hX (by decide +kernel) rfl rfl (by decide) rfl ?_
  refine J_goto (pc := 110) (off := 89) (tgt := 199) hX (by decide +kernel) (by decide +kernel) ?_
  exact J_sub [1, 2, 3, 0, 4] _ rfl (jLw_value_199 hL hr3 hX v2 (v4 + 1) v5 hk10 μ1)
set_option maxRecDepth 100000 in
set_option maxHeartbeats 4000000 in
theorem jLw_value_77 {X : Cx} {l : Launch} {G : Gx} {y : Ly} {a r3 n3 : Nat} (hL : LyLw y a ) (hr3 : y.2[r3]? = some (0, n3)) (hX : Ok X l G prog_4_method_8_code 9 (some .int) "SaltFigures$Law")  (v2 : Int32) (v4 : Int32) (v5 : Int32) (v6 : Int32) (v7 : Int32) (v8 : Int32)  {kb10 : Int32 → Int32 → Mu → Option (Int32 × Mu)} (hk10 : ∀ (v4 : Int32) (v5 : Int32) (μ : Mu), J X G 9 3 y (emy y) rvI tpT 10 [(0, .ref (G.1 + a)), (2, .int v2), (3, .ref (G.1 + r3)), (4, .int v4), (5, .int v5)] [] (μ, y) (kb10 v4 v5 μ)) (μ : Mu) : J X G 9 3 y (emy y) rvI tpT 77 [(0, .ref (G.1 + a)), (2, .int v2), (3, .ref (G.1 + r3)), (4, .int v4), (5, .int v5), (6, .int v6), (7, .int v7), (8, .int v8)] [] (μ, y) (Lw_value_77 a r3 n3 kb10  v2 v4 v5 v6 v7 v8  μ) := by
  unfold Lw_value_77
  refine J_iload (pc := 77) 3 hX (by decide +kernel) rfl ?_
  refine J_bipush (pc := 79) (n := 32) (v := 32) hX (by decide +kernel) (by decide +kernel) ?_
  refine J_icmp_ge (pc := 81) (off := 118) (tgt := 199) hX (by decide +kernel) (by decide +kernel) (fun _ => ?_) (fun _ => ?_)
  · exact J_sub [0, 1, 2, 3, 4] _ rfl (jLw_value_199 hL hr3 hX v2 v4 v5 hk10 μ)
  · refine J_aload_n (k0 := 0) (pc := 84) 0 hX (by decide +kernel) rfl rfl ?_
    refine J_gr (pc := 85) hX (by decide +kernel) fl_Lw_27 hL.1 rfl hL.2.2.2.2.2.2.1.1 ?_
    refine J_iload (pc := 88) 3 hX (by decide +kernel) rfl ?_
    refine J_iload (pc := 90) 5 hX (by decide +kernel) rfl ?_
    refine J_bipush (pc := 92) (n := 30) (v := 30) hX (by decide +kernel) (by decide +kernel) ?_
    refine J_icmp_ne (pc := 94) (off := 8) (tgt := 102) hX (by decide +kernel) (by decide +kernel) (fun _ => ?_) (fun _ => ?_)
    · refine J_aload_n (k0 := 3) (pc := 102) 2 hX (by decide +kernel) rfl rfl ?_
      refine J_iload (pc := 103) 7 hX (by decide +kernel) rfl ?_
      refine J_ldA (pc := 105) hX (by decide +kernel) hr3 (fun x1 => ?_)
      exact J_sub [0, 1, 2, 3, 4] _ rfl (jLw_value_106 hL hr3 hX v2 v4 v5 x1 v4 hk10 μ)
    · refine J_iload (pc := 97) 6 hX (by decide +kernel) rfl ?_
      refine J_goto (pc := 99) (off := 7) (tgt := 106) hX (by decide +kernel) (by decide +kernel) ?_
      exact J_sub [0, 1, 2, 3, 4] _ rfl (jLw_value_106 hL hr3 hX v2 v4 v5 v7 v4 hk10 μ)
set_option maxRecDepth 100000 in
set_option maxHeartbeats 4000000 in
theorem jLw_value_127 {X : Cx} {l : Launch} {G : Gx} {y : Ly} {a r3 n3 : Nat} (hL : LyLw y a ) (hr3 : y.2[r3]? = some (0, n3)) (hX : Ok X l G prog_4_method_8_code 9 (some .int) "SaltFigures$Law")  (v2 : Int32) (v4 : Int32) (v5 : Int32) (v6 : Int32) (v7 : Int32)  {kb10 : Int32 → Int32 → Mu → Option (Int32 × Mu)} (hk10 : ∀ (v4 : Int32) (v5 : Int32) (μ : Mu), J X G 9 3 y (emy y) rvI tpT 10 [(0, .ref (G.1 + a)), (2, .int v2), (3, .ref (G.1 + r3)), (4, .int v4), (5, .int v5)] [] (μ, y) (kb10 v4 v5 μ)) (μ : Mu) : J X G 9 3 y (emy y) rvI tpT 127 [(0, .ref (G.1 + a)), (2, .int v2), (3, .ref (G.1 + r3)), (4, .int v4), (5, .int v5), (6, .int v6), (7, .int v7)] [] (μ, y) (Lw_value_127 a r3 n3 kb10  v2 v4 v5 v6 v7  μ) := by
  unfold Lw_value_127
  refine J_iload (pc := 127) 3 hX (by decide +kernel) rfl ?_
  refine J_if_le (pc := 129) (off := 70) (tgt := 199) hX (by decide +kernel) (by decide +kernel) (fun _ => ?_) (fun _ => ?_)
  · exact J_sub [0, 1, 2, 3, 4] _ rfl (jLw_value_199 hL hr3 hX v2 v4 v5 hk10 μ)
  · refine J_aload_n (k0 := 0) (pc := 132) 0 hX (by decide +kernel) rfl rfl ?_
    refine J_gr (pc := 133) hX (by decide +kernel) fl_Lw_27 hL.1 rfl hL.2.2.2.2.2.2.1.1 ?_
    refine J_iload (pc := 136) 3 hX (by decide +kernel) rfl ?_
    refine J_iconst (pc := 138) (n := 1) (v := 1) hX (by decide +kernel) (by decide +kernel) ?_
    refine J_isub (pc := 139) hX (by decide +kernel) ?_
    refine J_iload (pc := 140) 5 hX (by decide +kernel) rfl ?_
    refine J_aload_n (k0 := 0) (pc := 142) 0 hX (by decide +kernel) rfl rfl ?_
    refine J_gr (pc := 143) hX (by decide +kernel) fl_Lw_27 hL.1 rfl hL.2.2.2.2.2.2.1.1 ?_
    refine J_iload (pc := 146) 3 hX (by decide +kernel) rfl ?_
    refine J_iconst (pc := 148) (n := 1) (v := 1) hX (by decide +kernel) (by decide +kernel) ?_
    refine J_isub (pc := 149) hX (by decide +kernel) ?_
    refine J_ldA (pc := 150) hX (by decide +kernel) hL.2.2.2.2.2.2.1.2 (fun x1 => ?_)
    refine J_iload (pc := 151) 6 hX (by decide +kernel) rfl ?_
    refine J_cSi (pc := 153) (idx := 49) [.int v6, .int x1, .int v7] hX (by decide +kernel) (mq mt_2 234 (by decide +kernel)) mv_Lw_single rfl rfl (Nat.le_of_ble_eq_true rfl) (Nat.le_of_ble_eq_true rfl) (c_Lw_single v6 x1 v7 μ) (fun x3 μ2 => ?_)
    refine J_stA (pc := 156) hX (by decide +kernel) hL.2.2.2.2.2.2.1.2 (fun μ4 => ?_)
    refine J_goto (pc := 157) (off := 42) (tgt := 199) hX (by decide +kernel) (by decide +kernel) ?_
    exact J_sub [0, 1, 2, 3, 4] _ rfl (jLw_value_199 hL hr3 hX v2 v4 v5 hk10 μ4)
set_option maxRecDepth 100000 in
set_option maxHeartbeats 4000000 in
theorem jLw_value_113 {X : Cx} {l : Launch} {G : Gx} {y : Ly} {a r3 n3 : Nat} (hL : LyLw y a ) (hr3 : y.2[r3]? = some (0, n3)) (hX : Ok X l G prog_4_method_8_code 9 (some .int) "SaltFigures$Law")  (v2 : Int32) (v4 : Int32) (v5 : Int32) (v6 : Int32) (v7 : Int32)  {kb10 : Int32 → Int32 → Mu → Option (Int32 × Mu)} (hk10 : ∀ (v4 : Int32) (v5 : Int32) (μ : Mu), J X G 9 3 y (emy y) rvI tpT 10 [(0, .ref (G.1 + a)), (2, .int v2), (3, .ref (G.1 + r3)), (4, .int v4), (5, .int v5)] [] (μ, y) (kb10 v4 v5 μ)) (μ : Mu) : J X G 9 3 y (emy y) rvI tpT 113 [(0, .ref (G.1 + a)), (2, .int v2), (3, .ref (G.1 + r3)), (4, .int v4), (5, .int v5), (6, .int v6), (7, .int v7)] [] (μ, y) (Lw_value_113 a r3 n3 kb10  v2 v4 v5 v6 v7  μ) := by
  unfold Lw_value_113
  refine J_iload (pc := 113) 5 hX (by decide +kernel) rfl ?_
  refine J_bipush (pc := 115) (n := 7) (v := 7) hX (by decide +kernel) (by decide +kernel) ?_
  refine J_icmp_eq (pc := 117) (off := 10) (tgt := 127) hX (by decide +kernel) (by decide +kernel) (fun _ => ?_) (fun _ => ?_)
  · exact J_sub [0, 1, 2, 3, 4, 5, 6] _ rfl (jLw_value_127 hL hr3 hX v2 v4 v5 v6 v7 hk10 μ)
  · refine J_iload (pc := 120) 5 hX (by decide +kernel) rfl ?_
    refine J_bipush (pc := 122) (n := 47) (v := 47) hX (by decide +kernel) (by decide +kernel) ?_
    refine J_icmp_ne (pc := 124) (off := 36) (tgt := 160) hX (by decide +kernel) (by decide +kernel) (fun _ => ?_) (fun _ => ?_)
    · refine J_iload (pc := 160) 3 hX (by decide +kernel) rfl ?_
      refine J_iconst (pc := 162) (n := 1) (v := 1) hX (by decide +kernel) (by decide +kernel) ?_
      refine J_icmp_le (pc := 163) (off := 36) (tgt := 199) hX (by decide +kernel) (by decide +kernel) (fun _ => ?_) (fun _ => ?_)
      · exact J_sub [0, 1, 2, 3, 4] _ rfl (jLw_value_199 hL hr3 hX v2 v4 v5 hk10 μ)
      · refine J_iinc (pc := 166) (n := -1) 3 [(4, .int (v4 + (-1))), (0, .ref (G.1 + a)), (2, .int v2), (3, .ref (G.1 + r3)), (5, .int v5), (6, .int v6), (7, .int v7)] hX (by decide +kernel) rfl rfl (by decide) rfl ?_
        refine J_aload_n (k0 := 0) (pc := 169) 1 hX (by decide +kernel) rfl rfl ?_
        refine J_gr (pc := 170) hX (by decide +kernel) fl_Lw_27 hL.1 rfl hL.2.2.2.2.2.2.1.1 ?_
        refine J_iload (pc := 173) 0 hX (by decide +kernel) rfl ?_
        refine J_iconst (pc := 175) (n := 1) (v := 1) hX (by decide +kernel) (by decide +kernel) ?_
        refine J_isub (pc := 176) hX (by decide +kernel) ?_
        refine J_iload (pc := 177) 5 hX (by decide +kernel) rfl ?_
        refine J_aload_n (k0 := 0) (pc := 179) 1 hX (by decide +kernel) rfl rfl ?_
        refine J_gr (pc := 180) hX (by decide +kernel) fl_Lw_27 hL.1 rfl hL.2.2.2.2.2.2.1.1 ?_
        refine J_iload (pc := 183) 0 hX (by decide +kernel) rfl ?_
        refine J_iconst (pc := 185) (n := 1) (v := 1) hX (by decide +kernel) (by decide +kernel) ?_
        refine J_isub (pc := 186) hX (by decide +kernel) ?_
        refine J_ldA (pc := 187) hX (by decide +kernel) hL.2.2.2.2.2.2.1.2 (fun x1 => ?_)
        refine J_aload_n (k0 := 0) (pc := 188) 1 hX (by decide +kernel) rfl rfl ?_
        refine J_gr (pc := 189) hX (by decide +kernel) fl_Lw_27 hL.1 rfl hL.2.2.2.2.2.2.1.1 ?_
        refine J_iload (pc := 192) 0 hX (by decide +kernel) rfl ?_
        refine J_ldA (pc := 194) hX (by decide +kernel) hL.2.2.2.2.2.2.1.2 (fun x2 => ?_)
        refine J_cSi (pc := 195) (idx := 53) [.int v6, .int x1, .int x2] hX (by decide +kernel) (mq mt_2 237 (by decide +kernel)) mv_Lw_pair rfl rfl (Nat.le_of_ble_eq_true rfl) (Nat.le_of_ble_eq_true rfl) (c_Lw_pair v6 x1 x2 μ) (fun x4 μ3 => ?_)
        refine J_stA (pc := 198) hX (by decide +kernel) hL.2.2.2.2.2.2.1.2 (fun μ5 => ?_)
        exact J_sub [1, 2, 3, 0, 4] _ rfl (jLw_value_199 hL hr3 hX v2 (v4 + (-1)) v5 hk10 μ5)
    · exact J_sub [0, 1, 2, 3, 4, 5, 6] _ rfl (jLw_value_127 hL hr3 hX v2 v4 v5 v6 v7 hk10 μ)
set_option maxRecDepth 100000 in
set_option maxHeartbeats 4000000 in
theorem jLw_value_10b {X : Cx} {l : Launch} {G : Gx} {y : Ly} {a r3 n3 : Nat} (hL : LyLw y a ) (hr3 : y.2[r3]? = some (0, n3)) (hX : Ok X l G prog_4_method_8_code 9 (some .int) "SaltFigures$Law") (v2 : Int32)  {kb10 : Int32 → Int32 → Mu → Option (Int32 × Mu)}  (hk10 : ∀ (v4 : Int32) (v5 : Int32) (μ : Mu), J X G 9 3 y (emy y) rvI tpT 10 [(0, .ref (G.1 + a)), (2, .int v2), (3, .ref (G.1 + r3)), (4, .int v4), (5, .int v5)] [] (μ, y) (kb10 v4 v5 μ)) (v4 : Int32) (v5 : Int32)  (μ : Mu) : J X G 9 3 y (emy y) rvI tpT 10 [(0, .ref (G.1 + a)), (2, .int v2), (3, .ref (G.1 + r3)), (4, .int v4), (5, .int v5)] [] (μ, y) (Lw_value_10b a r3 n3  kb10 v2 v4 v5  μ) := by
  unfold Lw_value_10b
  refine J_iload (pc := 10) 4 hX (by decide +kernel) rfl ?_
  refine J_iload_n (k0 := 2) (pc := 12) 1 hX (by decide +kernel) rfl rfl ?_
  refine J_icmp_ge (pc := 13) (off := 192) (tgt := 205) hX (by decide +kernel) (by decide +kernel) (fun _ => ?_) (fun _ => ?_)
  · exact J_sub [0, 3] _ rfl (jLw_value_205 hL hr3 hX v4 μ)
  · refine J_iload (pc := 16) 4 hX (by decide +kernel) rfl ?_
    refine J_aload_n (k0 := 0) (pc := 18) 0 hX (by decide +kernel) rfl rfl ?_
    refine J_gF (pc := 19) hX (by decide +kernel) fl_Lw_34 hL.1 rfl (fun x1 => ?_)
    refine J_icmp_ge (pc := 22) (off := 183) (tgt := 205) hX (by decide +kernel) (by decide +kernel) (fun _ => ?_) (fun _ => ?_)
    · exact J_sub [0, 3] _ rfl (jLw_value_205 hL hr3 hX v4 μ)
    · refine J_aload_n (k0 := 0) (pc := 25) 0 hX (by decide +kernel) rfl rfl ?_
      refine J_gr (pc := 26) hX (by decide +kernel) fl_Lw_24 hL.1 rfl hL.2.2.2.2.2.1.1 ?_
      refine J_iload (pc := 29) 4 hX (by decide +kernel) rfl ?_
      refine J_ldA (pc := 31) hX (by decide +kernel) hL.2.2.2.2.2.1.2 (fun x2 => ?_)
      refine J_sipush (pc := 32) (n := 10000) (v := 10000) hX (by decide +kernel) (by decide +kernel) ?_
      refine J_idivK (pc := 35) hX (by decide +kernel) (by decide +kernel) ?_
      refine J_istore (pc := 36) [(6, .int (x2 / 10000)), (0, .ref (G.1 + a)), (2, .int v2), (3, .ref (G.1 + r3)), (4, .int v4), (5, .int v5)] hX (by decide +kernel) (by decide) rfl ?_
      refine J_aload_n (k0 := 0) (pc := 38) 1 hX (by decide +kernel) rfl rfl ?_
      refine J_gr (pc := 39) hX (by decide +kernel) fl_Lw_24 hL.1 rfl hL.2.2.2.2.2.1.1 ?_
      refine J_iload (pc := 42) 5 hX (by decide +kernel) rfl ?_
      refine J_ldA (pc := 44) hX (by decide +kernel) hL.2.2.2.2.2.1.2 (fun x3 => ?_)
      refine J_sipush (pc := 45) (n := 10000) (v := 10000) hX (by decide +kernel) (by decide +kernel) ?_
      refine J_iremK (pc := 48) hX (by decide +kernel) (by decide +kernel) ?_
      refine J_istore (pc := 49) [(7, .int (jrem x3 10000)), (6, .int (x2 / 10000)), (0, .ref (G.1 + a)), (2, .int v2), (3, .ref (G.1 + r3)), (4, .int v4), (5, .int v5)] hX (by decide +kernel) (by decide) rfl ?_
      refine J_iload (pc := 51) 1 hX (by decide +kernel) rfl ?_
      refine J_bipush (pc := 53) (n := 8) (v := 8) hX (by decide +kernel) (by decide +kernel) ?_
      refine J_isub (pc := 55) hX (by decide +kernel) ?_
      refine J_istore (pc := 56) [(8, .int ((x2 / 10000) - 8)), (7, .int (jrem x3 10000)), (6, .int (x2 / 10000)), (0, .ref (G.1 + a)), (2, .int v2), (3, .ref (G.1 + r3)), (4, .int v4), (5, .int v5)] hX (by decide +kernel) (by decide) rfl ?_
      refine J_iload (pc := 58) 2 hX (by decide +kernel) rfl ?_
      refine J_bipush (pc := 60) (n := 30) (v := 30) hX (by decide +kernel) (by decide +kernel) ?_
      refine J_icmp_eq (pc := 62) (off := 15) (tgt := 77) hX (by decide +kernel) (by decide +kernel) (fun _ => ?_) (fun _ => ?_)
      · exact J_sub [3, 4, 5, 6, 7, 2, 1, 0] _ rfl (jLw_value_77 hL hr3 hX v2 v4 v5 (x2 / 10000) (jrem x3 10000) ((x2 / 10000) - 8) hk10 μ)
      · refine J_iload (pc := 65) 0 hX (by decide +kernel) rfl ?_
        refine J_if_lt (pc := 67) (off := 46) (tgt := 113) hX (by decide +kernel) (by decide +kernel) (fun _ => ?_) (fun _ => ?_)
        · exact J_sub [3, 4, 5, 6, 7, 2, 1] _ rfl (jLw_value_113 hL hr3 hX v2 v4 v5 (x2 / 10000) (jrem x3 10000) hk10 μ)
        · refine J_iload (pc := 70) 0 hX (by decide +kernel) rfl ?_
          refine J_aload_n (k0 := 3) (pc := 72) 5 hX (by decide +kernel) rfl rfl ?_
          refine J_alen (pc := 73) hX (by decide +kernel) hr3 (v := Int32.ofNat n3) rfl ?_
          refine J_icmp_ge (pc := 74) (off := 39) (tgt := 113) hX (by decide +kernel) (by decide +kernel) (fun _ => ?_) (fun _ => ?_)
          · exact J_sub [3, 4, 5, 6, 7, 2, 1] _ rfl (jLw_value_113 hL hr3 hX v2 v4 v5 (x2 / 10000) (jrem x3 10000) hk10 μ)
          · exact J_sub [3, 4, 5, 6, 7, 2, 1, 0] _ rfl (jLw_value_77 hL hr3 hX v2 v4 v5 (x2 / 10000) (jrem x3 10000) ((x2 / 10000) - 8) hk10 μ)
set_option maxRecDepth 100000 in
set_option maxHeartbeats 4000000 in
theorem jLw_value_10 {X : Cx} {l : Launch} {G : Gx} {y : Ly} {a r3 n3 : Nat} (hL : LyLw y a ) (hr3 : y.2[r3]? = some (0, n3)) (hX : Ok X l G prog_4_method_8_code 9 (some .int) "SaltFigures$Law") (v2 : Int32)   : ∀ (fu : Nat) (v4 : Int32) (v5 : Int32) (μ : Mu), J X G 9 3 y (emy y) rvI tpT 10 [(0, .ref (G.1 + a)), (2, .int v2), (3, .ref (G.1 + r3)), (4, .int v4), (5, .int v5)] [] (μ, y) (Lw_value_10 a r3 n3  v2 fu v4 v5 μ) := by
  intro fu
  induction fu with
  | zero => intros; exact J_none
  | succ fu ih => intro v4 v5 μ; exact jLw_value_10b hL hr3 hX v2  ih v4 v5 μ
set_option maxRecDepth 100000 in
set_option maxHeartbeats 4000000 in
theorem jLw_value {X : Cx} {l : Launch} {G : Gx} {y : Ly} {a r3 n3 : Nat} (hL : LyLw y a ) (hr3 : y.2[r3]? = some (0, n3)) (hX : Ok X l G prog_4_method_8_code 9 (some .int) "SaltFigures$Law") (v1 : Int32) (v2 : Int32) (μ : Mu) : J X G 9 3 y (emy y) rvI tpT 0 [(0, .ref (G.1 + a)), (1, .int v1), (2, .int v2), (3, .ref (G.1 + r3))] [] (μ, y) (Lw_value a r3 n3 v1 v2 μ) := by
  unfold Lw_value
  refine J_iconst (pc := 0) (n := 0) (v := 0) hX (by decide +kernel) (by decide +kernel) ?_
  refine J_istore (pc := 1) [(4, .int 0), (0, .ref (G.1 + a)), (1, .int v1), (2, .int v2), (3, .ref (G.1 + r3))] hX (by decide +kernel) (by decide) rfl ?_
  refine J_iload_n (k0 := 1) (pc := 3) 2 hX (by decide +kernel) rfl rfl ?_
  refine J_iconst (pc := 4) (n := 0) (v := 0) hX (by decide +kernel) (by decide +kernel) ?_
  refine J_mmax (pc := 5) (idx := 43) hX (by decide +kernel) (mq mt_2 233 (by decide +kernel)) (Nat.le_of_ble_eq_true rfl) (Nat.le_of_ble_eq_true rfl) ?_
  refine J_istore (pc := 8) [(5, .int (jmax v1 0)), (4, .int 0), (0, .ref (G.1 + a)), (1, .int v1), (2, .int v2), (3, .ref (G.1 + r3))] hX (by decide +kernel) (by decide) rfl ?_
  exact J_sub [2, 4, 5, 1, 0] _ rfl (jLw_value_10 hL hr3 hX v2 FU 0 (jmax v1 0) μ)
set_option maxRecDepth 100000 in
set_option maxHeartbeats 4000000 in
theorem c_Lw_value {l : Launch} {G : Gx} {y : Ly} {a r3 n3 : Nat} (hL : LyLw y a ) (hr3 : y.2[r3]? = some (0, n3)) (v1 : Int32) (v2 : Int32) (μ : Mu) : Cn l G ⟨"SaltFigures$Law", "value", "(II[I)I"⟩ prog_4_method_8_code 9 (some .int) 3 [.ref (G.1 + a), .int v1, .int v2, .ref (G.1 + r3)] (μ, y) (emy y) rvI tpT (Lw_value a r3 n3 v1 v2 μ) := cn_of (by decide +kernel) (Nat.le_of_ble_eq_true rfl) (fun _ _ _ => ⟨List.prefix_refl _, trivial⟩) (fun X hX _ => jLw_value hL hr3 hX v1 v2 μ)

def Dy_asks_155 (a pt f1 : Nat)   (v5 : Int32) (s0 : Int32) (μ : Mu) : Option (Int32 × Mu) := some (jmax 0 (jmin s0 v5), μ)
def Dy_asks_127 (a pt f1 : Nat)   (v3 : Int32) (v5 : Int32)  (μ : Mu) : Option (Int32 × Mu) := (if v3 = 1 then Dy_asks_155 a pt f1 v5 1000 μ else (if v3 = 2 then Dy_asks_155 a pt f1 v5 999 μ else ldA μ (a + 1) 10 1 (fun x1 => Dy_asks_155 a pt f1 v5 x1 μ)))
def Dy_asks_121 (a pt f1 : Nat) (kb25 : Int32 → Mu → Option (Int32 × Mu))  (v3 : Int32) (v5 : Int32) (v6 : Int32)  (μ : Mu) : Option (Int32 × Mu) := kb25 (v6 + 1) μ
def Dy_asks_97 (a pt f1 : Nat)   (v3 : Int32) (v6 : Int32) (v7 : Int32)  (μ : Mu) : Option (Int32 × Mu) := ldA μ (pt + 5 + 1 + 2) 16 v6 (fun x1 => cl (Lw_value (pt + 5 + 1) (a + 1) 10 x1 v7 μ) (fun x3 μ2 => Dy_asks_127 a pt f1 v3 x3 μ2))
def Dy_asks_25b (a pt f1 : Nat)  (kb25 : Int32 → Mu → Option (Int32 × Mu)) (v3 : Int32) (v5 : Int32) (v6 : Int32)  (μ : Mu) : Option (Int32 × Mu) := gF μ (pt + 5 + 1) 0 (fun x1 => (if x1 ≤ v6 then Dy_asks_127 a pt f1 v3 v5 μ else (if 16 ≤ v6 then Dy_asks_127 a pt f1 v3 v5 μ else ldA μ (pt + 5 + 1 + 3) 16 v6 (fun x2 => ldA μ (pt + 5 + 1 + 4) 16 v6 (fun x3 => ldA μ (pt + 5 + 1 + 1) 16 v6 (fun x4 => (if x4 = v3 then (if x2 = x3 then Dy_asks_97 a pt f1 v3 v6 x2 μ else cl (Lw_value (pt + 5 + 1) (a + 1) 10 x2 x3 μ) (fun x6 μ5 => (if x6 = 0 then Dy_asks_121 a pt f1 kb25 v3 v5 v6 μ5 else Dy_asks_97 a pt f1 v3 v6 x2 μ5))) else Dy_asks_121 a pt f1 kb25 v3 v5 v6 μ)))))))
def Dy_asks_25 (a pt f1 : Nat)  (v3 : Int32) (v5 : Int32) (fu : Nat) : Int32 → Mu → Option (Int32 × Mu) := lp (fun kb => Dy_asks_25b a pt f1  kb v3 v5) (fun _ _ => none) fu
def Dy_asks (a pt f1 : Nat) (v2 : Int32) (v3 : Int32) (μ : Mu) : Option (Int32 × Mu) := cl (Dy_readWords a pt f1 v2 μ) (fun _ μ1 => cl (Dy_usual a pt v3 μ1) (fun x3 μ2 => Dy_asks_25 a pt f1 v3 x3 FU 0 μ2))
set_option maxRecDepth 100000 in
set_option maxHeartbeats 4000000 in
theorem jDy_asks_155 {X : Cx} {l : Launch} {G : Gx} {y : Ly} {a pt f1 : Nat} (hL : LyDy y a pt) (hf1 : LyFg y f1 ) (hX : Ok X l G prog_2_method_11_code 9 (some .int) "SaltFigures$Days")  (v5 : Int32) (s0 : Int32)   (μ : Mu) : J X G 9 4 y (emy y) rvI tpT 155 [(5, .int v5)] [.int s0] (μ, y) (Dy_asks_155 a pt f1   v5 s0 μ) := by
  unfold Dy_asks_155
  refine J_istore (pc := 155) [(6, .int s0), (5, .int v5)] hX (by decide +kernel) (by decide) rfl ?_
  refine J_iconst (pc := 157) (n := 0) (v := 0) hX (by decide +kernel) (by decide +kernel) ?_
  refine J_iload (pc := 158) 0 hX (by decide +kernel) rfl ?_
  refine J_iload (pc := 160) 1 hX (by decide +kernel) rfl ?_
  refine J_mmin (pc := 162) (idx := 128) hX (by decide +kernel) (mq mt_3 0 (by decide +kernel)) (Nat.le_of_ble_eq_true rfl) (Nat.le_of_ble_eq_true rfl) ?_
  refine J_mmax (pc := 165) (idx := 170) hX (by decide +kernel) (mq mt_3 1 (by decide +kernel)) (Nat.le_of_ble_eq_true rfl) (Nat.le_of_ble_eq_true rfl) ?_
  exact J_iret (pc := 168) hX (by decide +kernel) rfl trivial
set_option maxRecDepth 100000 in
set_option maxHeartbeats 4000000 in
theorem jDy_asks_127 {X : Cx} {l : Launch} {G : Gx} {y : Ly} {a pt f1 : Nat} (hL : LyDy y a pt) (hf1 : LyFg y f1 ) (hX : Ok X l G prog_2_method_11_code 9 (some .int) "SaltFigures$Days")  (v3 : Int32) (v5 : Int32)    (μ : Mu) : J X G 9 4 y (emy y) rvI tpT 127 [(0, .ref (G.1 + a)), (3, .int v3), (5, .int v5)] [] (μ, y) (Dy_asks_127 a pt f1   v3 v5  μ) := by
  unfold Dy_asks_127
  refine J_iload_n (k0 := 3) (pc := 127) 1 hX (by decide +kernel) rfl rfl ?_
  refine J_iconst (pc := 128) (n := 1) (v := 1) hX (by decide +kernel) (by decide +kernel) ?_
  refine J_icmp_ne (pc := 129) (off := 9) (tgt := 138) hX (by decide +kernel) (by decide +kernel) (fun _ => ?_) (fun _ => ?_)
  · refine J_iload_n (k0 := 3) (pc := 138) 1 hX (by decide +kernel) rfl rfl ?_
    refine J_iconst (pc := 139) (n := 2) (v := 2) hX (by decide +kernel) (by decide +kernel) ?_
    refine J_icmp_ne (pc := 140) (off := 9) (tgt := 149) hX (by decide +kernel) (by decide +kernel) (fun _ => ?_) (fun _ => ?_)
    · refine J_aload_n (k0 := 0) (pc := 149) 0 hX (by decide +kernel) rfl rfl ?_
      refine J_gr (pc := 150) hX (by decide +kernel) fl_Dy_9 hL.1 rfl hL.2.2.2.1.1 ?_
      refine J_iconst (pc := 153) (n := 1) (v := 1) hX (by decide +kernel) (by decide +kernel) ?_
      refine J_ldA (pc := 154) hX (by decide +kernel) hL.2.2.2.1.2 (fun x1 => ?_)
      exact J_sub [2] _ rfl (jDy_asks_155 hL hf1 hX v5 x1 μ)
    · refine J_sipush (pc := 143) (n := 999) (v := 999) hX (by decide +kernel) (by decide +kernel) ?_
      refine J_goto (pc := 146) (off := 9) (tgt := 155) hX (by decide +kernel) (by decide +kernel) ?_
      exact J_sub [2] _ rfl (jDy_asks_155 hL hf1 hX v5 999 μ)
  · refine J_sipush (pc := 132) (n := 1000) (v := 1000) hX (by decide +kernel) (by decide +kernel) ?_
    refine J_goto (pc := 135) (off := 20) (tgt := 155) hX (by decide +kernel) (by decide +kernel) ?_
    exact J_sub [2] _ rfl (jDy_asks_155 hL hf1 hX v5 1000 μ)
set_option maxRecDepth 100000 in
set_option maxHeartbeats 4000000 in
theorem jDy_asks_121 {X : Cx} {l : Launch} {G : Gx} {y : Ly} {a pt f1 : Nat} (hL : LyDy y a pt) (hf1 : LyFg y f1 ) (hX : Ok X l G prog_2_method_11_code 9 (some .int) "SaltFigures$Days")  (v3 : Int32) (v5 : Int32) (v6 : Int32)  {kb25 : Int32 → Mu → Option (Int32 × Mu)} (hk25 : ∀ (v6 : Int32) (μ : Mu), J X G 9 4 y (emy y) rvI tpT 25 [(0, .ref (G.1 + a)), (3, .int v3), (4, .ref (G.1 + (pt + 5 + 1))), (5, .int v5), (6, .int v6)] [] (μ, y) (kb25 v6 μ)) (μ : Mu) : J X G 9 4 y (emy y) rvI tpT 121 [(0, .ref (G.1 + a)), (3, .int v3), (4, .ref (G.1 + (pt + 5 + 1))), (5, .int v5), (6, .int v6)] [] (μ, y) (Dy_asks_121 a pt f1 kb25  v3 v5 v6  μ) := by
  unfold Dy_asks_121
  refine J_iinc (pc := 121) (n := 1) 4 [(6, .int (v6 + 1)), (0, .ref (G.1 + a)), (3, .int v3), (4, .ref (G.1 + (pt + 5 + 1))), (5, .int v5)] hX (by decide +kernel) rfl rfl (by decide) rfl ?_
  refine J_goto (pc := 124) (off := -99) (tgt := 25) hX (by decide +kernel) (by decide +kernel) ?_
  exact J_sub [1, 2, 3, 4, 0] _ rfl (hk25 (v6 + 1) μ)
set_option maxRecDepth 100000 in
set_option maxHeartbeats 4000000 in
theorem jDy_asks_97 {X : Cx} {l : Launch} {G : Gx} {y : Ly} {a pt f1 : Nat} (hL : LyDy y a pt) (hf1 : LyFg y f1 ) (hX : Ok X l G prog_2_method_11_code 9 (some .int) "SaltFigures$Days")  (v3 : Int32) (v6 : Int32) (v7 : Int32)    (μ : Mu) : J X G 9 4 y (emy y) rvI tpT 97 [(0, .ref (G.1 + a)), (3, .int v3), (4, .ref (G.1 + (pt + 5 + 1))), (6, .int v6), (7, .int v7)] [] (μ, y) (Dy_asks_97 a pt f1   v3 v6 v7  μ) := by
  unfold Dy_asks_97
  refine J_aload (pc := 97) 2 hX (by decide +kernel) rfl ?_
  refine J_aload (pc := 99) 2 hX (by decide +kernel) rfl ?_
  refine J_gr (pc := 101) hX (by decide +kernel) fl_Dy_167 hL.2.2.1.2.2.1.2.1 rfl hL.2.2.1.2.2.1.2.2.2.1.1 ?_
  refine J_iload (pc := 104) 3 hX (by decide +kernel) rfl ?_
  refine J_ldA (pc := 106) hX (by decide +kernel) hL.2.2.1.2.2.1.2.2.2.1.2 (fun x1 => ?_)
  refine J_iload (pc := 107) 4 hX (by decide +kernel) rfl ?_
  refine J_aload_n (k0 := 0) (pc := 109) 0 hX (by decide +kernel) rfl rfl ?_
  refine J_gr (pc := 110) hX (by decide +kernel) fl_Dy_9 hL.1 rfl hL.2.2.2.1.1 ?_
  refine J_cVi (pc := 113) (idx := 163) [.int x1, .int v7, .ref (G.1 + (a + 1))] hX (by decide +kernel) (mq mt_2 229 (by decide +kernel)) mv_Lw_value hL.2.2.1.2.2.1.2.1 rfl rfl (Nat.le_of_ble_eq_true rfl) (Nat.le_of_ble_eq_true rfl) (c_Lw_value hL.2.2.1.2.2.1.2 hL.2.2.2.1.2 x1 v7 μ) (fun x3 μ2 => ?_)
  refine J_istore (pc := 116) [(5, .int x3), (0, .ref (G.1 + a)), (3, .int v3), (4, .ref (G.1 + (pt + 5 + 1))), (6, .int v6), (7, .int v7)] hX (by decide +kernel) (by decide) rfl ?_
  refine J_goto (pc := 118) (off := 9) (tgt := 127) hX (by decide +kernel) (by decide +kernel) ?_
  exact J_sub [1, 2, 0] _ rfl (jDy_asks_127 hL hf1 hX v3 x3 μ2)
set_option maxRecDepth 100000 in
set_option maxHeartbeats 4000000 in
theorem jDy_asks_25b {X : Cx} {l : Launch} {G : Gx} {y : Ly} {a pt f1 : Nat} (hL : LyDy y a pt) (hf1 : LyFg y f1 ) (hX : Ok X l G prog_2_method_11_code 9 (some .int) "SaltFigures$Days") (v3 : Int32) (v5 : Int32)  {kb25 : Int32 → Mu → Option (Int32 × Mu)}  (hk25 : ∀ (v6 : Int32) (μ : Mu), J X G 9 4 y (emy y) rvI tpT 25 [(0, .ref (G.1 + a)), (3, .int v3), (4, .ref (G.1 + (pt + 5 + 1))), (5, .int v5), (6, .int v6)] [] (μ, y) (kb25 v6 μ)) (v6 : Int32)  (μ : Mu) : J X G 9 4 y (emy y) rvI tpT 25 [(0, .ref (G.1 + a)), (3, .int v3), (4, .ref (G.1 + (pt + 5 + 1))), (5, .int v5), (6, .int v6)] [] (μ, y) (Dy_asks_25b a pt f1  kb25 v3 v5 v6  μ) := by
  unfold Dy_asks_25b
  refine J_iload (pc := 25) 4 hX (by decide +kernel) rfl ?_
  refine J_aload (pc := 27) 2 hX (by decide +kernel) rfl ?_
  refine J_gF (pc := 29) hX (by decide +kernel) fl_Dy_149 hL.2.2.1.2.2.1.2.1 rfl (fun x1 => ?_)
  refine J_icmp_ge (pc := 32) (off := 95) (tgt := 127) hX (by decide +kernel) (by decide +kernel) (fun _ => ?_) (fun _ => ?_)
  · exact J_sub [0, 1, 3] _ rfl (jDy_asks_127 hL hf1 hX v3 v5 μ)
  · refine J_iload (pc := 35) 4 hX (by decide +kernel) rfl ?_
    refine J_bipush (pc := 37) (n := 16) (v := 16) hX (by decide +kernel) (by decide +kernel) ?_
    refine J_icmp_ge (pc := 39) (off := 88) (tgt := 127) hX (by decide +kernel) (by decide +kernel) (fun _ => ?_) (fun _ => ?_)
    · exact J_sub [0, 1, 3] _ rfl (jDy_asks_127 hL hf1 hX v3 v5 μ)
    · refine J_aload (pc := 42) 2 hX (by decide +kernel) rfl ?_
      refine J_gr (pc := 44) hX (by decide +kernel) fl_Dy_154 hL.2.2.1.2.2.1.2.1 rfl hL.2.2.1.2.2.1.2.2.2.2.1.1 ?_
      refine J_iload (pc := 47) 4 hX (by decide +kernel) rfl ?_
      refine J_ldA (pc := 49) hX (by decide +kernel) hL.2.2.1.2.2.1.2.2.2.2.1.2 (fun x2 => ?_)
      refine J_istore (pc := 50) [(7, .int x2), (0, .ref (G.1 + a)), (3, .int v3), (4, .ref (G.1 + (pt + 5 + 1))), (5, .int v5), (6, .int v6)] hX (by decide +kernel) (by decide) rfl ?_
      refine J_aload (pc := 52) 3 hX (by decide +kernel) rfl ?_
      refine J_gr (pc := 54) hX (by decide +kernel) fl_Dy_157 hL.2.2.1.2.2.1.2.1 rfl hL.2.2.1.2.2.1.2.2.2.2.2.1.1 ?_
      refine J_iload (pc := 57) 5 hX (by decide +kernel) rfl ?_
      refine J_ldA (pc := 59) hX (by decide +kernel) hL.2.2.1.2.2.1.2.2.2.2.2.1.2 (fun x3 => ?_)
      refine J_istore (pc := 60) [(8, .int x3), (7, .int x2), (0, .ref (G.1 + a)), (3, .int v3), (4, .ref (G.1 + (pt + 5 + 1))), (5, .int v5), (6, .int v6)] hX (by decide +kernel) (by decide) rfl ?_
      refine J_aload (pc := 62) 4 hX (by decide +kernel) rfl ?_
      refine J_gr (pc := 64) hX (by decide +kernel) fl_Dy_160 hL.2.2.1.2.2.1.2.1 rfl hL.2.2.1.2.2.1.2.2.1.1 ?_
      refine J_iload (pc := 67) 6 hX (by decide +kernel) rfl ?_
      refine J_ldA (pc := 69) hX (by decide +kernel) hL.2.2.1.2.2.1.2.2.1.2 (fun x4 => ?_)
      refine J_iload_n (k0 := 3) (pc := 70) 3 hX (by decide +kernel) rfl rfl ?_
      refine J_icmp_ne (pc := 71) (off := 50) (tgt := 121) hX (by decide +kernel) (by decide +kernel) (fun _ => ?_) (fun _ => ?_)
      · exact J_sub [2, 3, 4, 5, 6] _ rfl (jDy_asks_121 hL hf1 hX v3 v5 v6 hk25 μ)
      · refine J_iload (pc := 74) 1 hX (by decide +kernel) rfl ?_
        refine J_iload (pc := 76) 0 hX (by decide +kernel) rfl ?_
        refine J_icmp_eq (pc := 78) (off := 19) (tgt := 97) hX (by decide +kernel) (by decide +kernel) (fun _ => ?_) (fun _ => ?_)
        · exact J_sub [2, 3, 4, 6, 1] _ rfl (jDy_asks_97 hL hf1 hX v3 v6 x2 μ)
        · refine J_aload (pc := 81) 4 hX (by decide +kernel) rfl ?_
          refine J_iload (pc := 83) 1 hX (by decide +kernel) rfl ?_
          refine J_iload (pc := 85) 0 hX (by decide +kernel) rfl ?_
          refine J_aload_n (k0 := 0) (pc := 87) 2 hX (by decide +kernel) rfl rfl ?_
          refine J_gr (pc := 88) hX (by decide +kernel) fl_Dy_9 hL.1 rfl hL.2.2.2.1.1 ?_
          refine J_cVi (pc := 91) (idx := 163) [.int x2, .int x3, .ref (G.1 + (a + 1))] hX (by decide +kernel) (mq mt_2 229 (by decide +kernel)) mv_Lw_value hL.2.2.1.2.2.1.2.1 rfl rfl (Nat.le_of_ble_eq_true rfl) (Nat.le_of_ble_eq_true rfl) (c_Lw_value hL.2.2.1.2.2.1.2 hL.2.2.2.1.2 x2 x3 μ) (fun x6 μ5 => ?_)
          refine J_if_eq (pc := 94) (off := 27) (tgt := 121) hX (by decide +kernel) (by decide +kernel) (fun _ => ?_) (fun _ => ?_)
          · exact J_sub [2, 3, 4, 5, 6] _ rfl (jDy_asks_121 hL hf1 hX v3 v5 v6 hk25 μ5)
          · exact J_sub [2, 3, 4, 6, 1] _ rfl (jDy_asks_97 hL hf1 hX v3 v6 x2 μ5)
set_option maxRecDepth 100000 in
set_option maxHeartbeats 4000000 in
theorem jDy_asks_25 {X : Cx} {l : Launch} {G : Gx} {y : Ly} {a pt f1 : Nat} (hL : LyDy y a pt) (hf1 : LyFg y f1 ) (hX : Ok X l G prog_2_method_11_code 9 (some .int) "SaltFigures$Days") (v3 : Int32) (v5 : Int32)   : ∀ (fu : Nat) (v6 : Int32) (μ : Mu), J X G 9 4 y (emy y) rvI tpT 25 [(0, .ref (G.1 + a)), (3, .int v3), (4, .ref (G.1 + (pt + 5 + 1))), (5, .int v5), (6, .int v6)] [] (μ, y) (Dy_asks_25 a pt f1  v3 v5 fu v6 μ) := by
  intro fu
  induction fu with
  | zero => intros; exact J_none
  | succ fu ih => intro v6 μ; exact jDy_asks_25b hL hf1 hX v3 v5  ih v6 μ
set_option maxRecDepth 100000 in
set_option maxHeartbeats 4000000 in
theorem jDy_asks {X : Cx} {l : Launch} {G : Gx} {y : Ly} {a pt f1 : Nat} (hL : LyDy y a pt) (hf1 : LyFg y f1 ) (hX : Ok X l G prog_2_method_11_code 9 (some .int) "SaltFigures$Days") (v2 : Int32) (v3 : Int32) (μ : Mu) : J X G 9 4 y (emy y) rvI tpT 0 [(0, .ref (G.1 + a)), (1, .ref (G.1 + f1)), (2, .int v2), (3, .int v3)] [] (μ, y) (Dy_asks a pt f1 v2 v3 μ) := by
  unfold Dy_asks
  refine J_aload_n (k0 := 0) (pc := 0) 0 hX (by decide +kernel) rfl rfl ?_
  refine J_aload_n (k0 := 1) (pc := 1) 1 hX (by decide +kernel) rfl rfl ?_
  refine J_iload_n (k0 := 2) (pc := 2) 2 hX (by decide +kernel) rfl rfl ?_
  refine J_cVv (pc := 3) (idx := 139) [.ref (G.1 + f1), .int v2] hX (by decide +kernel) (mq mt_2 215 (by decide +kernel)) mv_Dy_readWords hL.1 rfl rfl (Nat.le_of_ble_eq_true rfl) (Nat.le_of_ble_eq_true rfl) (c_Dy_readWords hL hf1 v2 μ) (fun μ1 => ?_)
  refine J_aload_n (k0 := 0) (pc := 6) 0 hX (by decide +kernel) rfl rfl ?_
  refine J_gr (pc := 7) hX (by decide +kernel) fl_Dy_28 hL.1 rfl hL.2.2.1.1 ?_
  refine J_gr (pc := 10) hX (by decide +kernel) fl_Dy_142 hL.2.2.1.2.1 rfl hL.2.2.1.2.2.1.1 ?_
  refine J_astore (pc := 13) [(4, .ref (G.1 + (pt + 5 + 1))), (0, .ref (G.1 + a)), (1, .ref (G.1 + f1)), (2, .int v2), (3, .int v3)] hX (by decide +kernel) (by decide) rfl ?_
  refine J_aload_n (k0 := 0) (pc := 15) 1 hX (by decide +kernel) rfl rfl ?_
  refine J_iload_n (k0 := 3) (pc := 16) 4 hX (by decide +kernel) rfl rfl ?_
  refine J_cVi (pc := 17) (idx := 146) [.int v3] hX (by decide +kernel) (mq mt_2 225 (by decide +kernel)) mv_Dy_usual hL.1 rfl rfl (Nat.le_of_ble_eq_true rfl) (Nat.le_of_ble_eq_true rfl) (c_Dy_usual hL v3 μ1) (fun x3 μ2 => ?_)
  refine J_istore (pc := 20) [(5, .int x3), (4, .ref (G.1 + (pt + 5 + 1))), (0, .ref (G.1 + a)), (1, .ref (G.1 + f1)), (2, .int v2), (3, .int v3)] hX (by decide +kernel) (by decide) rfl ?_
  refine J_iconst (pc := 22) (n := 0) (v := 0) hX (by decide +kernel) (by decide +kernel) ?_
  refine J_istore (pc := 23) [(6, .int 0), (5, .int x3), (4, .ref (G.1 + (pt + 5 + 1))), (0, .ref (G.1 + a)), (1, .ref (G.1 + f1)), (2, .int v2), (3, .int v3)] hX (by decide +kernel) (by decide) rfl ?_
  exact J_sub [3, 6, 2, 1, 0] _ rfl (jDy_asks_25 hL hf1 hX v3 x3 FU 0 μ2)
set_option maxRecDepth 100000 in
set_option maxHeartbeats 4000000 in
theorem c_Dy_asks {l : Launch} {G : Gx} {y : Ly} {a pt f1 : Nat} (hL : LyDy y a pt) (hf1 : LyFg y f1 ) (v2 : Int32) (v3 : Int32) (μ : Mu) : Cn l G ⟨"SaltFigures$Days", "asks", "(LSaltFigures$Figures;II)I"⟩ prog_2_method_11_code 9 (some .int) 4 [.ref (G.1 + a), .ref (G.1 + f1), .int v2, .int v3] (μ, y) (emy y) rvI tpT (Dy_asks a pt f1 v2 v3 μ) := cn_of (by decide +kernel) (Nat.le_of_ble_eq_true rfl) (fun _ _ _ => ⟨List.prefix_refl _, trivial⟩) (fun X hX _ => jDy_asks hL hf1 hX v2 v3 μ)

def Fg_pour (a : Nat) (v1 : Int32) (v2 : Int32) (μ : Mu) : Option (Int32 × Mu) := cl (Fg_get a v1 1 μ) (fun x2 μ1 => cl (Fg_add a v1 1 (jmin v2 (9999 - x2)) μ1) (fun _ μ3 => gF μ3 a 6 (fun x4 => pF μ3 a 6 (x4 + (v2 - (jmin v2 (9999 - x2)))) (fun μ5 => some (jmin v2 (9999 - x2), μ5)))))
set_option maxRecDepth 100000 in
set_option maxHeartbeats 4000000 in
theorem jFg_pour {X : Cx} {l : Launch} {G : Gx} {y : Ly} {a : Nat} (hL : LyFg y a ) (hX : Ok X l G prog_3_method_16_code 4 (some .int) "SaltFigures$Figures") (v1 : Int32) (v2 : Int32) (μ : Mu) : J X G 4 3 y (emy y) rvI tpT 0 [(0, .ref (G.1 + a)), (1, .int v1), (2, .int v2)] [] (μ, y) (Fg_pour a v1 v2 μ) := by
  unfold Fg_pour
  refine J_iload_n (k0 := 2) (pc := 0) 2 hX (by decide +kernel) rfl rfl ?_
  refine J_sipush (pc := 1) (n := 9999) (v := 9999) hX (by decide +kernel) (by decide +kernel) ?_
  refine J_aload_n (k0 := 0) (pc := 4) 0 hX (by decide +kernel) rfl rfl ?_
  refine J_iload_n (k0 := 1) (pc := 5) 1 hX (by decide +kernel) rfl rfl ?_
  refine J_iconst (pc := 6) (n := 1) (v := 1) hX (by decide +kernel) (by decide +kernel) ?_
  refine J_cVi (pc := 7) (idx := 60) [.int v1, .int 1] hX (by decide +kernel) (mq mt_2 167 (by decide +kernel)) mv_Fg_get hL.1 rfl rfl (Nat.le_of_ble_eq_true rfl) (Nat.le_of_ble_eq_true rfl) (c_Fg_get hL v1 1 μ) (fun x2 μ1 => ?_)
  refine J_isub (pc := 10) hX (by decide +kernel) ?_
  refine J_mmin (pc := 11) (idx := 80) hX (by decide +kernel) (mq mt_3 6 (by decide +kernel)) (Nat.le_of_ble_eq_true rfl) (Nat.le_of_ble_eq_true rfl) ?_
  refine J_istore_n (k0 := 3) (pc := 14) [(3, .int (jmin v2 (9999 - x2))), (0, .ref (G.1 + a)), (1, .int v1), (2, .int v2)] hX (by decide +kernel) rfl (by decide) rfl ?_
  refine J_aload_n (k0 := 0) (pc := 15) 1 hX (by decide +kernel) rfl rfl ?_
  refine J_iload_n (k0 := 1) (pc := 16) 2 hX (by decide +kernel) rfl rfl ?_
  refine J_iconst (pc := 17) (n := 1) (v := 1) hX (by decide +kernel) (by decide +kernel) ?_
  refine J_iload_n (k0 := 3) (pc := 18) 0 hX (by decide +kernel) rfl rfl ?_
  refine J_cVv (pc := 19) (idx := 85) [.int v1, .int 1, .int (jmin v2 (9999 - x2))] hX (by decide +kernel) (mq mt_3 7 (by decide +kernel)) mv_Fg_add hL.1 rfl rfl (Nat.le_of_ble_eq_true rfl) (Nat.le_of_ble_eq_true rfl) (c_Fg_add hL v1 1 (jmin v2 (9999 - x2)) μ1) (fun μ3 => ?_)
  refine J_aload_n (k0 := 0) (pc := 22) 1 hX (by decide +kernel) rfl rfl ?_
  refine J_dup (pc := 23) hX (by decide +kernel) rfl ?_
  refine J_gF (pc := 24) hX (by decide +kernel) fl_Fg_44 hL.1 rfl (fun x4 => ?_)
  refine J_iload_n (k0 := 2) (pc := 27) 3 hX (by decide +kernel) rfl rfl ?_
  refine J_iload_n (k0 := 3) (pc := 28) 0 hX (by decide +kernel) rfl rfl ?_
  refine J_isub (pc := 29) hX (by decide +kernel) ?_
  refine J_iadd (pc := 30) hX (by decide +kernel) ?_
  refine J_pF (pc := 31) hX (by decide +kernel) fl_Fg_44 hL.1 rfl (fun μ5 => ?_)
  refine J_iload_n (k0 := 3) (pc := 34) 0 hX (by decide +kernel) rfl rfl ?_
  exact J_iret (pc := 35) hX (by decide +kernel) rfl trivial
set_option maxRecDepth 100000 in
set_option maxHeartbeats 4000000 in
theorem c_Fg_pour {l : Launch} {G : Gx} {y : Ly} {a : Nat} (hL : LyFg y a ) (v1 : Int32) (v2 : Int32) (μ : Mu) : Cn l G ⟨"SaltFigures$Figures", "pour", "(II)I"⟩ prog_3_method_16_code 4 (some .int) 3 [.ref (G.1 + a), .int v1, .int v2] (μ, y) (emy y) rvI tpT (Fg_pour a v1 v2 μ) := cn_of (by decide +kernel) (Nat.le_of_ble_eq_true rfl) (fun _ _ _ => ⟨List.prefix_refl _, trivial⟩) (fun X hX _ => jFg_pour hL hX v1 v2 μ)

def Pt_note (a f1 : Nat) (v2 : Int32) (v3 : Int32) (v4 : Int32) (μ : Mu) : Option (Unit × Mu) := gF μ f1 0 (fun x1 => (if x1 = 0 then gF μ f1 9 (fun x2 => (if x2 < 0 then some ((), μ) else gF μ f1 9 (fun x3 => (if x3 < 150 then gF μ f1 9 (fun x4 => gF μ f1 7 (fun x5 => stA μ (a + 4) 600 (x4 * 4) x5 (fun μ6 => stA μ6 (a + 4) 600 ((x4 * 4) + 1) v2 (fun μ7 => stA μ7 (a + 4) 600 ((x4 * 4) + 2) v3 (fun μ8 => stA μ8 (a + 4) 600 ((x4 * 4) + 3) v4 (fun μ9 => gF μ9 f1 9 (fun x10 => pF μ9 f1 9 (x10 + 1) (fun μ11 => some ((), μ11))))))))) else some ((), μ))))) else some ((), μ)))
set_option maxRecDepth 100000 in
set_option maxHeartbeats 4000000 in
theorem jPt_note {X : Cx} {l : Launch} {G : Gx} {y : Ly} {a f1 : Nat} (hL : LyPt y a ) (hf1 : LyFg y f1 ) (hX : Ok X l G prog_5_method_3_code 6 none "SaltFigures$Port") (v2 : Int32) (v3 : Int32) (v4 : Int32) (μ : Mu) : J X G 6 1 y (emy y) rvV tpT 0 [(0, .ref (G.1 + a)), (1, .ref (G.1 + f1)), (2, .int v2), (3, .int v3), (4, .int v4)] [] (μ, y) (Pt_note a f1 v2 v3 v4 μ) := by
  unfold Pt_note
  refine J_aload_n (k0 := 1) (pc := 0) 1 hX (by decide +kernel) rfl rfl ?_
  refine J_gF (pc := 1) hX (by decide +kernel) fl_Pt_54 hf1.1 rfl (fun x1 => ?_)
  refine J_if_ne (pc := 4) (off := 20) (tgt := 24) hX (by decide +kernel) (by decide +kernel) (fun _ => ?_) (fun _ => ?_)
  · exact J_vret (pc := 24) hX (by decide +kernel) rfl trivial
  · refine J_aload_n (k0 := 1) (pc := 7) 1 hX (by decide +kernel) rfl rfl ?_
    refine J_gF (pc := 8) hX (by decide +kernel) fl_Pt_58 hf1.1 rfl (fun x2 => ?_)
    refine J_if_lt (pc := 11) (off := 13) (tgt := 24) hX (by decide +kernel) (by decide +kernel) (fun _ => ?_) (fun _ => ?_)
    · exact J_vret (pc := 24) hX (by decide +kernel) rfl trivial
    · refine J_aload_n (k0 := 1) (pc := 14) 1 hX (by decide +kernel) rfl rfl ?_
      refine J_gF (pc := 15) hX (by decide +kernel) fl_Pt_58 hf1.1 rfl (fun x3 => ?_)
      refine J_sipush (pc := 18) (n := 150) (v := 150) hX (by decide +kernel) (by decide +kernel) ?_
      refine J_icmp_lt (pc := 21) (off := 4) (tgt := 25) hX (by decide +kernel) (by decide +kernel) (fun _ => ?_) (fun _ => ?_)
      · refine J_aload_n (k0 := 1) (pc := 25) 1 hX (by decide +kernel) rfl rfl ?_
        refine J_gF (pc := 26) hX (by decide +kernel) fl_Pt_58 hf1.1 rfl (fun x4 => ?_)
        refine J_iconst (pc := 29) (n := 4) (v := 4) hX (by decide +kernel) (by decide +kernel) ?_
        refine J_imul (pc := 30) hX (by decide +kernel) ?_
        refine J_istore (pc := 31) [(5, .int (x4 * 4)), (0, .ref (G.1 + a)), (1, .ref (G.1 + f1)), (2, .int v2), (3, .int v3), (4, .int v4)] hX (by decide +kernel) (by decide) rfl ?_
        refine J_aload_n (k0 := 0) (pc := 33) 1 hX (by decide +kernel) rfl rfl ?_
        refine J_gr (pc := 34) hX (by decide +kernel) fl_Pt_20 hL.1 rfl hL.2.2.1.1 ?_
        refine J_iload (pc := 37) 0 hX (by decide +kernel) rfl ?_
        refine J_aload_n (k0 := 1) (pc := 39) 2 hX (by decide +kernel) rfl rfl ?_
        refine J_gF (pc := 40) hX (by decide +kernel) fl_Pt_62 hf1.1 rfl (fun x5 => ?_)
        refine J_stA (pc := 43) hX (by decide +kernel) hL.2.2.1.2 (fun μ6 => ?_)
        refine J_aload_n (k0 := 0) (pc := 44) 1 hX (by decide +kernel) rfl rfl ?_
        refine J_gr (pc := 45) hX (by decide +kernel) fl_Pt_20 hL.1 rfl hL.2.2.1.1 ?_
        refine J_iload (pc := 48) 0 hX (by decide +kernel) rfl ?_
        refine J_iconst (pc := 50) (n := 1) (v := 1) hX (by decide +kernel) (by decide +kernel) ?_
        refine J_iadd (pc := 51) hX (by decide +kernel) ?_
        refine J_iload_n (k0 := 2) (pc := 52) 3 hX (by decide +kernel) rfl rfl ?_
        refine J_stA (pc := 53) hX (by decide +kernel) hL.2.2.1.2 (fun μ7 => ?_)
        refine J_aload_n (k0 := 0) (pc := 54) 1 hX (by decide +kernel) rfl rfl ?_
        refine J_gr (pc := 55) hX (by decide +kernel) fl_Pt_20 hL.1 rfl hL.2.2.1.1 ?_
        refine J_iload (pc := 58) 0 hX (by decide +kernel) rfl ?_
        refine J_iconst (pc := 60) (n := 2) (v := 2) hX (by decide +kernel) (by decide +kernel) ?_
        refine J_iadd (pc := 61) hX (by decide +kernel) ?_
        refine J_iload_n (k0 := 3) (pc := 62) 4 hX (by decide +kernel) rfl rfl ?_
        refine J_stA (pc := 63) hX (by decide +kernel) hL.2.2.1.2 (fun μ8 => ?_)
        refine J_aload_n (k0 := 0) (pc := 64) 1 hX (by decide +kernel) rfl rfl ?_
        refine J_gr (pc := 65) hX (by decide +kernel) fl_Pt_20 hL.1 rfl hL.2.2.1.1 ?_
        refine J_iload (pc := 68) 0 hX (by decide +kernel) rfl ?_
        refine J_iconst (pc := 70) (n := 3) (v := 3) hX (by decide +kernel) (by decide +kernel) ?_
        refine J_iadd (pc := 71) hX (by decide +kernel) ?_
        refine J_iload (pc := 72) 5 hX (by decide +kernel) rfl ?_
        refine J_stA (pc := 74) hX (by decide +kernel) hL.2.2.1.2 (fun μ9 => ?_)
        refine J_aload_n (k0 := 1) (pc := 75) 2 hX (by decide +kernel) rfl rfl ?_
        refine J_dup (pc := 76) hX (by decide +kernel) rfl ?_
        refine J_gF (pc := 77) hX (by decide +kernel) fl_Pt_58 hf1.1 rfl (fun x10 => ?_)
        refine J_iconst (pc := 80) (n := 1) (v := 1) hX (by decide +kernel) (by decide +kernel) ?_
        refine J_iadd (pc := 81) hX (by decide +kernel) ?_
        refine J_pF (pc := 82) hX (by decide +kernel) fl_Pt_58 hf1.1 rfl (fun μ11 => ?_)
        exact J_vret (pc := 85) hX (by decide +kernel) rfl trivial
      · exact J_vret (pc := 24) hX (by decide +kernel) rfl trivial
set_option maxRecDepth 100000 in
set_option maxHeartbeats 4000000 in
theorem c_Pt_note {l : Launch} {G : Gx} {y : Ly} {a f1 : Nat} (hL : LyPt y a ) (hf1 : LyFg y f1 ) (v2 : Int32) (v3 : Int32) (v4 : Int32) (μ : Mu) : Cn l G ⟨"SaltFigures$Port", "note", "(LSaltFigures$Figures;III)V"⟩ prog_5_method_3_code 6 none 1 [.ref (G.1 + a), .ref (G.1 + f1), .int v2, .int v3, .int v4] (μ, y) (emy y) rvV tpT (Pt_note a f1 v2 v3 v4 μ) := cn_of (by decide +kernel) (Nat.le_of_ble_eq_true rfl) (fun _ _ _ => ⟨List.prefix_refl _, trivial⟩) (fun X hX _ => jPt_note hL hf1 hX v2 v3 v4 μ)

def Dy_spill (a pt f1 : Nat) (v2 : Int32) (μ : Mu) : Option (Unit × Mu) := cl (Fg_add f1 v2 2 1 μ) (fun _ μ1 => cl (Dy_asks a pt f1 v2 2 μ1) (fun x3 μ2 => cl (Fg_add f1 v2 3 x3 μ2) (fun _ μ4 => cl (Fg_pour f1 v2 x3 μ4) (fun x6 μ5 => cl (Pt_note pt f1 0 v2 x3 μ5) (fun _ μ7 => some ((), μ7))))))
set_option maxRecDepth 100000 in
set_option maxHeartbeats 4000000 in
theorem jDy_spill {X : Cx} {l : Launch} {G : Gx} {y : Ly} {a pt f1 : Nat} (hL : LyDy y a pt) (hf1 : LyFg y f1 ) (hX : Ok X l G prog_2_method_5_code 4 none "SaltFigures$Days") (v2 : Int32) (μ : Mu) : J X G 4 5 y (emy y) rvV tpT 0 [(0, .ref (G.1 + a)), (1, .ref (G.1 + f1)), (2, .int v2)] [] (μ, y) (Dy_spill a pt f1 v2 μ) := by
  unfold Dy_spill
  refine J_aload_n (k0 := 1) (pc := 0) 1 hX (by decide +kernel) rfl rfl ?_
  refine J_iload_n (k0 := 2) (pc := 1) 2 hX (by decide +kernel) rfl rfl ?_
  refine J_iconst (pc := 2) (n := 2) (v := 2) hX (by decide +kernel) (by decide +kernel) ?_
  refine J_iconst (pc := 3) (n := 1) (v := 1) hX (by decide +kernel) (by decide +kernel) ?_
  refine J_cVv (pc := 4) (idx := 94) [.int v2, .int 2, .int 1] hX (by decide +kernel) (mq mt_2 207 (by decide +kernel)) mv_Fg_add hf1.1 rfl rfl (Nat.le_of_ble_eq_true rfl) (Nat.le_of_ble_eq_true rfl) (c_Fg_add hf1 v2 2 1 μ) (fun μ1 => ?_)
  refine J_aload_n (k0 := 0) (pc := 7) 0 hX (by decide +kernel) rfl rfl ?_
  refine J_aload_n (k0 := 1) (pc := 8) 1 hX (by decide +kernel) rfl rfl ?_
  refine J_iload_n (k0 := 2) (pc := 9) 2 hX (by decide +kernel) rfl rfl ?_
  refine J_iconst (pc := 10) (n := 2) (v := 2) hX (by decide +kernel) (by decide +kernel) ?_
  refine J_cVi (pc := 11) (idx := 43) [.ref (G.1 + f1), .int v2, .int 2] hX (by decide +kernel) (mq mt_2 211 (by decide +kernel)) mv_Dy_asks hL.1 rfl rfl (Nat.le_of_ble_eq_true rfl) (Nat.le_of_ble_eq_true rfl) (c_Dy_asks hL hf1 v2 2 μ1) (fun x3 μ2 => ?_)
  refine J_istore_n (k0 := 3) (pc := 14) [(3, .int x3), (0, .ref (G.1 + a)), (1, .ref (G.1 + f1)), (2, .int v2)] hX (by decide +kernel) rfl (by decide) rfl ?_
  refine J_aload_n (k0 := 1) (pc := 15) 2 hX (by decide +kernel) rfl rfl ?_
  refine J_iload_n (k0 := 2) (pc := 16) 3 hX (by decide +kernel) rfl rfl ?_
  refine J_iconst (pc := 17) (n := 3) (v := 3) hX (by decide +kernel) (by decide +kernel) ?_
  refine J_iload_n (k0 := 3) (pc := 18) 0 hX (by decide +kernel) rfl rfl ?_
  refine J_cVv (pc := 19) (idx := 94) [.int v2, .int 3, .int x3] hX (by decide +kernel) (mq mt_2 207 (by decide +kernel)) mv_Fg_add hf1.1 rfl rfl (Nat.le_of_ble_eq_true rfl) (Nat.le_of_ble_eq_true rfl) (c_Fg_add hf1 v2 3 x3 μ2) (fun μ4 => ?_)
  refine J_aload_n (k0 := 1) (pc := 22) 2 hX (by decide +kernel) rfl rfl ?_
  refine J_iload_n (k0 := 2) (pc := 23) 3 hX (by decide +kernel) rfl rfl ?_
  refine J_iload_n (k0 := 3) (pc := 24) 0 hX (by decide +kernel) rfl rfl ?_
  refine J_cVi (pc := 25) (idx := 97) [.int v2, .int x3] hX (by decide +kernel) (mq mt_3 2 (by decide +kernel)) mv_Fg_pour hf1.1 rfl rfl (Nat.le_of_ble_eq_true rfl) (Nat.le_of_ble_eq_true rfl) (c_Fg_pour hf1 v2 x3 μ4) (fun x6 μ5 => ?_)
  refine J_pop (pc := 28) hX (by decide +kernel) rfl ?_
  refine J_aload_n (k0 := 0) (pc := 29) 1 hX (by decide +kernel) rfl rfl ?_
  refine J_gr (pc := 30) hX (by decide +kernel) fl_Dy_18 hL.1 rfl hL.2.1.1 ?_
  refine J_aload_n (k0 := 1) (pc := 33) 2 hX (by decide +kernel) rfl rfl ?_
  refine J_iconst (pc := 34) (n := 0) (v := 0) hX (by decide +kernel) (by decide +kernel) ?_
  refine J_iload_n (k0 := 2) (pc := 35) 3 hX (by decide +kernel) rfl rfl ?_
  refine J_iload_n (k0 := 3) (pc := 36) 0 hX (by decide +kernel) rfl rfl ?_
  refine J_cVv (pc := 37) (idx := 100) [.ref (G.1 + f1), .int 0, .int v2, .int x3] hX (by decide +kernel) (mq mt_3 8 (by decide +kernel)) mv_Pt_note hL.2.1.2.1 rfl rfl (Nat.le_of_ble_eq_true rfl) (Nat.le_of_ble_eq_true rfl) (c_Pt_note hL.2.1.2 hf1 0 v2 x3 μ5) (fun μ7 => ?_)
  exact J_vret (pc := 40) hX (by decide +kernel) rfl trivial
set_option maxRecDepth 100000 in
set_option maxHeartbeats 4000000 in
theorem c_Dy_spill {l : Launch} {G : Gx} {y : Ly} {a pt f1 : Nat} (hL : LyDy y a pt) (hf1 : LyFg y f1 ) (v2 : Int32) (μ : Mu) : Cn l G ⟨"SaltFigures$Days", "spill", "(LSaltFigures$Figures;I)V"⟩ prog_2_method_5_code 4 none 5 [.ref (G.1 + a), .ref (G.1 + f1), .int v2] (μ, y) (emy y) rvV tpT (Dy_spill a pt f1 v2 μ) := cn_of (by decide +kernel) (Nat.le_of_ble_eq_true rfl) (fun _ _ _ => ⟨List.prefix_refl _, trivial⟩) (fun X hX _ => jDy_spill hL hf1 hX v2 μ)

def Dy_sweep (a pt f1 : Nat) (v2 : Int32) (μ : Mu) : Option (Unit × Mu) := cl (Fg_get f1 v2 1 μ) (fun x2 μ1 => gF μ1 f1 6 (fun x3 => pF μ1 f1 6 (x3 + x2) (fun μ4 => cl (Fg_put f1 v2 1 0 μ4) (fun _ μ5 => cl (Pt_note pt f1 4 v2 x2 μ5) (fun _ μ6 => some ((), μ6))))))
set_option maxRecDepth 100000 in
set_option maxHeartbeats 4000000 in
theorem jDy_sweep {X : Cx} {l : Launch} {G : Gx} {y : Ly} {a pt f1 : Nat} (hL : LyDy y a pt) (hf1 : LyFg y f1 ) (hX : Ok X l G prog_2_method_6_code 4 none "SaltFigures$Days") (v2 : Int32) (μ : Mu) : J X G 4 2 y (emy y) rvV tpT 0 [(0, .ref (G.1 + a)), (1, .ref (G.1 + f1)), (2, .int v2)] [] (μ, y) (Dy_sweep a pt f1 v2 μ) := by
  unfold Dy_sweep
  refine J_aload_n (k0 := 1) (pc := 0) 1 hX (by decide +kernel) rfl rfl ?_
  refine J_iload_n (k0 := 2) (pc := 1) 2 hX (by decide +kernel) rfl rfl ?_
  refine J_iconst (pc := 2) (n := 1) (v := 1) hX (by decide +kernel) (by decide +kernel) ?_
  refine J_cVi (pc := 3) (idx := 84) [.int v2, .int 1] hX (by decide +kernel) (mq mt_2 219 (by decide +kernel)) mv_Fg_get hf1.1 rfl rfl (Nat.le_of_ble_eq_true rfl) (Nat.le_of_ble_eq_true rfl) (c_Fg_get hf1 v2 1 μ) (fun x2 μ1 => ?_)
  refine J_istore_n (k0 := 3) (pc := 6) [(3, .int x2), (0, .ref (G.1 + a)), (1, .ref (G.1 + f1)), (2, .int v2)] hX (by decide +kernel) rfl (by decide) rfl ?_
  refine J_aload_n (k0 := 1) (pc := 7) 2 hX (by decide +kernel) rfl rfl ?_
  refine J_dup (pc := 8) hX (by decide +kernel) rfl ?_
  refine J_gF (pc := 9) hX (by decide +kernel) fl_Dy_104 hf1.1 rfl (fun x3 => ?_)
  refine J_iload_n (k0 := 3) (pc := 12) 0 hX (by decide +kernel) rfl rfl ?_
  refine J_iadd (pc := 13) hX (by decide +kernel) ?_
  refine J_pF (pc := 14) hX (by decide +kernel) fl_Dy_104 hf1.1 rfl (fun μ4 => ?_)
  refine J_aload_n (k0 := 1) (pc := 17) 2 hX (by decide +kernel) rfl rfl ?_
  refine J_iload_n (k0 := 2) (pc := 18) 3 hX (by decide +kernel) rfl rfl ?_
  refine J_iconst (pc := 19) (n := 1) (v := 1) hX (by decide +kernel) (by decide +kernel) ?_
  refine J_iconst (pc := 20) (n := 0) (v := 0) hX (by decide +kernel) (by decide +kernel) ?_
  refine J_cVv (pc := 21) (idx := 87) [.int v2, .int 1, .int 0] hX (by decide +kernel) (mq mt_3 24 (by decide +kernel)) mv_Fg_put hf1.1 rfl rfl (Nat.le_of_ble_eq_true rfl) (Nat.le_of_ble_eq_true rfl) (c_Fg_put hf1 v2 1 0 μ4) (fun μ5 => ?_)
  refine J_aload_n (k0 := 0) (pc := 24) 1 hX (by decide +kernel) rfl rfl ?_
  refine J_gr (pc := 25) hX (by decide +kernel) fl_Dy_18 hL.1 rfl hL.2.1.1 ?_
  refine J_aload_n (k0 := 1) (pc := 28) 2 hX (by decide +kernel) rfl rfl ?_
  refine J_iconst (pc := 29) (n := 4) (v := 4) hX (by decide +kernel) (by decide +kernel) ?_
  refine J_iload_n (k0 := 2) (pc := 30) 3 hX (by decide +kernel) rfl rfl ?_
  refine J_iload_n (k0 := 3) (pc := 31) 0 hX (by decide +kernel) rfl rfl ?_
  refine J_cVv (pc := 32) (idx := 100) [.ref (G.1 + f1), .int 4, .int v2, .int x2] hX (by decide +kernel) (mq mt_3 8 (by decide +kernel)) mv_Pt_note hL.2.1.2.1 rfl rfl (Nat.le_of_ble_eq_true rfl) (Nat.le_of_ble_eq_true rfl) (c_Pt_note hL.2.1.2 hf1 4 v2 x2 μ5) (fun μ6 => ?_)
  exact J_vret (pc := 35) hX (by decide +kernel) rfl trivial
set_option maxRecDepth 100000 in
set_option maxHeartbeats 4000000 in
theorem c_Dy_sweep {l : Launch} {G : Gx} {y : Ly} {a pt f1 : Nat} (hL : LyDy y a pt) (hf1 : LyFg y f1 ) (v2 : Int32) (μ : Mu) : Cn l G ⟨"SaltFigures$Days", "sweep", "(LSaltFigures$Figures;I)V"⟩ prog_2_method_6_code 4 none 2 [.ref (G.1 + a), .ref (G.1 + f1), .int v2] (μ, y) (emy y) rvV tpT (Dy_sweep a pt f1 v2 μ) := cn_of (by decide +kernel) (Nat.le_of_ble_eq_true rfl) (fun _ _ _ => ⟨List.prefix_refl _, trivial⟩) (fun X hX _ => jDy_sweep hL hf1 hX v2 μ)

def Tx_heirOf (a : Nat) (v1 : Int32) (μ : Mu) : Option (Int32 × Mu) := (if v1 < 0 then some ((-1), μ) else (if 16 ≤ v1 then some ((-1), μ) else ldA μ (a + 9) 16 v1 (fun x1 => some (x1, μ))))
set_option maxRecDepth 100000 in
set_option maxHeartbeats 4000000 in
theorem jTx_heirOf {X : Cx} {l : Launch} {G : Gx} {y : Ly} {a : Nat} (hL : LyTx y a ) (hX : Ok X l G prog_9_method_8_code 2 (some .int) "SaltFigures$Texts") (v1 : Int32) (μ : Mu) : J X G 2 1 y (emy y) rvI tpT 0 [(0, .ref (G.1 + a)), (1, .int v1)] [] (μ, y) (Tx_heirOf a v1 μ) := by
  unfold Tx_heirOf
  refine J_iload_n (k0 := 1) (pc := 0) 1 hX (by decide +kernel) rfl rfl ?_
  refine J_if_lt (pc := 1) (off := 18) (tgt := 19) hX (by decide +kernel) (by decide +kernel) (fun _ => ?_) (fun _ => ?_)
  · refine J_iconst (pc := 19) (n := -1) (v := (-1)) hX (by decide +kernel) (by decide +kernel) ?_
    exact J_iret (pc := 20) hX (by decide +kernel) rfl trivial
  · refine J_iload_n (k0 := 1) (pc := 4) 1 hX (by decide +kernel) rfl rfl ?_
    refine J_bipush (pc := 5) (n := 16) (v := 16) hX (by decide +kernel) (by decide +kernel) ?_
    refine J_icmp_ge (pc := 7) (off := 12) (tgt := 19) hX (by decide +kernel) (by decide +kernel) (fun _ => ?_) (fun _ => ?_)
    · refine J_iconst (pc := 19) (n := -1) (v := (-1)) hX (by decide +kernel) (by decide +kernel) ?_
      exact J_iret (pc := 20) hX (by decide +kernel) rfl trivial
    · refine J_aload_n (k0 := 0) (pc := 10) 0 hX (by decide +kernel) rfl rfl ?_
      refine J_gr (pc := 11) hX (by decide +kernel) fl_Tx_22 hL.1 rfl hL.2.2.2.1.1 ?_
      refine J_iload_n (k0 := 1) (pc := 14) 1 hX (by decide +kernel) rfl rfl ?_
      refine J_ldA (pc := 15) hX (by decide +kernel) hL.2.2.2.1.2 (fun x1 => ?_)
      refine J_goto (pc := 16) (off := 4) (tgt := 20) hX (by decide +kernel) (by decide +kernel) ?_
      exact J_iret (pc := 20) hX (by decide +kernel) rfl trivial
set_option maxRecDepth 100000 in
set_option maxHeartbeats 4000000 in
theorem c_Tx_heirOf {l : Launch} {G : Gx} {y : Ly} {a : Nat} (hL : LyTx y a ) (v1 : Int32) (μ : Mu) : Cn l G ⟨"SaltFigures$Texts", "heirOf", "(I)I"⟩ prog_9_method_8_code 2 (some .int) 1 [.ref (G.1 + a), .int v1] (μ, y) (emy y) rvI tpT (Tx_heirOf a v1 μ) := cn_of (by decide +kernel) (Nat.le_of_ble_eq_true rfl) (fun _ _ _ => ⟨List.prefix_refl _, trivial⟩) (fun X hX _ => jTx_heirOf hL hX v1 μ)

def Dy_die (a pt f1 : Nat) (v2 : Int32) (μ : Mu) : Option (Unit × Mu) := cl (Fg_isAlive f1 v2 μ) (fun x2 μ1 => (if x2 = 0 then some ((), μ1) else cl (Fg_get f1 v2 1 μ1) (fun x4 μ3 => cl (Tx_heirOf (pt + 5) v2 μ3) (fun x6 μ5 => cl (Fg_rise f1 v2 μ5) (fun _ μ7 => cl (Fg_put f1 v2 5 0 μ7) (fun _ μ8 => cl (Fg_put f1 v2 1 0 μ8) (fun _ μ9 => cl (Pt_note pt f1 5 v2 x4 μ9) (fun _ μ10 => cl (Fg_isAlive f1 x6 μ10) (fun x12 μ11 => (if x12 = 0 then gF μ11 f1 6 (fun x13 => pF μ11 f1 6 (x13 + x4) (fun μ14 => some ((), μ14))) else cl (Fg_pour f1 x6 x4 μ11) (fun x16 μ15 => cl (Pt_note pt f1 3 x6 x16 μ15) (fun _ μ17 => some ((), μ17)))))))))))))
set_option maxRecDepth 100000 in
set_option maxHeartbeats 4000000 in
theorem jDy_die {X : Cx} {l : Launch} {G : Gx} {y : Ly} {a pt f1 : Nat} (hL : LyDy y a pt) (hf1 : LyFg y f1 ) (hX : Ok X l G prog_2_method_7_code 5 none "SaltFigures$Days") (v2 : Int32) (μ : Mu) : J X G 5 4 y (emy y) rvV tpT 0 [(0, .ref (G.1 + a)), (1, .ref (G.1 + f1)), (2, .int v2)] [] (μ, y) (Dy_die a pt f1 v2 μ) := by
  unfold Dy_die
  refine J_aload_n (k0 := 1) (pc := 0) 1 hX (by decide +kernel) rfl rfl ?_
  refine J_iload_n (k0 := 2) (pc := 1) 2 hX (by decide +kernel) rfl rfl ?_
  refine J_cVi (pc := 2) (idx := 39) [.int v2] hX (by decide +kernel) (mq mt_3 29 (by decide +kernel)) mv_Fg_isAlive hf1.1 rfl rfl (Nat.le_of_ble_eq_true rfl) (Nat.le_of_ble_eq_true rfl) (c_Fg_isAlive hf1 v2 μ) (fun x2 μ1 => ?_)
  refine J_if_ne (pc := 5) (off := 4) (tgt := 9) hX (by decide +kernel) (by decide +kernel) (fun _ => ?_) (fun _ => ?_)
  · refine J_aload_n (k0 := 1) (pc := 9) 1 hX (by decide +kernel) rfl rfl ?_
    refine J_iload_n (k0 := 2) (pc := 10) 2 hX (by decide +kernel) rfl rfl ?_
    refine J_iconst (pc := 11) (n := 1) (v := 1) hX (by decide +kernel) (by decide +kernel) ?_
    refine J_cVi (pc := 12) (idx := 84) [.int v2, .int 1] hX (by decide +kernel) (mq mt_2 219 (by decide +kernel)) mv_Fg_get hf1.1 rfl rfl (Nat.le_of_ble_eq_true rfl) (Nat.le_of_ble_eq_true rfl) (c_Fg_get hf1 v2 1 μ1) (fun x4 μ3 => ?_)
    refine J_istore_n (k0 := 3) (pc := 15) [(3, .int x4), (0, .ref (G.1 + a)), (1, .ref (G.1 + f1)), (2, .int v2)] hX (by decide +kernel) rfl (by decide) rfl ?_
    refine J_aload_n (k0 := 0) (pc := 16) 1 hX (by decide +kernel) rfl rfl ?_
    refine J_gr (pc := 17) hX (by decide +kernel) fl_Dy_28 hL.1 rfl hL.2.2.1.1 ?_
    refine J_iload_n (k0 := 2) (pc := 20) 3 hX (by decide +kernel) rfl rfl ?_
    refine J_cVi (pc := 21) (idx := 107) [.int v2] hX (by decide +kernel) (mq mt_3 30 (by decide +kernel)) mv_Tx_heirOf hL.2.2.1.2.1 rfl rfl (Nat.le_of_ble_eq_true rfl) (Nat.le_of_ble_eq_true rfl) (c_Tx_heirOf hL.2.2.1.2 v2 μ3) (fun x6 μ5 => ?_)
    refine J_istore (pc := 24) [(4, .int x6), (3, .int x4), (0, .ref (G.1 + a)), (1, .ref (G.1 + f1)), (2, .int v2)] hX (by decide +kernel) (by decide) rfl ?_
    refine J_aload_n (k0 := 1) (pc := 26) 3 hX (by decide +kernel) rfl rfl ?_
    refine J_iload_n (k0 := 2) (pc := 27) 4 hX (by decide +kernel) rfl rfl ?_
    refine J_cVv (pc := 28) (idx := 110) [.int v2] hX (by decide +kernel) (mq mt_3 34 (by decide +kernel)) mv_Fg_rise hf1.1 rfl rfl (Nat.le_of_ble_eq_true rfl) (Nat.le_of_ble_eq_true rfl) (c_Fg_rise hf1 v2 μ5) (fun μ7 => ?_)
    refine J_aload_n (k0 := 1) (pc := 31) 3 hX (by decide +kernel) rfl rfl ?_
    refine J_iload_n (k0 := 2) (pc := 32) 4 hX (by decide +kernel) rfl rfl ?_
    refine J_iconst (pc := 33) (n := 5) (v := 5) hX (by decide +kernel) (by decide +kernel) ?_
    refine J_iconst (pc := 34) (n := 0) (v := 0) hX (by decide +kernel) (by decide +kernel) ?_
    refine J_cVv (pc := 35) (idx := 87) [.int v2, .int 5, .int 0] hX (by decide +kernel) (mq mt_3 24 (by decide +kernel)) mv_Fg_put hf1.1 rfl rfl (Nat.le_of_ble_eq_true rfl) (Nat.le_of_ble_eq_true rfl) (c_Fg_put hf1 v2 5 0 μ7) (fun μ8 => ?_)
    refine J_aload_n (k0 := 1) (pc := 38) 3 hX (by decide +kernel) rfl rfl ?_
    refine J_iload_n (k0 := 2) (pc := 39) 4 hX (by decide +kernel) rfl rfl ?_
    refine J_iconst (pc := 40) (n := 1) (v := 1) hX (by decide +kernel) (by decide +kernel) ?_
    refine J_iconst (pc := 41) (n := 0) (v := 0) hX (by decide +kernel) (by decide +kernel) ?_
    refine J_cVv (pc := 42) (idx := 87) [.int v2, .int 1, .int 0] hX (by decide +kernel) (mq mt_3 24 (by decide +kernel)) mv_Fg_put hf1.1 rfl rfl (Nat.le_of_ble_eq_true rfl) (Nat.le_of_ble_eq_true rfl) (c_Fg_put hf1 v2 1 0 μ8) (fun μ9 => ?_)
    refine J_aload_n (k0 := 0) (pc := 45) 2 hX (by decide +kernel) rfl rfl ?_
    refine J_gr (pc := 46) hX (by decide +kernel) fl_Dy_18 hL.1 rfl hL.2.1.1 ?_
    refine J_aload_n (k0 := 1) (pc := 49) 3 hX (by decide +kernel) rfl rfl ?_
    refine J_iconst (pc := 50) (n := 5) (v := 5) hX (by decide +kernel) (by decide +kernel) ?_
    refine J_iload_n (k0 := 2) (pc := 51) 4 hX (by decide +kernel) rfl rfl ?_
    refine J_iload_n (k0 := 3) (pc := 52) 1 hX (by decide +kernel) rfl rfl ?_
    refine J_cVv (pc := 53) (idx := 100) [.ref (G.1 + f1), .int 5, .int v2, .int x4] hX (by decide +kernel) (mq mt_3 8 (by decide +kernel)) mv_Pt_note hL.2.1.2.1 rfl rfl (Nat.le_of_ble_eq_true rfl) (Nat.le_of_ble_eq_true rfl) (c_Pt_note hL.2.1.2 hf1 5 v2 x4 μ9) (fun μ10 => ?_)
    refine J_aload_n (k0 := 1) (pc := 56) 3 hX (by decide +kernel) rfl rfl ?_
    refine J_iload (pc := 57) 0 hX (by decide +kernel) rfl ?_
    refine J_cVi (pc := 59) (idx := 39) [.int x6] hX (by decide +kernel) (mq mt_3 29 (by decide +kernel)) mv_Fg_isAlive hf1.1 rfl rfl (Nat.le_of_ble_eq_true rfl) (Nat.le_of_ble_eq_true rfl) (c_Fg_isAlive hf1 x6 μ10) (fun x12 μ11 => ?_)
    refine J_if_eq (pc := 62) (off := 24) (tgt := 86) hX (by decide +kernel) (by decide +kernel) (fun _ => ?_) (fun _ => ?_)
    · refine J_aload_n (k0 := 1) (pc := 86) 3 hX (by decide +kernel) rfl rfl ?_
      refine J_dup (pc := 87) hX (by decide +kernel) rfl ?_
      refine J_gF (pc := 88) hX (by decide +kernel) fl_Dy_104 hf1.1 rfl (fun x13 => ?_)
      refine J_iload_n (k0 := 3) (pc := 91) 1 hX (by decide +kernel) rfl rfl ?_
      refine J_iadd (pc := 92) hX (by decide +kernel) ?_
      refine J_pF (pc := 93) hX (by decide +kernel) fl_Dy_104 hf1.1 rfl (fun μ14 => ?_)
      exact J_vret (pc := 96) hX (by decide +kernel) rfl trivial
    · refine J_aload_n (k0 := 0) (pc := 65) 2 hX (by decide +kernel) rfl rfl ?_
      refine J_gr (pc := 66) hX (by decide +kernel) fl_Dy_18 hL.1 rfl hL.2.1.1 ?_
      refine J_aload_n (k0 := 1) (pc := 69) 3 hX (by decide +kernel) rfl rfl ?_
      refine J_iconst (pc := 70) (n := 3) (v := 3) hX (by decide +kernel) (by decide +kernel) ?_
      refine J_iload (pc := 71) 0 hX (by decide +kernel) rfl ?_
      refine J_aload_n (k0 := 1) (pc := 73) 3 hX (by decide +kernel) rfl rfl ?_
      refine J_iload (pc := 74) 0 hX (by decide +kernel) rfl ?_
      refine J_iload_n (k0 := 3) (pc := 76) 1 hX (by decide +kernel) rfl rfl ?_
      refine J_cVi (pc := 77) (idx := 97) [.int x6, .int x4] hX (by decide +kernel) (mq mt_3 2 (by decide +kernel)) mv_Fg_pour hf1.1 rfl rfl (Nat.le_of_ble_eq_true rfl) (Nat.le_of_ble_eq_true rfl) (c_Fg_pour hf1 x6 x4 μ11) (fun x16 μ15 => ?_)
      refine J_cVv (pc := 80) (idx := 100) [.ref (G.1 + f1), .int 3, .int x6, .int x16] hX (by decide +kernel) (mq mt_3 8 (by decide +kernel)) mv_Pt_note hL.2.1.2.1 rfl rfl (Nat.le_of_ble_eq_true rfl) (Nat.le_of_ble_eq_true rfl) (c_Pt_note hL.2.1.2 hf1 3 x6 x16 μ15) (fun μ17 => ?_)
      refine J_goto (pc := 83) (off := 13) (tgt := 96) hX (by decide +kernel) (by decide +kernel) ?_
      exact J_vret (pc := 96) hX (by decide +kernel) rfl trivial
  · exact J_vret (pc := 8) hX (by decide +kernel) rfl trivial
set_option maxRecDepth 100000 in
set_option maxHeartbeats 4000000 in
theorem c_Dy_die {l : Launch} {G : Gx} {y : Ly} {a pt f1 : Nat} (hL : LyDy y a pt) (hf1 : LyFg y f1 ) (v2 : Int32) (μ : Mu) : Cn l G ⟨"SaltFigures$Days", "die", "(LSaltFigures$Figures;I)V"⟩ prog_2_method_7_code 5 none 4 [.ref (G.1 + a), .ref (G.1 + f1), .int v2] (μ, y) (emy y) rvV tpT (Dy_die a pt f1 v2 μ) := cn_of (by decide +kernel) (Nat.le_of_ble_eq_true rfl) (fun _ _ _ => ⟨List.prefix_refl _, trivial⟩) (fun X hX _ => jDy_die hL hf1 hX v2 μ)

def Pt_bookAt_36 (a : Nat)   (v1 : Int32) (v2 : Int32) (s0 : Int32) (μ : Mu) : Option (Int32 × Mu) := (if s0 = 0 then some ((-1), μ) else ldA μ (a + 4) 600 ((v1 * 4) + v2) (fun x1 => some (x1, μ)))
def Pt_bookAt_35 (a : Nat)   (v1 : Int32) (v2 : Int32)  (μ : Mu) : Option (Int32 × Mu) := Pt_bookAt_36 a v1 v2 0 μ
def Pt_bookAt (a : Nat) (v1 : Int32) (v2 : Int32) (μ : Mu) : Option (Int32 × Mu) := (if v1 < 0 then Pt_bookAt_35 a v1 v2 μ else gF μ (a + 1) 9 (fun x1 => (if x1 ≤ v1 then Pt_bookAt_35 a v1 v2 μ else (if 150 ≤ v1 then Pt_bookAt_35 a v1 v2 μ else (if v2 < 0 then Pt_bookAt_35 a v1 v2 μ else (if 4 ≤ v2 then Pt_bookAt_35 a v1 v2 μ else Pt_bookAt_36 a v1 v2 1 μ))))))
set_option maxRecDepth 100000 in
set_option maxHeartbeats 4000000 in
theorem jPt_bookAt_36 {X : Cx} {l : Launch} {G : Gx} {y : Ly} {a : Nat} (hL : LyPt y a ) (hX : Ok X l G prog_5_method_4_code 4 (some .int) "SaltFigures$Port")  (v1 : Int32) (v2 : Int32) (s0 : Int32)   (μ : Mu) : J X G 4 1 y (emy y) rvI tpT 36 [(0, .ref (G.1 + a)), (1, .int v1), (2, .int v2)] [.int s0] (μ, y) (Pt_bookAt_36 a   v1 v2 s0 μ) := by
  unfold Pt_bookAt_36
  refine J_istore_n (k0 := 3) (pc := 36) [(3, .int s0), (0, .ref (G.1 + a)), (1, .int v1), (2, .int v2)] hX (by decide +kernel) rfl (by decide) rfl ?_
  refine J_iload_n (k0 := 3) (pc := 37) 0 hX (by decide +kernel) rfl rfl ?_
  refine J_if_eq (pc := 38) (off := 16) (tgt := 54) hX (by decide +kernel) (by decide +kernel) (fun _ => ?_) (fun _ => ?_)
  · refine J_iconst (pc := 54) (n := -1) (v := (-1)) hX (by decide +kernel) (by decide +kernel) ?_
    exact J_iret (pc := 55) hX (by decide +kernel) rfl trivial
  · refine J_aload_n (k0 := 0) (pc := 41) 1 hX (by decide +kernel) rfl rfl ?_
    refine J_gr (pc := 42) hX (by decide +kernel) fl_Pt_20 hL.1 rfl hL.2.2.1.1 ?_
    refine J_iload_n (k0 := 1) (pc := 45) 2 hX (by decide +kernel) rfl rfl ?_
    refine J_iconst (pc := 46) (n := 4) (v := 4) hX (by decide +kernel) (by decide +kernel) ?_
    refine J_imul (pc := 47) hX (by decide +kernel) ?_
    refine J_iload_n (k0 := 2) (pc := 48) 3 hX (by decide +kernel) rfl rfl ?_
    refine J_iadd (pc := 49) hX (by decide +kernel) ?_
    refine J_ldA (pc := 50) hX (by decide +kernel) hL.2.2.1.2 (fun x1 => ?_)
    refine J_goto (pc := 51) (off := 4) (tgt := 55) hX (by decide +kernel) (by decide +kernel) ?_
    exact J_iret (pc := 55) hX (by decide +kernel) rfl trivial
set_option maxRecDepth 100000 in
set_option maxHeartbeats 4000000 in
theorem jPt_bookAt_35 {X : Cx} {l : Launch} {G : Gx} {y : Ly} {a : Nat} (hL : LyPt y a ) (hX : Ok X l G prog_5_method_4_code 4 (some .int) "SaltFigures$Port")  (v1 : Int32) (v2 : Int32)    (μ : Mu) : J X G 4 1 y (emy y) rvI tpT 35 [(0, .ref (G.1 + a)), (1, .int v1), (2, .int v2)] [] (μ, y) (Pt_bookAt_35 a   v1 v2  μ) := by
  unfold Pt_bookAt_35
  refine J_iconst (pc := 35) (n := 0) (v := 0) hX (by decide +kernel) (by decide +kernel) ?_
  exact J_sub [0, 1, 2] _ rfl (jPt_bookAt_36 hL hX v1 v2 0 μ)
set_option maxRecDepth 100000 in
set_option maxHeartbeats 4000000 in
theorem jPt_bookAt {X : Cx} {l : Launch} {G : Gx} {y : Ly} {a : Nat} (hL : LyPt y a ) (hX : Ok X l G prog_5_method_4_code 4 (some .int) "SaltFigures$Port") (v1 : Int32) (v2 : Int32) (μ : Mu) : J X G 4 1 y (emy y) rvI tpT 0 [(0, .ref (G.1 + a)), (1, .int v1), (2, .int v2)] [] (μ, y) (Pt_bookAt a v1 v2 μ) := by
  unfold Pt_bookAt
  refine J_iload_n (k0 := 1) (pc := 0) 1 hX (by decide +kernel) rfl rfl ?_
  refine J_if_lt (pc := 1) (off := 34) (tgt := 35) hX (by decide +kernel) (by decide +kernel) (fun _ => ?_) (fun _ => ?_)
  · exact J_sub [0, 1, 2] _ rfl (jPt_bookAt_35 hL hX v1 v2 μ)
  · refine J_iload_n (k0 := 1) (pc := 4) 1 hX (by decide +kernel) rfl rfl ?_
    refine J_aload_n (k0 := 0) (pc := 5) 0 hX (by decide +kernel) rfl rfl ?_
    refine J_gr (pc := 6) hX (by decide +kernel) fl_Pt_14 hL.1 rfl hL.2.1.1 ?_
    refine J_gF (pc := 9) hX (by decide +kernel) fl_Pt_58 hL.2.1.2.1 rfl (fun x1 => ?_)
    refine J_icmp_ge (pc := 12) (off := 23) (tgt := 35) hX (by decide +kernel) (by decide +kernel) (fun _ => ?_) (fun _ => ?_)
    · exact J_sub [0, 1, 2] _ rfl (jPt_bookAt_35 hL hX v1 v2 μ)
    · refine J_iload_n (k0 := 1) (pc := 15) 1 hX (by decide +kernel) rfl rfl ?_
      refine J_sipush (pc := 16) (n := 150) (v := 150) hX (by decide +kernel) (by decide +kernel) ?_
      refine J_icmp_ge (pc := 19) (off := 16) (tgt := 35) hX (by decide +kernel) (by decide +kernel) (fun _ => ?_) (fun _ => ?_)
      · exact J_sub [0, 1, 2] _ rfl (jPt_bookAt_35 hL hX v1 v2 μ)
      · refine J_iload_n (k0 := 2) (pc := 22) 2 hX (by decide +kernel) rfl rfl ?_
        refine J_if_lt (pc := 23) (off := 12) (tgt := 35) hX (by decide +kernel) (by decide +kernel) (fun _ => ?_) (fun _ => ?_)
        · exact J_sub [0, 1, 2] _ rfl (jPt_bookAt_35 hL hX v1 v2 μ)
        · refine J_iload_n (k0 := 2) (pc := 26) 2 hX (by decide +kernel) rfl rfl ?_
          refine J_iconst (pc := 27) (n := 4) (v := 4) hX (by decide +kernel) (by decide +kernel) ?_
          refine J_icmp_ge (pc := 28) (off := 7) (tgt := 35) hX (by decide +kernel) (by decide +kernel) (fun _ => ?_) (fun _ => ?_)
          · exact J_sub [0, 1, 2] _ rfl (jPt_bookAt_35 hL hX v1 v2 μ)
          · refine J_iconst (pc := 31) (n := 1) (v := 1) hX (by decide +kernel) (by decide +kernel) ?_
            refine J_goto (pc := 32) (off := 4) (tgt := 36) hX (by decide +kernel) (by decide +kernel) ?_
            exact J_sub [0, 1, 2] _ rfl (jPt_bookAt_36 hL hX v1 v2 1 μ)
set_option maxRecDepth 100000 in
set_option maxHeartbeats 4000000 in
theorem c_Pt_bookAt {l : Launch} {G : Gx} {y : Ly} {a : Nat} (hL : LyPt y a ) (v1 : Int32) (v2 : Int32) (μ : Mu) : Cn l G ⟨"SaltFigures$Port", "bookAt", "(II)I"⟩ prog_5_method_4_code 4 (some .int) 1 [.ref (G.1 + a), .int v1, .int v2] (μ, y) (emy y) rvI tpT (Pt_bookAt a v1 v2 μ) := cn_of (by decide +kernel) (Nat.le_of_ble_eq_true rfl) (fun _ _ _ => ⟨List.prefix_refl _, trivial⟩) (fun X hX _ => jPt_bookAt hL hX v1 v2 μ)

def Sf_book (a : Nat) (v1 : Int32) (v2 : Int32) (μ : Mu) : Option (Int32 × Mu) := cl (Pt_bookAt (a + 1) v1 v2 μ) (fun x2 μ1 => some (x2, μ1))
set_option maxRecDepth 100000 in
set_option maxHeartbeats 4000000 in
theorem jSf_book {X : Cx} {l : Launch} {G : Gx} {y : Ly} {a : Nat} (hL : LySf y a ) (hX : Ok X l G prog_1_method_14_code 3 (some .int) "SaltFigures") (v1 : Int32) (v2 : Int32) (μ : Mu) : J X G 3 2 y (emy y) rvI tpT 0 [(0, .ref (G.1 + a)), (1, .int v1), (2, .int v2)] [] (μ, y) (Sf_book a v1 v2 μ) := by
  unfold Sf_book
  refine J_aload_n (k0 := 0) (pc := 0) 0 hX (by decide +kernel) rfl rfl ?_
  refine J_gr (pc := 1) hX (by decide +kernel) fl_Sf_12 hL.1 rfl hL.2.1.1 ?_
  refine J_iload_n (k0 := 1) (pc := 4) 1 hX (by decide +kernel) rfl rfl ?_
  refine J_iload_n (k0 := 2) (pc := 5) 2 hX (by decide +kernel) rfl rfl ?_
  refine J_cVi (pc := 6) (idx := 193) [.int v1, .int v2] hX (by decide +kernel) (mq mt_4 121 (by decide +kernel)) mv_Pt_bookAt hL.2.1.2.1 rfl rfl (Nat.le_of_ble_eq_true rfl) (Nat.le_of_ble_eq_true rfl) (c_Pt_bookAt hL.2.1.2 v1 v2 μ) (fun x2 μ1 => ?_)
  exact J_iret (pc := 9) hX (by decide +kernel) rfl trivial
set_option maxRecDepth 100000 in
set_option maxHeartbeats 4000000 in
theorem c_Sf_book {l : Launch} {G : Gx} {y : Ly} {a : Nat} (hL : LySf y a ) (v1 : Int32) (v2 : Int32) (μ : Mu) : Cn l G ⟨"SaltFigures", "book", "(II)I"⟩ prog_1_method_14_code 3 (some .int) 2 [.ref (G.1 + a), .int v1, .int v2] (μ, y) (emy y) rvI tpT (Sf_book a v1 v2 μ) := cn_of (by decide +kernel) (Nat.le_of_ble_eq_true rfl) (fun _ _ _ => ⟨List.prefix_refl _, trivial⟩) (fun X hX _ => jSf_book hL hX v1 v2 μ)

def Sm_fewestWeighings_35  (kb22 : Int32 → Int32 → Mu → Option (Int32 × Mu))  (v0 : Int32) (v1 : Int32) (v2 : Int32) (v3 : Int32) (s0 : Int32) (μ : Mu) : Option (Int32 × Mu) := (if v0 ≤ s0 then some (v2, μ) else (if 10 ≤ v2 then some (v2, μ) else kb22 (v2 + 1) (v3 * 3) μ))
def Sm_fewestWeighings_22b   (kb22 : Int32 → Int32 → Mu → Option (Int32 × Mu)) (v0 : Int32) (v1 : Int32) (v2 : Int32) (v3 : Int32)  (μ : Mu) : Option (Int32 × Mu) := (if v1 = 0 then Sm_fewestWeighings_35 kb22 v0 v1 v2 v3 ((v3 - 1) / 2) μ else Sm_fewestWeighings_35 kb22 v0 v1 v2 v3 v3 μ)
def Sm_fewestWeighings_22   (v0 : Int32) (v1 : Int32) (fu : Nat) : Int32 → Int32 → Mu → Option (Int32 × Mu) := lp (fun kb => Sm_fewestWeighings_22b   kb v0 v1) (fun _ _ _ => none) fu
def Sm_fewestWeighings_18    (v0 : Int32) (v1 : Int32)  (μ : Mu) : Option (Int32 × Mu) := Sm_fewestWeighings_22 v0 v1 FU 0 1 μ
def Sm_fewestWeighings  (v0 : Int32) (v1 : Int32) (μ : Mu) : Option (Int32 × Mu) := (if v0 = 1 then some (0, μ) else (if v0 = 2 then (if v1 = 0 then some ((-1), μ) else Sm_fewestWeighings_18 v0 v1 μ) else Sm_fewestWeighings_18 v0 v1 μ))
set_option maxRecDepth 100000 in
set_option maxHeartbeats 4000000 in
theorem jSm_fewestWeighings_35 {X : Cx} {l : Launch} {G : Gx} {y : Ly}   (hX : Ok X l G prog_8_method_10_code 4 (some .int) "SaltFigures$Sums")  (v0 : Int32) (v1 : Int32) (v2 : Int32) (v3 : Int32) (s0 : Int32) {kb22 : Int32 → Int32 → Mu → Option (Int32 × Mu)} (hk22 : ∀ (v2 : Int32) (v3 : Int32) (μ : Mu), J X G 4 1 y (emy y) rvI tpT 22 [(0, .int v0), (1, .int v1), (2, .int v2), (3, .int v3)] [] (μ, y) (kb22 v2 v3 μ)) (μ : Mu) : J X G 4 1 y (emy y) rvI tpT 35 [(0, .int v0), (1, .int v1), (2, .int v2), (3, .int v3)] [.int s0] (μ, y) (Sm_fewestWeighings_35  kb22  v0 v1 v2 v3 s0 μ) := by
  unfold Sm_fewestWeighings_35
  refine J_iload_n (k0 := 0) (pc := 35) 0 hX (by decide +kernel) rfl rfl ?_
  refine J_icmp_ge (pc := 36) (off := 19) (tgt := 55) hX (by decide +kernel) (by decide +kernel) (fun _ => ?_) (fun _ => ?_)
  · refine J_iload_n (k0 := 2) (pc := 55) 2 hX (by decide +kernel) rfl rfl ?_
    exact J_iret (pc := 56) hX (by decide +kernel) rfl trivial
  · refine J_iload_n (k0 := 2) (pc := 39) 2 hX (by decide +kernel) rfl rfl ?_
    refine J_bipush (pc := 40) (n := 10) (v := 10) hX (by decide +kernel) (by decide +kernel) ?_
    refine J_icmp_ge (pc := 42) (off := 13) (tgt := 55) hX (by decide +kernel) (by decide +kernel) (fun _ => ?_) (fun _ => ?_)
    · refine J_iload_n (k0 := 2) (pc := 55) 2 hX (by decide +kernel) rfl rfl ?_
      exact J_iret (pc := 56) hX (by decide +kernel) rfl trivial
    · refine J_iinc (pc := 45) (n := 1) 2 [(2, .int (v2 + 1)), (0, .int v0), (1, .int v1), (3, .int v3)] hX (by decide +kernel) rfl rfl (by decide) rfl ?_
      refine J_iload_n (k0 := 3) (pc := 48) 3 hX (by decide +kernel) rfl rfl ?_
      refine J_iconst (pc := 49) (n := 3) (v := 3) hX (by decide +kernel) (by decide +kernel) ?_
      refine J_imul (pc := 50) hX (by decide +kernel) ?_
      refine J_istore_n (k0 := 3) (pc := 51) [(3, .int (v3 * 3)), (2, .int (v2 + 1)), (0, .int v0), (1, .int v1)] hX (by decide +kernel) rfl (by decide) rfl ?_
      refine J_goto (pc := 52) (off := -30) (tgt := 22) hX (by decide +kernel) (by decide +kernel) ?_
      exact J_sub [2, 3, 1, 0] _ rfl (hk22 (v2 + 1) (v3 * 3) μ)
set_option maxRecDepth 100000 in
set_option maxHeartbeats 4000000 in
theorem jSm_fewestWeighings_22b {X : Cx} {l : Launch} {G : Gx} {y : Ly}   (hX : Ok X l G prog_8_method_10_code 4 (some .int) "SaltFigures$Sums") (v0 : Int32) (v1 : Int32)  {kb22 : Int32 → Int32 → Mu → Option (Int32 × Mu)}  (hk22 : ∀ (v2 : Int32) (v3 : Int32) (μ : Mu), J X G 4 1 y (emy y) rvI tpT 22 [(0, .int v0), (1, .int v1), (2, .int v2), (3, .int v3)] [] (μ, y) (kb22 v2 v3 μ)) (v2 : Int32) (v3 : Int32)  (μ : Mu) : J X G 4 1 y (emy y) rvI tpT 22 [(0, .int v0), (1, .int v1), (2, .int v2), (3, .int v3)] [] (μ, y) (Sm_fewestWeighings_22b   kb22 v0 v1 v2 v3  μ) := by
  unfold Sm_fewestWeighings_22b
  refine J_iload_n (k0 := 1) (pc := 22) 1 hX (by decide +kernel) rfl rfl ?_
  refine J_if_eq (pc := 23) (off := 7) (tgt := 30) hX (by decide +kernel) (by decide +kernel) (fun _ => ?_) (fun _ => ?_)
  · refine J_iload_n (k0 := 3) (pc := 30) 3 hX (by decide +kernel) rfl rfl ?_
    refine J_iconst (pc := 31) (n := 1) (v := 1) hX (by decide +kernel) (by decide +kernel) ?_
    refine J_isub (pc := 32) hX (by decide +kernel) ?_
    refine J_iconst (pc := 33) (n := 2) (v := 2) hX (by decide +kernel) (by decide +kernel) ?_
    refine J_idivK (pc := 34) hX (by decide +kernel) (by decide +kernel) ?_
    exact J_sub [0, 1, 2, 3] _ rfl (jSm_fewestWeighings_35 hX v0 v1 v2 v3 ((v3 - 1) / 2) hk22 μ)
  · refine J_iload_n (k0 := 3) (pc := 26) 3 hX (by decide +kernel) rfl rfl ?_
    refine J_goto (pc := 27) (off := 8) (tgt := 35) hX (by decide +kernel) (by decide +kernel) ?_
    exact J_sub [0, 1, 2, 3] _ rfl (jSm_fewestWeighings_35 hX v0 v1 v2 v3 v3 hk22 μ)
set_option maxRecDepth 100000 in
set_option maxHeartbeats 4000000 in
theorem jSm_fewestWeighings_22 {X : Cx} {l : Launch} {G : Gx} {y : Ly}   (hX : Ok X l G prog_8_method_10_code 4 (some .int) "SaltFigures$Sums") (v0 : Int32) (v1 : Int32)   : ∀ (fu : Nat) (v2 : Int32) (v3 : Int32) (μ : Mu), J X G 4 1 y (emy y) rvI tpT 22 [(0, .int v0), (1, .int v1), (2, .int v2), (3, .int v3)] [] (μ, y) (Sm_fewestWeighings_22   v0 v1 fu v2 v3 μ) := by
  intro fu
  induction fu with
  | zero => intros; exact J_none
  | succ fu ih => intro v2 v3 μ; exact jSm_fewestWeighings_22b  hX v0 v1  ih v2 v3 μ
set_option maxRecDepth 100000 in
set_option maxHeartbeats 4000000 in
theorem jSm_fewestWeighings_18 {X : Cx} {l : Launch} {G : Gx} {y : Ly}   (hX : Ok X l G prog_8_method_10_code 4 (some .int) "SaltFigures$Sums")  (v0 : Int32) (v1 : Int32)    (μ : Mu) : J X G 4 1 y (emy y) rvI tpT 18 [(0, .int v0), (1, .int v1)] [] (μ, y) (Sm_fewestWeighings_18    v0 v1  μ) := by
  unfold Sm_fewestWeighings_18
  refine J_iconst (pc := 18) (n := 0) (v := 0) hX (by decide +kernel) (by decide +kernel) ?_
  refine J_istore_n (k0 := 2) (pc := 19) [(2, .int 0), (0, .int v0), (1, .int v1)] hX (by decide +kernel) rfl (by decide) rfl ?_
  refine J_iconst (pc := 20) (n := 1) (v := 1) hX (by decide +kernel) (by decide +kernel) ?_
  refine J_istore_n (k0 := 3) (pc := 21) [(3, .int 1), (2, .int 0), (0, .int v0), (1, .int v1)] hX (by decide +kernel) rfl (by decide) rfl ?_
  exact J_sub [2, 3, 1, 0] _ rfl (jSm_fewestWeighings_22 hX v0 v1 FU 0 1 μ)
set_option maxRecDepth 100000 in
set_option maxHeartbeats 4000000 in
theorem jSm_fewestWeighings {X : Cx} {l : Launch} {G : Gx} {y : Ly}   (hX : Ok X l G prog_8_method_10_code 4 (some .int) "SaltFigures$Sums") (v0 : Int32) (v1 : Int32) (μ : Mu) : J X G 4 1 y (emy y) rvI tpT 0 [(0, .int v0), (1, .int v1)] [] (μ, y) (Sm_fewestWeighings  v0 v1 μ) := by
  unfold Sm_fewestWeighings
  refine J_iload_n (k0 := 0) (pc := 0) 0 hX (by decide +kernel) rfl rfl ?_
  refine J_iconst (pc := 1) (n := 1) (v := 1) hX (by decide +kernel) (by decide +kernel) ?_
  refine J_icmp_ne (pc := 2) (off := 5) (tgt := 7) hX (by decide +kernel) (by decide +kernel) (fun _ => ?_) (fun _ => ?_)
  · refine J_iload_n (k0 := 0) (pc := 7) 0 hX (by decide +kernel) rfl rfl ?_
    refine J_iconst (pc := 8) (n := 2) (v := 2) hX (by decide +kernel) (by decide +kernel) ?_
    refine J_icmp_ne (pc := 9) (off := 9) (tgt := 18) hX (by decide +kernel) (by decide +kernel) (fun _ => ?_) (fun _ => ?_)
    · exact J_sub [0, 1] _ rfl (jSm_fewestWeighings_18 hX v0 v1 μ)
    · refine J_iload_n (k0 := 1) (pc := 12) 1 hX (by decide +kernel) rfl rfl ?_
      refine J_if_ne (pc := 13) (off := 5) (tgt := 18) hX (by decide +kernel) (by decide +kernel) (fun _ => ?_) (fun _ => ?_)
      · exact J_sub [0, 1] _ rfl (jSm_fewestWeighings_18 hX v0 v1 μ)
      · refine J_iconst (pc := 16) (n := -1) (v := (-1)) hX (by decide +kernel) (by decide +kernel) ?_
        exact J_iret (pc := 17) hX (by decide +kernel) rfl trivial
  · refine J_iconst (pc := 5) (n := 0) (v := 0) hX (by decide +kernel) (by decide +kernel) ?_
    exact J_iret (pc := 6) hX (by decide +kernel) rfl trivial
set_option maxRecDepth 100000 in
set_option maxHeartbeats 4000000 in
theorem c_Sm_fewestWeighings {l : Launch} {G : Gx} {y : Ly}   (v0 : Int32) (v1 : Int32) (μ : Mu) : Cn l G ⟨"SaltFigures$Sums", "fewestWeighings", "(IZ)I"⟩ prog_8_method_10_code 4 (some .int) 1 [.int v0, .int v1] (μ, y) (emy y) rvI tpT (Sm_fewestWeighings  v0 v1 μ) := cn_of (by decide +kernel) (Nat.le_of_ble_eq_true rfl) (fun _ _ _ => ⟨List.prefix_refl _, trivial⟩) (fun X hX _ => jSm_fewestWeighings  hX v0 v1 μ)
