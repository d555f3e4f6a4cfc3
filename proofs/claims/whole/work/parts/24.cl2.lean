/-! THE CLASS: models and their rows (by program) -/
def Rd_cut (a : Nat) (v1 : Int32) (μ : Mu) : Option (Int32 × Mu) := (if v1 < 0 then some (0, μ) else gF μ a 1 (fun x1 => (if v1 ≤ x1 then pF μ a 1 v1 (fun μ2 => some (1, μ2)) else some (0, μ))))
set_option maxRecDepth 100000 in
set_option maxHeartbeats 4000000 in
theorem jRd_cut {X : Cx} {l : Launch} {G : Gx} {y : Ly} {a : Nat} (hL : LyRd y a ) (hX : Ok X l G prog_6_method_4_code 2 (some .boolean) "SaltFigures$Reader") (v1 : Int32) (μ : Mu) : J X G 2 1 y (emy y) rvI tpT 0 [(0, .ref (G.1 + a)), (1, .int v1)] [] (μ, y) (Rd_cut a v1 μ) := by
  unfold Rd_cut
  refine J_iload_n (k0 := 1) (pc := 0) 1 hX (by decide +kernel) rfl rfl ?_
  refine J_if_lt (pc := 1) (off := 11) (tgt := 12) hX (by decide +kernel) (by decide +kernel) (fun _ => ?_) (fun _ => ?_)
  · refine J_iconst (pc := 12) (n := 0) (v := 0) hX (by decide +kernel) (by decide +kernel) ?_
    exact J_zret (pc := 13) hX (by decide +kernel) rfl (by decide +kernel) trivial
  · refine J_iload_n (k0 := 1) (pc := 4) 1 hX (by decide +kernel) rfl rfl ?_
    refine J_aload_n (k0 := 0) (pc := 5) 0 hX (by decide +kernel) rfl rfl ?_
    refine J_gF (pc := 6) hX (by decide +kernel) fl_Rd_29 hL.1 rfl (fun x1 => ?_)
    refine J_icmp_le (pc := 9) (off := 5) (tgt := 14) hX (by decide +kernel) (by decide +kernel) (fun _ => ?_) (fun _ => ?_)
    · refine J_aload_n (k0 := 0) (pc := 14) 0 hX (by decide +kernel) rfl rfl ?_
      refine J_iload_n (k0 := 1) (pc := 15) 1 hX (by decide +kernel) rfl rfl ?_
      refine J_pF (pc := 16) hX (by decide +kernel) fl_Rd_29 hL.1 rfl (fun μ2 => ?_)
      refine J_iconst (pc := 19) (n := 1) (v := 1) hX (by decide +kernel) (by decide +kernel) ?_
      exact J_zret (pc := 20) hX (by decide +kernel) rfl (by decide +kernel) trivial
    · refine J_iconst (pc := 12) (n := 0) (v := 0) hX (by decide +kernel) (by decide +kernel) ?_
      exact J_zret (pc := 13) hX (by decide +kernel) rfl (by decide +kernel) trivial
set_option maxRecDepth 100000 in
set_option maxHeartbeats 4000000 in
theorem c_Rd_cut {l : Launch} {G : Gx} {y : Ly} {a : Nat} (hL : LyRd y a ) (v1 : Int32) (μ : Mu) : Cn l G ⟨"SaltFigures$Reader", "cut", "(I)Z"⟩ prog_6_method_4_code 2 (some .boolean) 1 [.ref (G.1 + a), .int v1] (μ, y) (emy y) rvI tpT (Rd_cut a v1 μ) := cn_of (by decide +kernel) (Nat.le_of_ble_eq_true rfl) (fun _ _ _ => ⟨List.prefix_refl _, trivial⟩) (fun X hX _ => jRd_cut hL hX v1 μ)

def Sf_end (a : Nat) (v1 : Int32) (μ : Mu) : Option (Int32 × Mu) := cl (Rd_cut (a + 48) v1 μ) (fun x2 μ1 => zg x2 (some (x2, μ1)))
set_option maxRecDepth 100000 in
set_option maxHeartbeats 4000000 in
theorem jSf_end {X : Cx} {l : Launch} {G : Gx} {y : Ly} {a : Nat} (hL : LySf y a ) (hX : Ok X l G prog_1_method_9_code 2 (some .boolean) "SaltFigures") (v1 : Int32) (μ : Mu) : J X G 2 2 y (emy y) rvI tpT 0 [(0, .ref (G.1 + a)), (1, .int v1)] [] (μ, y) (Sf_end a v1 μ) := by
  unfold Sf_end
  refine J_aload_n (k0 := 0) (pc := 0) 0 hX (by decide +kernel) rfl rfl ?_
  refine J_gr (pc := 1) hX (by decide +kernel) fl_Sf_50 hL.1 rfl hL.2.2.2.2.2.1.1 ?_
  refine J_iload_n (k0 := 1) (pc := 4) 1 hX (by decide +kernel) rfl rfl ?_
  refine J_cVi (pc := 5) (idx := 135) [.int v1] hX (by decide +kernel) (mq mt_3 105 (by decide +kernel)) mv_Rd_cut hL.2.2.2.2.2.1.2.1 rfl rfl (Nat.le_of_ble_eq_true rfl) (Nat.le_of_ble_eq_true rfl) (c_Rd_cut hL.2.2.2.2.2.1.2 v1 μ) (fun x2 μ1 => ?_)
  exact J_zgr (pc := 8) hX (by decide +kernel) rfl trivial
set_option maxRecDepth 100000 in
set_option maxHeartbeats 4000000 in
theorem c_Sf_end {l : Launch} {G : Gx} {y : Ly} {a : Nat} (hL : LySf y a ) (v1 : Int32) (μ : Mu) : Cn l G ⟨"SaltFigures", "end", "(I)Z"⟩ prog_1_method_9_code 2 (some .boolean) 2 [.ref (G.1 + a), .int v1] (μ, y) (emy y) rvI tpT (Sf_end a v1 μ) := cn_of (by decide +kernel) (Nat.le_of_ble_eq_true rfl) (fun _ _ _ => ⟨List.prefix_refl _, trivial⟩) (fun X hX _ => jSf_end hL hX v1 μ)

def Sf_fault (a : Nat) (v1 : Int32) (μ : Mu) : Option (Int32 × Mu) := (if v1 = 0 then gF μ (a + 48) 8 (fun x2 => some (x2, μ)) else (if v1 = 1 then gF μ (a + 48) 9 (fun x1 => some (x1, μ)) else some ((-1), μ)))
set_option maxRecDepth 100000 in
set_option maxHeartbeats 4000000 in
theorem jSf_fault {X : Cx} {l : Launch} {G : Gx} {y : Ly} {a : Nat} (hL : LySf y a ) (hX : Ok X l G prog_1_method_12_code 2 (some .int) "SaltFigures") (v1 : Int32) (μ : Mu) : J X G 2 1 y (emy y) rvI tpT 0 [(0, .ref (G.1 + a)), (1, .int v1)] [] (μ, y) (Sf_fault a v1 μ) := by
  unfold Sf_fault
  refine J_iload_n (k0 := 1) (pc := 0) 1 hX (by decide +kernel) rfl rfl ?_
  refine J_if_ne (pc := 1) (off := 13) (tgt := 14) hX (by decide +kernel) (by decide +kernel) (fun _ => ?_) (fun _ => ?_)
  · refine J_iload_n (k0 := 1) (pc := 14) 1 hX (by decide +kernel) rfl rfl ?_
    refine J_iconst (pc := 15) (n := 1) (v := 1) hX (by decide +kernel) (by decide +kernel) ?_
    refine J_icmp_ne (pc := 16) (off := 13) (tgt := 29) hX (by decide +kernel) (by decide +kernel) (fun _ => ?_) (fun _ => ?_)
    · refine J_iconst (pc := 29) (n := -1) (v := (-1)) hX (by decide +kernel) (by decide +kernel) ?_
      exact J_iret (pc := 30) hX (by decide +kernel) rfl trivial
    · refine J_aload_n (k0 := 0) (pc := 19) 0 hX (by decide +kernel) rfl rfl ?_
      refine J_gr (pc := 20) hX (by decide +kernel) fl_Sf_50 hL.1 rfl hL.2.2.2.2.2.1.1 ?_
      refine J_gF (pc := 23) hX (by decide +kernel) fl_Sf_180 hL.2.2.2.2.2.1.2.1 rfl (fun x1 => ?_)
      refine J_goto (pc := 26) (off := 4) (tgt := 30) hX (by decide +kernel) (by decide +kernel) ?_
      exact J_iret (pc := 30) hX (by decide +kernel) rfl trivial
  · refine J_aload_n (k0 := 0) (pc := 4) 0 hX (by decide +kernel) rfl rfl ?_
    refine J_gr (pc := 5) hX (by decide +kernel) fl_Sf_50 hL.1 rfl hL.2.2.2.2.2.1.1 ?_
    refine J_gF (pc := 8) hX (by decide +kernel) fl_Sf_153 hL.2.2.2.2.2.1.2.1 rfl (fun x2 => ?_)
    refine J_goto (pc := 11) (off := 19) (tgt := 30) hX (by decide +kernel) (by decide +kernel) ?_
    exact J_iret (pc := 30) hX (by decide +kernel) rfl trivial
set_option maxRecDepth 100000 in
set_option maxHeartbeats 4000000 in
theorem c_Sf_fault {l : Launch} {G : Gx} {y : Ly} {a : Nat} (hL : LySf y a ) (v1 : Int32) (μ : Mu) : Cn l G ⟨"SaltFigures", "fault", "(I)I"⟩ prog_1_method_12_code 2 (some .int) 1 [.ref (G.1 + a), .int v1] (μ, y) (emy y) rvI tpT (Sf_fault a v1 μ) := cn_of (by decide +kernel) (Nat.le_of_ble_eq_true rfl) (fun _ _ _ => ⟨List.prefix_refl _, trivial⟩) (fun X hX _ => jSf_fault hL hX v1 μ)

def Rd_hasRoom (a : Nat)  (μ : Mu) : Option (Int32 × Mu) := gF μ a 1 (fun x1 => (if 400 < (x1 + 20) then some (0, μ) else some (1, μ)))
set_option maxRecDepth 100000 in
set_option maxHeartbeats 4000000 in
theorem jRd_hasRoom {X : Cx} {l : Launch} {G : Gx} {y : Ly} {a : Nat} (hL : LyRd y a ) (hX : Ok X l G prog_6_method_2_code 1 (some .boolean) "SaltFigures$Reader")  (μ : Mu) : J X G 1 1 y (emy y) rvI tpT 0 [(0, .ref (G.1 + a))] [] (μ, y) (Rd_hasRoom a  μ) := by
  unfold Rd_hasRoom
  refine J_aload_n (k0 := 0) (pc := 0) 0 hX (by decide +kernel) rfl rfl ?_
  refine J_gF (pc := 1) hX (by decide +kernel) fl_Rd_29 hL.1 rfl (fun x1 => ?_)
  refine J_bipush (pc := 4) (n := 20) (v := 20) hX (by decide +kernel) (by decide +kernel) ?_
  refine J_iadd (pc := 6) hX (by decide +kernel) ?_
  refine J_sipush (pc := 7) (n := 400) (v := 400) hX (by decide +kernel) (by decide +kernel) ?_
  refine J_icmp_gt (pc := 10) (off := 7) (tgt := 17) hX (by decide +kernel) (by decide +kernel) (fun _ => ?_) (fun _ => ?_)
  · refine J_iconst (pc := 17) (n := 0) (v := 0) hX (by decide +kernel) (by decide +kernel) ?_
    exact J_zret (pc := 18) hX (by decide +kernel) rfl (by decide +kernel) trivial
  · refine J_iconst (pc := 13) (n := 1) (v := 1) hX (by decide +kernel) (by decide +kernel) ?_
    refine J_goto (pc := 14) (off := 4) (tgt := 18) hX (by decide +kernel) (by decide +kernel) ?_
    exact J_zret (pc := 18) hX (by decide +kernel) rfl (by decide +kernel) trivial
set_option maxRecDepth 100000 in
set_option maxHeartbeats 4000000 in
theorem c_Rd_hasRoom {l : Launch} {G : Gx} {y : Ly} {a : Nat} (hL : LyRd y a )  (μ : Mu) : Cn l G ⟨"SaltFigures$Reader", "hasRoom", "()Z"⟩ prog_6_method_2_code 1 (some .boolean) 1 [.ref (G.1 + a)] (μ, y) (emy y) rvI tpT (Rd_hasRoom a  μ) := cn_of (by decide +kernel) (Nat.le_of_ble_eq_true rfl) (fun _ _ _ => ⟨List.prefix_refl _, trivial⟩) (fun X hX _ => jRd_hasRoom hL hX  μ)

def Rd_append_49 (a : Nat)     (μ : Mu) : Option (Int32 × Mu) := gF μ a 1 (fun x1 => some (x1, μ))
def Rd_append_3b (a : Nat)  (kb3 : Int32 → Mu → Option (Int32 × Mu)) (v1 : Int32) (v2 : Int32)  (μ : Mu) : Option (Int32 × Mu) := (if v2 < 0 then Rd_append_49 a μ else gF μ a 1 (fun x1 => (if 400 ≤ x1 then Rd_append_49 a μ else gF μ a 1 (fun x2 => stA μ (a + 1) 400 x2 ((jushr v1 v2) &&& 255) (fun μ3 => gF μ3 a 1 (fun x4 => pF μ3 a 1 (x4 + 1) (fun μ5 => kb3 (v2 + (-8)) μ5)))))))
def Rd_append_3 (a : Nat)  (v1 : Int32) (fu : Nat) : Int32 → Mu → Option (Int32 × Mu) := lp (fun kb => Rd_append_3b a  kb v1) (fun _ _ => none) fu
def Rd_append (a : Nat) (v1 : Int32) (μ : Mu) : Option (Int32 × Mu) := Rd_append_3 a v1 FU 24 μ
set_option maxRecDepth 100000 in
set_option maxHeartbeats 4000000 in
theorem jRd_append_49 {X : Cx} {l : Launch} {G : Gx} {y : Ly} {a : Nat} (hL : LyRd y a ) (hX : Ok X l G prog_6_method_3_code 3 (some .int) "SaltFigures$Reader")      (μ : Mu) : J X G 3 1 y (emy y) rvI tpT 49 [(0, .ref (G.1 + a))] [] (μ, y) (Rd_append_49 a     μ) := by
  unfold Rd_append_49
  refine J_aload_n (k0 := 0) (pc := 49) 0 hX (by decide +kernel) rfl rfl ?_
  refine J_gF (pc := 50) hX (by decide +kernel) fl_Rd_29 hL.1 rfl (fun x1 => ?_)
  exact J_iret (pc := 53) hX (by decide +kernel) rfl trivial
set_option maxRecDepth 100000 in
set_option maxHeartbeats 4000000 in
theorem jRd_append_3b {X : Cx} {l : Launch} {G : Gx} {y : Ly} {a : Nat} (hL : LyRd y a ) (hX : Ok X l G prog_6_method_3_code 3 (some .int) "SaltFigures$Reader") (v1 : Int32)  {kb3 : Int32 → Mu → Option (Int32 × Mu)}  (hk3 : ∀ (v2 : Int32) (μ : Mu), J X G 3 1 y (emy y) rvI tpT 3 [(0, .ref (G.1 + a)), (1, .int v1), (2, .int v2)] [] (μ, y) (kb3 v2 μ)) (v2 : Int32)  (μ : Mu) : J X G 3 1 y (emy y) rvI tpT 3 [(0, .ref (G.1 + a)), (1, .int v1), (2, .int v2)] [] (μ, y) (Rd_append_3b a  kb3 v1 v2  μ) := by
  unfold Rd_append_3b
  refine J_iload_n (k0 := 2) (pc := 3) 2 hX (by decide +kernel) rfl rfl ?_
  refine J_if_lt (pc := 4) (off := 45) (tgt := 49) hX (by decide +kernel) (by decide +kernel) (fun _ => ?_) (fun _ => ?_)
  · exact J_sub [0] _ rfl (jRd_append_49 hL hX μ)
  · refine J_aload_n (k0 := 0) (pc := 7) 0 hX (by decide +kernel) rfl rfl ?_
    refine J_gF (pc := 8) hX (by decide +kernel) fl_Rd_29 hL.1 rfl (fun x1 => ?_)
    refine J_sipush (pc := 11) (n := 400) (v := 400) hX (by decide +kernel) (by decide +kernel) ?_
    refine J_icmp_ge (pc := 14) (off := 35) (tgt := 49) hX (by decide +kernel) (by decide +kernel) (fun _ => ?_) (fun _ => ?_)
    · exact J_sub [0] _ rfl (jRd_append_49 hL hX μ)
    · refine J_aload_n (k0 := 0) (pc := 17) 0 hX (by decide +kernel) rfl rfl ?_
      refine J_gr (pc := 18) hX (by decide +kernel) fl_Rd_9 hL.1 rfl hL.2.1.1 ?_
      refine J_aload_n (k0 := 0) (pc := 21) 0 hX (by decide +kernel) rfl rfl ?_
      refine J_gF (pc := 22) hX (by decide +kernel) fl_Rd_29 hL.1 rfl (fun x2 => ?_)
      refine J_iload_n (k0 := 1) (pc := 25) 1 hX (by decide +kernel) rfl rfl ?_
      refine J_iload_n (k0 := 2) (pc := 26) 2 hX (by decide +kernel) rfl rfl ?_
      refine J_iushr (pc := 27) hX (by decide +kernel) ?_
      refine J_sipush (pc := 28) (n := 255) (v := 255) hX (by decide +kernel) (by decide +kernel) ?_
      refine J_iand (pc := 31) hX (by decide +kernel) ?_
      refine J_stA (pc := 32) hX (by decide +kernel) hL.2.1.2 (fun μ3 => ?_)
      refine J_aload_n (k0 := 0) (pc := 33) 0 hX (by decide +kernel) rfl rfl ?_
      refine J_dup (pc := 34) hX (by decide +kernel) rfl ?_
      refine J_gF (pc := 35) hX (by decide +kernel) fl_Rd_29 hL.1 rfl (fun x4 => ?_)
      refine J_iconst (pc := 38) (n := 1) (v := 1) hX (by decide +kernel) (by decide +kernel) ?_
      refine J_iadd (pc := 39) hX (by decide +kernel) ?_
      refine J_pF (pc := 40) hX (by decide +kernel) fl_Rd_29 hL.1 rfl (fun μ5 => ?_)
      refine J_iinc (pc := 43) (n := -8) 2 [(2, .int (v2 + (-8))), (0, .ref (G.1 + a)), (1, .int v1)] hX (by decide +kernel) rfl rfl (by decide) rfl ?_
      refine J_goto (pc := 46) (off := -43) (tgt := 3) hX (by decide +kernel) (by decide +kernel) ?_
      exact J_sub [1, 2, 0] _ rfl (hk3 (v2 + (-8)) μ5)
set_option maxRecDepth 100000 in
set_option maxHeartbeats 4000000 in
theorem jRd_append_3 {X : Cx} {l : Launch} {G : Gx} {y : Ly} {a : Nat} (hL : LyRd y a ) (hX : Ok X l G prog_6_method_3_code 3 (some .int) "SaltFigures$Reader") (v1 : Int32)   : ∀ (fu : Nat) (v2 : Int32) (μ : Mu), J X G 3 1 y (emy y) rvI tpT 3 [(0, .ref (G.1 + a)), (1, .int v1), (2, .int v2)] [] (μ, y) (Rd_append_3 a  v1 fu v2 μ) := by
  intro fu
  induction fu with
  | zero => intros; exact J_none
  | succ fu ih => intro v2 μ; exact jRd_append_3b hL hX v1  ih v2 μ
set_option maxRecDepth 100000 in
set_option maxHeartbeats 4000000 in
theorem jRd_append {X : Cx} {l : Launch} {G : Gx} {y : Ly} {a : Nat} (hL : LyRd y a ) (hX : Ok X l G prog_6_method_3_code 3 (some .int) "SaltFigures$Reader") (v1 : Int32) (μ : Mu) : J X G 3 1 y (emy y) rvI tpT 0 [(0, .ref (G.1 + a)), (1, .int v1)] [] (μ, y) (Rd_append a v1 μ) := by
  unfold Rd_append
  refine J_bipush (pc := 0) (n := 24) (v := 24) hX (by decide +kernel) (by decide +kernel) ?_
  refine J_istore_n (k0 := 2) (pc := 2) [(2, .int 24), (0, .ref (G.1 + a)), (1, .int v1)] hX (by decide +kernel) rfl (by decide) rfl ?_
  exact J_sub [1, 2, 0] _ rfl (jRd_append_3 hL hX v1 FU 24 μ)
set_option maxRecDepth 100000 in
set_option maxHeartbeats 4000000 in
theorem c_Rd_append {l : Launch} {G : Gx} {y : Ly} {a : Nat} (hL : LyRd y a ) (v1 : Int32) (μ : Mu) : Cn l G ⟨"SaltFigures$Reader", "append", "(I)I"⟩ prog_6_method_3_code 3 (some .int) 1 [.ref (G.1 + a), .int v1] (μ, y) (emy y) rvI tpT (Rd_append a v1 μ) := cn_of (by decide +kernel) (Nat.le_of_ble_eq_true rfl) (fun _ _ _ => ⟨List.prefix_refl _, trivial⟩) (fun X hX _ => jRd_append hL hX v1 μ)

def Sf_feed (a : Nat) (v1 : Int32) (v2 : Int32) (v3 : Int32) (v4 : Int32) (v5 : Int32) (μ : Mu) : Option (Int32 × Mu) := cl (Rd_hasRoom (a + 48) μ) (fun x2 μ1 => (if x2 = 0 then some ((-1), μ1) else cl (Rd_append (a + 48) v1 μ1) (fun x4 μ3 => cl (Rd_append (a + 48) v2 μ3) (fun x6 μ5 => cl (Rd_append (a + 48) v3 μ5) (fun x8 μ7 => cl (Rd_append (a + 48) v4 μ7) (fun x10 μ9 => cl (Rd_append (a + 48) v5 μ9) (fun x12 μ11 => some (x12, μ11))))))))
set_option maxRecDepth 100000 in
set_option maxHeartbeats 4000000 in
theorem jSf_feed {X : Cx} {l : Launch} {G : Gx} {y : Ly} {a : Nat} (hL : LySf y a ) (hX : Ok X l G prog_1_method_8_code 6 (some .int) "SaltFigures") (v1 : Int32) (v2 : Int32) (v3 : Int32) (v4 : Int32) (v5 : Int32) (μ : Mu) : J X G 6 2 y (emy y) rvI tpT 0 [(0, .ref (G.1 + a)), (1, .int v1), (2, .int v2), (3, .int v3), (4, .int v4), (5, .int v5)] [] (μ, y) (Sf_feed a v1 v2 v3 v4 v5 μ) := by
  unfold Sf_feed
  refine J_aload_n (k0 := 0) (pc := 0) 0 hX (by decide +kernel) rfl rfl ?_
  refine J_gr (pc := 1) hX (by decide +kernel) fl_Sf_50 hL.1 rfl hL.2.2.2.2.2.1.1 ?_
  refine J_cVi (pc := 4) (idx := 128) [] hX (by decide +kernel) (mq mt_3 93 (by decide +kernel)) mv_Rd_hasRoom hL.2.2.2.2.2.1.2.1 rfl rfl (Nat.le_of_ble_eq_true rfl) (Nat.le_of_ble_eq_true rfl) (c_Rd_hasRoom hL.2.2.2.2.2.1.2 μ) (fun x2 μ1 => ?_)
  refine J_if_ne (pc := 7) (off := 5) (tgt := 12) hX (by decide +kernel) (by decide +kernel) (fun _ => ?_) (fun _ => ?_)
  · refine J_aload_n (k0 := 0) (pc := 12) 0 hX (by decide +kernel) rfl rfl ?_
    refine J_gr (pc := 13) hX (by decide +kernel) fl_Sf_50 hL.1 rfl hL.2.2.2.2.2.1.1 ?_
    refine J_iload_n (k0 := 1) (pc := 16) 1 hX (by decide +kernel) rfl rfl ?_
    refine J_cVi (pc := 17) (idx := 132) [.int v1] hX (by decide +kernel) (mq mt_3 97 (by decide +kernel)) mv_Rd_append hL.2.2.2.2.2.1.2.1 rfl rfl (Nat.le_of_ble_eq_true rfl) (Nat.le_of_ble_eq_true rfl) (c_Rd_append hL.2.2.2.2.2.1.2 v1 μ1) (fun x4 μ3 => ?_)
    refine J_pop (pc := 20) hX (by decide +kernel) rfl ?_
    refine J_aload_n (k0 := 0) (pc := 21) 0 hX (by decide +kernel) rfl rfl ?_
    refine J_gr (pc := 22) hX (by decide +kernel) fl_Sf_50 hL.1 rfl hL.2.2.2.2.2.1.1 ?_
    refine J_iload_n (k0 := 2) (pc := 25) 2 hX (by decide +kernel) rfl rfl ?_
    refine J_cVi (pc := 26) (idx := 132) [.int v2] hX (by decide +kernel) (mq mt_3 97 (by decide +kernel)) mv_Rd_append hL.2.2.2.2.2.1.2.1 rfl rfl (Nat.le_of_ble_eq_true rfl) (Nat.le_of_ble_eq_true rfl) (c_Rd_append hL.2.2.2.2.2.1.2 v2 μ3) (fun x6 μ5 => ?_)
    refine J_pop (pc := 29) hX (by decide +kernel) rfl ?_
    refine J_aload_n (k0 := 0) (pc := 30) 0 hX (by decide +kernel) rfl rfl ?_
    refine J_gr (pc := 31) hX (by decide +kernel) fl_Sf_50 hL.1 rfl hL.2.2.2.2.2.1.1 ?_
    refine J_iload_n (k0 := 3) (pc := 34) 3 hX (by decide +kernel) rfl rfl ?_
    refine J_cVi (pc := 35) (idx := 132) [.int v3] hX (by decide +kernel) (mq mt_3 97 (by decide +kernel)) mv_Rd_append hL.2.2.2.2.2.1.2.1 rfl rfl (Nat.le_of_ble_eq_true rfl) (Nat.le_of_ble_eq_true rfl) (c_Rd_append hL.2.2.2.2.2.1.2 v3 μ5) (fun x8 μ7 => ?_)
    refine J_pop (pc := 38) hX (by decide +kernel) rfl ?_
    refine J_aload_n (k0 := 0) (pc := 39) 0 hX (by decide +kernel) rfl rfl ?_
    refine J_gr (pc := 40) hX (by decide +kernel) fl_Sf_50 hL.1 rfl hL.2.2.2.2.2.1.1 ?_
    refine J_iload (pc := 43) 4 hX (by decide +kernel) rfl ?_
    refine J_cVi (pc := 45) (idx := 132) [.int v4] hX (by decide +kernel) (mq mt_3 97 (by decide +kernel)) mv_Rd_append hL.2.2.2.2.2.1.2.1 rfl rfl (Nat.le_of_ble_eq_true rfl) (Nat.le_of_ble_eq_true rfl) (c_Rd_append hL.2.2.2.2.2.1.2 v4 μ7) (fun x10 μ9 => ?_)
    refine J_pop (pc := 48) hX (by decide +kernel) rfl ?_
    refine J_aload_n (k0 := 0) (pc := 49) 0 hX (by decide +kernel) rfl rfl ?_
    refine J_gr (pc := 50) hX (by decide +kernel) fl_Sf_50 hL.1 rfl hL.2.2.2.2.2.1.1 ?_
    refine J_iload (pc := 53) 5 hX (by decide +kernel) rfl ?_
    refine J_cVi (pc := 55) (idx := 132) [.int v5] hX (by decide +kernel) (mq mt_3 97 (by decide +kernel)) mv_Rd_append hL.2.2.2.2.2.1.2.1 rfl rfl (Nat.le_of_ble_eq_true rfl) (Nat.le_of_ble_eq_true rfl) (c_Rd_append hL.2.2.2.2.2.1.2 v5 μ9) (fun x12 μ11 => ?_)
    exact J_iret (pc := 58) hX (by decide +kernel) rfl trivial
  · refine J_iconst (pc := 10) (n := -1) (v := (-1)) hX (by decide +kernel) (by decide +kernel) ?_
    exact J_iret (pc := 11) hX (by decide +kernel) rfl trivial
set_option maxRecDepth 100000 in
set_option maxHeartbeats 4000000 in
theorem c_Sf_feed {l : Launch} {G : Gx} {y : Ly} {a : Nat} (hL : LySf y a ) (v1 : Int32) (v2 : Int32) (v3 : Int32) (v4 : Int32) (v5 : Int32) (μ : Mu) : Cn l G ⟨"SaltFigures", "feed", "(IIIII)I"⟩ prog_1_method_8_code 6 (some .int) 2 [.ref (G.1 + a), .int v1, .int v2, .int v3, .int v4, .int v5] (μ, y) (emy y) rvI tpT (Sf_feed a v1 v2 v3 v4 v5 μ) := cn_of (by decide +kernel) (Nat.le_of_ble_eq_true rfl) (fun _ _ _ => ⟨List.prefix_refl _, trivial⟩) (fun X hX _ => jSf_feed hL hX v1 v2 v3 v4 v5 μ)

def Sf_game_33 (a : Nat)   (v1 : Int32) (v2 : Int32) (s0 : Int32) (μ : Mu) : Option (Int32 × Mu) := (if v2 = 0 then (if s0 = 0 then some (0, μ) else some (1, μ)) else (if v2 = 2 then some (v1 / 2, μ) else (if s0 = 0 then some ((-1), μ) else some (1, μ))))
def Sf_game (a : Nat) (v1 : Int32) (v2 : Int32) (μ : Mu) : Option (Int32 × Mu) := cl (Sf_within v1 1 300 μ) (fun x2 μ1 => (if x2 = 0 then some ((-1), μ1) else cl (Sf_within v2 0 2 μ1) (fun x4 μ3 => (if x4 = 0 then some ((-1), μ3) else (if (jrem v1 2) = 0 then Sf_game_33 a v1 v2 1 μ3 else Sf_game_33 a v1 v2 0 μ3)))))
set_option maxRecDepth 100000 in
set_option maxHeartbeats 4000000 in
theorem jSf_game_33 {X : Cx} {l : Launch} {G : Gx} {y : Ly} {a : Nat} (hL : LySf y a ) (hX : Ok X l G prog_1_method_40_code 4 (some .int) "SaltFigures")  (v1 : Int32) (v2 : Int32) (s0 : Int32)   (μ : Mu) : J X G 4 2 y (emy y) rvI tpT 33 [(1, .int v1), (2, .int v2)] [.int s0] (μ, y) (Sf_game_33 a   v1 v2 s0 μ) := by
  unfold Sf_game_33
  refine J_istore_n (k0 := 3) (pc := 33) [(3, .int s0), (1, .int v1), (2, .int v2)] hX (by decide +kernel) rfl (by decide) rfl ?_
  refine J_iload_n (k0 := 2) (pc := 34) 2 hX (by decide +kernel) rfl rfl ?_
  refine J_if_ne (pc := 35) (off := 13) (tgt := 48) hX (by decide +kernel) (by decide +kernel) (fun _ => ?_) (fun _ => ?_)
  · refine J_iload_n (k0 := 2) (pc := 48) 2 hX (by decide +kernel) rfl rfl ?_
    refine J_iconst (pc := 49) (n := 2) (v := 2) hX (by decide +kernel) (by decide +kernel) ?_
    refine J_icmp_ne (pc := 50) (off := 9) (tgt := 59) hX (by decide +kernel) (by decide +kernel) (fun _ => ?_) (fun _ => ?_)
    · refine J_iload_n (k0 := 3) (pc := 59) 0 hX (by decide +kernel) rfl rfl ?_
      refine J_if_eq (pc := 60) (off := 7) (tgt := 67) hX (by decide +kernel) (by decide +kernel) (fun _ => ?_) (fun _ => ?_)
      · refine J_iconst (pc := 67) (n := -1) (v := (-1)) hX (by decide +kernel) (by decide +kernel) ?_
        exact J_iret (pc := 68) hX (by decide +kernel) rfl trivial
      · refine J_iconst (pc := 63) (n := 1) (v := 1) hX (by decide +kernel) (by decide +kernel) ?_
        refine J_goto (pc := 64) (off := 4) (tgt := 68) hX (by decide +kernel) (by decide +kernel) ?_
        exact J_iret (pc := 68) hX (by decide +kernel) rfl trivial
    · refine J_iload_n (k0 := 1) (pc := 53) 1 hX (by decide +kernel) rfl rfl ?_
      refine J_iconst (pc := 54) (n := 2) (v := 2) hX (by decide +kernel) (by decide +kernel) ?_
      refine J_idivK (pc := 55) hX (by decide +kernel) (by decide +kernel) ?_
      refine J_goto (pc := 56) (off := 12) (tgt := 68) hX (by decide +kernel) (by decide +kernel) ?_
      exact J_iret (pc := 68) hX (by decide +kernel) rfl trivial
  · refine J_iload_n (k0 := 3) (pc := 38) 0 hX (by decide +kernel) rfl rfl ?_
    refine J_if_eq (pc := 39) (off := 7) (tgt := 46) hX (by decide +kernel) (by decide +kernel) (fun _ => ?_) (fun _ => ?_)
    · refine J_iconst (pc := 46) (n := 0) (v := 0) hX (by decide +kernel) (by decide +kernel) ?_
      exact J_iret (pc := 47) hX (by decide +kernel) rfl trivial
    · refine J_iconst (pc := 42) (n := 1) (v := 1) hX (by decide +kernel) (by decide +kernel) ?_
      refine J_goto (pc := 43) (off := 4) (tgt := 47) hX (by decide +kernel) (by decide +kernel) ?_
      exact J_iret (pc := 47) hX (by decide +kernel) rfl trivial
set_option maxRecDepth 100000 in
set_option maxHeartbeats 4000000 in
theorem jSf_game {X : Cx} {l : Launch} {G : Gx} {y : Ly} {a : Nat} (hL : LySf y a ) (hX : Ok X l G prog_1_method_40_code 4 (some .int) "SaltFigures") (v1 : Int32) (v2 : Int32) (μ : Mu) : J X G 4 2 y (emy y) rvI tpT 0 [(0, .ref (G.1 + a)), (1, .int v1), (2, .int v2)] [] (μ, y) (Sf_game a v1 v2 μ) := by
  unfold Sf_game
  refine J_iload_n (k0 := 1) (pc := 0) 1 hX (by decide +kernel) rfl rfl ?_
  refine J_iconst (pc := 1) (n := 1) (v := 1) hX (by decide +kernel) (by decide +kernel) ?_
  refine J_sipush (pc := 2) (n := 300) (v := 300) hX (by decide +kernel) (by decide +kernel) ?_
  refine J_cSi (pc := 5) (idx := 68) [.int v1, .int 1, .int 300] hX (by decide +kernel) (mq mt_2 148 (by decide +kernel)) mv_Sf_within rfl rfl (Nat.le_of_ble_eq_true rfl) (Nat.le_of_ble_eq_true rfl) (c_Sf_within v1 1 300 μ) (fun x2 μ1 => ?_)
  refine J_if_eq (pc := 8) (off := 12) (tgt := 20) hX (by decide +kernel) (by decide +kernel) (fun _ => ?_) (fun _ => ?_)
  · refine J_iconst (pc := 20) (n := -1) (v := (-1)) hX (by decide +kernel) (by decide +kernel) ?_
    exact J_iret (pc := 21) hX (by decide +kernel) rfl trivial
  · refine J_iload_n (k0 := 2) (pc := 11) 2 hX (by decide +kernel) rfl rfl ?_
    refine J_iconst (pc := 12) (n := 0) (v := 0) hX (by decide +kernel) (by decide +kernel) ?_
    refine J_iconst (pc := 13) (n := 2) (v := 2) hX (by decide +kernel) (by decide +kernel) ?_
    refine J_cSi (pc := 14) (idx := 68) [.int v2, .int 0, .int 2] hX (by decide +kernel) (mq mt_2 148 (by decide +kernel)) mv_Sf_within rfl rfl (Nat.le_of_ble_eq_true rfl) (Nat.le_of_ble_eq_true rfl) (c_Sf_within v2 0 2 μ1) (fun x4 μ3 => ?_)
    refine J_if_ne (pc := 17) (off := 5) (tgt := 22) hX (by decide +kernel) (by decide +kernel) (fun _ => ?_) (fun _ => ?_)
    · refine J_iload_n (k0 := 1) (pc := 22) 1 hX (by decide +kernel) rfl rfl ?_
      refine J_iconst (pc := 23) (n := 2) (v := 2) hX (by decide +kernel) (by decide +kernel) ?_
      refine J_iremK (pc := 24) hX (by decide +kernel) (by decide +kernel) ?_
      refine J_if_ne (pc := 25) (off := 7) (tgt := 32) hX (by decide +kernel) (by decide +kernel) (fun _ => ?_) (fun _ => ?_)
      · refine J_iconst (pc := 32) (n := 0) (v := 0) hX (by decide +kernel) (by decide +kernel) ?_
        exact J_sub [1, 2] _ rfl (jSf_game_33 hL hX v1 v2 0 μ3)
      · refine J_iconst (pc := 28) (n := 1) (v := 1) hX (by decide +kernel) (by decide +kernel) ?_
        refine J_goto (pc := 29) (off := 4) (tgt := 33) hX (by decide +kernel) (by decide +kernel) ?_
        exact J_sub [1, 2] _ rfl (jSf_game_33 hL hX v1 v2 1 μ3)
    · refine J_iconst (pc := 20) (n := -1) (v := (-1)) hX (by decide +kernel) (by decide +kernel) ?_
      exact J_iret (pc := 21) hX (by decide +kernel) rfl trivial
set_option maxRecDepth 100000 in
set_option maxHeartbeats 4000000 in
theorem c_Sf_game {l : Launch} {G : Gx} {y : Ly} {a : Nat} (hL : LySf y a ) (v1 : Int32) (v2 : Int32) (μ : Mu) : Cn l G ⟨"SaltFigures", "game", "(II)I"⟩ prog_1_method_40_code 4 (some .int) 2 [.ref (G.1 + a), .int v1, .int v2] (μ, y) (emy y) rvI tpT (Sf_game a v1 v2 μ) := cn_of (by decide +kernel) (Nat.le_of_ble_eq_true rfl) (fun _ _ _ => ⟨List.prefix_refl _, trivial⟩) (fun X hX _ => jSf_game hL hX v1 v2 μ)

def Fg_total_4b (a : Nat)  (kb4 : Int32 → Int32 → Mu → Option (Int32 × Mu)) (v1 : Int32) (v2 : Int32) (v3 : Int32)  (μ : Mu) : Option (Int32 × Mu) := gF μ a 3 (fun x1 => (if x1 ≤ v3 then some (v2, μ) else cl (Fg_get a v3 v1 μ) (fun x3 μ2 => kb4 (v2 + x3) (v3 + 1) μ2)))
def Fg_total_4 (a : Nat)  (v1 : Int32) (fu : Nat) : Int32 → Int32 → Mu → Option (Int32 × Mu) := lp (fun kb => Fg_total_4b a  kb v1) (fun _ _ _ => none) fu
def Fg_total (a : Nat) (v1 : Int32) (μ : Mu) : Option (Int32 × Mu) := Fg_total_4 a v1 FU 0 0 μ
set_option maxRecDepth 100000 in
set_option maxHeartbeats 4000000 in
theorem jFg_total_4b {X : Cx} {l : Launch} {G : Gx} {y : Ly} {a : Nat} (hL : LyFg y a ) (hX : Ok X l G prog_3_method_9_code 4 (some .int) "SaltFigures$Figures") (v1 : Int32)  {kb4 : Int32 → Int32 → Mu → Option (Int32 × Mu)}  (hk4 : ∀ (v2 : Int32) (v3 : Int32) (μ : Mu), J X G 4 2 y (emy y) rvI tpT 4 [(0, .ref (G.1 + a)), (1, .int v1), (2, .int v2), (3, .int v3)] [] (μ, y) (kb4 v2 v3 μ)) (v2 : Int32) (v3 : Int32)  (μ : Mu) : J X G 4 2 y (emy y) rvI tpT 4 [(0, .ref (G.1 + a)), (1, .int v1), (2, .int v2), (3, .int v3)] [] (μ, y) (Fg_total_4b a  kb4 v1 v2 v3  μ) := by
  unfold Fg_total_4b
  refine J_iload_n (k0 := 3) (pc := 4) 3 hX (by decide +kernel) rfl rfl ?_
  refine J_aload_n (k0 := 0) (pc := 5) 0 hX (by decide +kernel) rfl rfl ?_
  refine J_gF (pc := 6) hX (by decide +kernel) fl_Fg_34 hL.1 rfl (fun x1 => ?_)
  refine J_icmp_ge (pc := 9) (off := 18) (tgt := 27) hX (by decide +kernel) (by decide +kernel) (fun _ => ?_) (fun _ => ?_)
  · refine J_iload_n (k0 := 2) (pc := 27) 2 hX (by decide +kernel) rfl rfl ?_
    exact J_iret (pc := 28) hX (by decide +kernel) rfl trivial
  · refine J_iload_n (k0 := 2) (pc := 12) 2 hX (by decide +kernel) rfl rfl ?_
    refine J_aload_n (k0 := 0) (pc := 13) 0 hX (by decide +kernel) rfl rfl ?_
    refine J_iload_n (k0 := 3) (pc := 14) 3 hX (by decide +kernel) rfl rfl ?_
    refine J_iload_n (k0 := 1) (pc := 15) 1 hX (by decide +kernel) rfl rfl ?_
    refine J_cVi (pc := 16) (idx := 60) [.int v3, .int v1] hX (by decide +kernel) (mq mt_2 167 (by decide +kernel)) mv_Fg_get hL.1 rfl rfl (Nat.le_of_ble_eq_true rfl) (Nat.le_of_ble_eq_true rfl) (c_Fg_get hL v3 v1 μ) (fun x3 μ2 => ?_)
    refine J_iadd (pc := 19) hX (by decide +kernel) ?_
    refine J_istore_n (k0 := 2) (pc := 20) [(2, .int (v2 + x3)), (0, .ref (G.1 + a)), (1, .int v1), (3, .int v3)] hX (by decide +kernel) rfl (by decide) rfl ?_
    refine J_iinc (pc := 21) (n := 1) 3 [(3, .int (v3 + 1)), (2, .int (v2 + x3)), (0, .ref (G.1 + a)), (1, .int v1)] hX (by decide +kernel) rfl rfl (by decide) rfl ?_
    refine J_goto (pc := 24) (off := -20) (tgt := 4) hX (by decide +kernel) (by decide +kernel) ?_
    exact J_sub [2, 3, 1, 0] _ rfl (hk4 (v2 + x3) (v3 + 1) μ2)
set_option maxRecDepth 100000 in
set_option maxHeartbeats 4000000 in
theorem jFg_total_4 {X : Cx} {l : Launch} {G : Gx} {y : Ly} {a : Nat} (hL : LyFg y a ) (hX : Ok X l G prog_3_method_9_code 4 (some .int) "SaltFigures$Figures") (v1 : Int32)   : ∀ (fu : Nat) (v2 : Int32) (v3 : Int32) (μ : Mu), J X G 4 2 y (emy y) rvI tpT 4 [(0, .ref (G.1 + a)), (1, .int v1), (2, .int v2), (3, .int v3)] [] (μ, y) (Fg_total_4 a  v1 fu v2 v3 μ) := by
  intro fu
  induction fu with
  | zero => intros; exact J_none
  | succ fu ih => intro v2 v3 μ; exact jFg_total_4b hL hX v1  ih v2 v3 μ
set_option maxRecDepth 100000 in
set_option maxHeartbeats 4000000 in
theorem jFg_total {X : Cx} {l : Launch} {G : Gx} {y : Ly} {a : Nat} (hL : LyFg y a ) (hX : Ok X l G prog_3_method_9_code 4 (some .int) "SaltFigures$Figures") (v1 : Int32) (μ : Mu) : J X G 4 2 y (emy y) rvI tpT 0 [(0, .ref (G.1 + a)), (1, .int v1)] [] (μ, y) (Fg_total a v1 μ) := by
  unfold Fg_total
  refine J_iconst (pc := 0) (n := 0) (v := 0) hX (by decide +kernel) (by decide +kernel) ?_
  refine J_istore_n (k0 := 2) (pc := 1) [(2, .int 0), (0, .ref (G.1 + a)), (1, .int v1)] hX (by decide +kernel) rfl (by decide) rfl ?_
  refine J_iconst (pc := 2) (n := 0) (v := 0) hX (by decide +kernel) (by decide +kernel) ?_
  refine J_istore_n (k0 := 3) (pc := 3) [(3, .int 0), (2, .int 0), (0, .ref (G.1 + a)), (1, .int v1)] hX (by decide +kernel) rfl (by decide) rfl ?_
  exact J_sub [2, 3, 1, 0] _ rfl (jFg_total_4 hL hX v1 FU 0 0 μ)
set_option maxRecDepth 100000 in
set_option maxHeartbeats 4000000 in
theorem c_Fg_total {l : Launch} {G : Gx} {y : Ly} {a : Nat} (hL : LyFg y a ) (v1 : Int32) (μ : Mu) : Cn l G ⟨"SaltFigures$Figures", "total", "(I)I"⟩ prog_3_method_9_code 4 (some .int) 2 [.ref (G.1 + a), .int v1] (μ, y) (emy y) rvI tpT (Fg_total a v1 μ) := cn_of (by decide +kernel) (Nat.le_of_ble_eq_true rfl) (fun _ _ _ => ⟨List.prefix_refl _, trivial⟩) (fun X hX _ => jFg_total hL hX v1 μ)

def Sf_goes_37b (a : Nat)  (kb37 : Int32 → Mu → Option (Int32 × Mu)) (v1 : Int32) (v2 : Int32) (v3 : Int32)  (μ : Mu) : Option (Int32 × Mu) := (if v1 ≤ v3 then (if v2 = 0 then cl (Fg_total (a + 42) 1 μ) (fun x2 μ1 => some (x2, μ1)) else (if v2 = 1 then gF μ (a + 42) 5 (fun x3 => some (x3, μ)) else (if v2 = 2 then cl (Fg_total (a + 42) 2 μ) (fun x5 μ4 => some (x5, μ4)) else cl (Fg_total (a + 42) 4 μ) (fun x7 μ6 => some (x7, μ6))))) else cl (Dy_goBy (a + 39) (a + 1) (a + 42) μ) (fun x9 μ8 => kb37 (v3 + 1) μ8))
def Sf_goes_37 (a : Nat)  (v1 : Int32) (v2 : Int32) (fu : Nat) : Int32 → Mu → Option (Int32 × Mu) := lp (fun kb => Sf_goes_37b a  kb v1 v2) (fun _ _ => none) fu
def Sf_goes (a : Nat) (v1 : Int32) (v2 : Int32) (μ : Mu) : Option (Int32 × Mu) := cl (Sf_within v1 1 60 μ) (fun x2 μ1 => (if x2 = 0 then some ((-1), μ1) else cl (Sf_within v2 0 3 μ1) (fun x4 μ3 => (if x4 = 0 then some ((-1), μ3) else cl (Fg_copyFrom (a + 42) (a + 1 + 1) μ3) (fun _ μ5 => Sf_goes_37 a v1 v2 FU 0 μ5)))))
set_option maxRecDepth 100000 in
set_option maxHeartbeats 4000000 in
theorem jSf_goes_37b {X : Cx} {l : Launch} {G : Gx} {y : Ly} {a : Nat} (hL : LySf y a ) (hX : Ok X l G prog_1_method_15_code 4 (some .int) "SaltFigures") (v1 : Int32) (v2 : Int32)  {kb37 : Int32 → Mu → Option (Int32 × Mu)}  (hk37 : ∀ (v3 : Int32) (μ : Mu), J X G 4 8 y (emy y) rvI tpT 37 [(0, .ref (G.1 + a)), (1, .int v1), (2, .int v2), (3, .int v3)] [] (μ, y) (kb37 v3 μ)) (v3 : Int32)  (μ : Mu) : J X G 4 8 y (emy y) rvI tpT 37 [(0, .ref (G.1 + a)), (1, .int v1), (2, .int v2), (3, .int v3)] [] (μ, y) (Sf_goes_37b a  kb37 v1 v2 v3  μ) := by
  unfold Sf_goes_37b
  refine J_iload_n (k0 := 3) (pc := 37) 3 hX (by decide +kernel) rfl rfl ?_
  refine J_iload_n (k0 := 1) (pc := 38) 1 hX (by decide +kernel) rfl rfl ?_
  refine J_icmp_ge (pc := 39) (off := 21) (tgt := 60) hX (by decide +kernel) (by decide +kernel) (fun _ => ?_) (fun _ => ?_)
  · refine J_iload_n (k0 := 2) (pc := 60) 2 hX (by decide +kernel) rfl rfl ?_
    refine J_ite _ (fun hc0 => ?_) (fun hc0 => ?_)
    · refine J_tsIn (pc := 61) (dflt := 53) (lo := 0) (hi := 2) (offs := #[27, 36, 44]) (len := 27) (off := 27) (tgt := 88) 0 hc0 hX (by decide +kernel) (by decide +kernel) (by decide +kernel) (by decide +kernel) (by decide +kernel) ?_
      refine J_aload_n (k0 := 0) (pc := 88) 0 hX (by decide +kernel) rfl rfl ?_
      refine J_gr (pc := 89) hX (by decide +kernel) fl_Sf_30 hL.1 rfl hL.2.2.2.1.1 ?_
      refine J_iconst (pc := 92) (n := 1) (v := 1) hX (by decide +kernel) (by decide +kernel) ?_
      refine J_cVi (pc := 93) (idx := 200) [.int 1] hX (by decide +kernel) (mq mt_4 129 (by decide +kernel)) mv_Fg_total hL.2.2.2.1.2.1 rfl rfl (Nat.le_of_ble_eq_true rfl) (Nat.le_of_ble_eq_true rfl) (c_Fg_total hL.2.2.2.1.2 1 μ) (fun x2 μ1 => ?_)
      exact J_iret (pc := 96) hX (by decide +kernel) rfl trivial
    · refine J_ite _ (fun hc1 => ?_) (fun hc1 => ?_)
      · refine J_tsIn (pc := 61) (dflt := 53) (lo := 0) (hi := 2) (offs := #[27, 36, 44]) (len := 27) (off := 36) (tgt := 97) 1 hc1 hX (by decide +kernel) (by decide +kernel) (by decide +kernel) (by decide +kernel) (by decide +kernel) ?_
        refine J_aload_n (k0 := 0) (pc := 97) 0 hX (by decide +kernel) rfl rfl ?_
        refine J_gr (pc := 98) hX (by decide +kernel) fl_Sf_30 hL.1 rfl hL.2.2.2.1.1 ?_
        refine J_gF (pc := 101) hX (by decide +kernel) fl_Sf_203 hL.2.2.2.1.2.1 rfl (fun x3 => ?_)
        exact J_iret (pc := 104) hX (by decide +kernel) rfl trivial
      · refine J_ite _ (fun hc2 => ?_) (fun hc2 => ?_)
        · refine J_tsIn (pc := 61) (dflt := 53) (lo := 0) (hi := 2) (offs := #[27, 36, 44]) (len := 27) (off := 44) (tgt := 105) 2 hc2 hX (by decide +kernel) (by decide +kernel) (by decide +kernel) (by decide +kernel) (by decide +kernel) ?_
          refine J_aload_n (k0 := 0) (pc := 105) 0 hX (by decide +kernel) rfl rfl ?_
          refine J_gr (pc := 106) hX (by decide +kernel) fl_Sf_30 hL.1 rfl hL.2.2.2.1.1 ?_
          refine J_iconst (pc := 109) (n := 2) (v := 2) hX (by decide +kernel) (by decide +kernel) ?_
          refine J_cVi (pc := 110) (idx := 200) [.int 2] hX (by decide +kernel) (mq mt_4 129 (by decide +kernel)) mv_Fg_total hL.2.2.2.1.2.1 rfl rfl (Nat.le_of_ble_eq_true rfl) (Nat.le_of_ble_eq_true rfl) (c_Fg_total hL.2.2.2.1.2 2 μ) (fun x5 μ4 => ?_)
          exact J_iret (pc := 113) hX (by decide +kernel) rfl trivial
        · refine J_tsOut (pc := 61) (dflt := 53) (lo := 0) (hi := 2) (offs := #[27, 36, 44]) (len := 27) (tgt := 114) hX (by decide +kernel) (by simp only [i32_eq] at hc0 hc1 hc2; have q0 : ((0 : Int32)).toInt = 0 := (by decide +kernel) ; have q1 : ((1 : Int32)).toInt = 1 := (by decide +kernel) ; have q2 : ((2 : Int32)).toInt = 2 := (by decide +kernel); omega) (by decide +kernel) ?_
          refine J_aload_n (k0 := 0) (pc := 114) 0 hX (by decide +kernel) rfl rfl ?_
          refine J_gr (pc := 115) hX (by decide +kernel) fl_Sf_30 hL.1 rfl hL.2.2.2.1.1 ?_
          refine J_iconst (pc := 118) (n := 4) (v := 4) hX (by decide +kernel) (by decide +kernel) ?_
          refine J_cVi (pc := 119) (idx := 200) [.int 4] hX (by decide +kernel) (mq mt_4 129 (by decide +kernel)) mv_Fg_total hL.2.2.2.1.2.1 rfl rfl (Nat.le_of_ble_eq_true rfl) (Nat.le_of_ble_eq_true rfl) (c_Fg_total hL.2.2.2.1.2 4 μ) (fun x7 μ6 => ?_)
          exact J_iret (pc := 122) hX (by decide +kernel) rfl trivial
  · refine J_aload_n (k0 := 0) (pc := 42) 0 hX (by decide +kernel) rfl rfl ?_
    refine J_gr (pc := 43) hX (by decide +kernel) fl_Sf_21 hL.1 rfl hL.2.2.1.1 ?_
    refine J_aload_n (k0 := 0) (pc := 46) 0 hX (by decide +kernel) rfl rfl ?_
    refine J_gr (pc := 47) hX (by decide +kernel) fl_Sf_30 hL.1 rfl hL.2.2.2.1.1 ?_
    refine J_cVi (pc := 50) (idx := 124) [.ref (G.1 + (a + 42))] hX (by decide +kernel) (mq mt_3 39 (by decide +kernel)) mv_Dy_goBy hL.2.2.1.2.1 rfl rfl (Nat.le_of_ble_eq_true rfl) (Nat.le_of_ble_eq_true rfl) (c_Dy_goBy hL.2.2.1.2 hL.2.2.2.1.2 μ) (fun x9 μ8 => ?_)
    refine J_pop (pc := 53) hX (by decide +kernel) rfl ?_
    refine J_iinc (pc := 54) (n := 1) 3 [(3, .int (v3 + 1)), (0, .ref (G.1 + a)), (1, .int v1), (2, .int v2)] hX (by decide +kernel) rfl rfl (by decide) rfl ?_
    refine J_goto (pc := 57) (off := -20) (tgt := 37) hX (by decide +kernel) (by decide +kernel) ?_
    exact J_sub [1, 2, 3, 0] _ rfl (hk37 (v3 + 1) μ8)
set_option maxRecDepth 100000 in
set_option maxHeartbeats 4000000 in
theorem jSf_goes_37 {X : Cx} {l : Launch} {G : Gx} {y : Ly} {a : Nat} (hL : LySf y a ) (hX : Ok X l G prog_1_method_15_code 4 (some .int) "SaltFigures") (v1 : Int32) (v2 : Int32)   : ∀ (fu : Nat) (v3 : Int32) (μ : Mu), J X G 4 8 y (emy y) rvI tpT 37 [(0, .ref (G.1 + a)), (1, .int v1), (2, .int v2), (3, .int v3)] [] (μ, y) (Sf_goes_37 a  v1 v2 fu v3 μ) := by
  intro fu
  induction fu with
  | zero => intros; exact J_none
  | succ fu ih => intro v3 μ; exact jSf_goes_37b hL hX v1 v2  ih v3 μ
set_option maxRecDepth 100000 in
set_option maxHeartbeats 4000000 in
theorem jSf_goes {X : Cx} {l : Launch} {G : Gx} {y : Ly} {a : Nat} (hL : LySf y a ) (hX : Ok X l G prog_1_method_15_code 4 (some .int) "SaltFigures") (v1 : Int32) (v2 : Int32) (μ : Mu) : J X G 4 8 y (emy y) rvI tpT 0 [(0, .ref (G.1 + a)), (1, .int v1), (2, .int v2)] [] (μ, y) (Sf_goes a v1 v2 μ) := by
  unfold Sf_goes
  refine J_iload_n (k0 := 1) (pc := 0) 1 hX (by decide +kernel) rfl rfl ?_
  refine J_iconst (pc := 1) (n := 1) (v := 1) hX (by decide +kernel) (by decide +kernel) ?_
  refine J_bipush (pc := 2) (n := 60) (v := 60) hX (by decide +kernel) (by decide +kernel) ?_
  refine J_cSi (pc := 4) (idx := 68) [.int v1, .int 1, .int 60] hX (by decide +kernel) (mq mt_2 148 (by decide +kernel)) mv_Sf_within rfl rfl (Nat.le_of_ble_eq_true rfl) (Nat.le_of_ble_eq_true rfl) (c_Sf_within v1 1 60 μ) (fun x2 μ1 => ?_)
  refine J_if_eq (pc := 7) (off := 12) (tgt := 19) hX (by decide +kernel) (by decide +kernel) (fun _ => ?_) (fun _ => ?_)
  · refine J_iconst (pc := 19) (n := -1) (v := (-1)) hX (by decide +kernel) (by decide +kernel) ?_
    exact J_iret (pc := 20) hX (by decide +kernel) rfl trivial
  · refine J_iload_n (k0 := 2) (pc := 10) 2 hX (by decide +kernel) rfl rfl ?_
    refine J_iconst (pc := 11) (n := 0) (v := 0) hX (by decide +kernel) (by decide +kernel) ?_
    refine J_iconst (pc := 12) (n := 3) (v := 3) hX (by decide +kernel) (by decide +kernel) ?_
    refine J_cSi (pc := 13) (idx := 68) [.int v2, .int 0, .int 3] hX (by decide +kernel) (mq mt_2 148 (by decide +kernel)) mv_Sf_within rfl rfl (Nat.le_of_ble_eq_true rfl) (Nat.le_of_ble_eq_true rfl) (c_Sf_within v2 0 3 μ1) (fun x4 μ3 => ?_)
    refine J_if_ne (pc := 16) (off := 5) (tgt := 21) hX (by decide +kernel) (by decide +kernel) (fun _ => ?_) (fun _ => ?_)
    · refine J_aload_n (k0 := 0) (pc := 21) 0 hX (by decide +kernel) rfl rfl ?_
      refine J_gr (pc := 22) hX (by decide +kernel) fl_Sf_30 hL.1 rfl hL.2.2.2.1.1 ?_
      refine J_aload_n (k0 := 0) (pc := 25) 0 hX (by decide +kernel) rfl rfl ?_
      refine J_gr (pc := 26) hX (by decide +kernel) fl_Sf_12 hL.1 rfl hL.2.1.1 ?_
      refine J_gr (pc := 29) hX (by decide +kernel) fl_Sf_58 hL.2.1.2.1 rfl hL.2.1.2.2.1.1 ?_
      refine J_cVv (pc := 32) (idx := 196) [.ref (G.1 + (a + 1 + 1))] hX (by decide +kernel) (mq mt_2 193 (by decide +kernel)) mv_Fg_copyFrom hL.2.2.2.1.2.1 rfl rfl (Nat.le_of_ble_eq_true rfl) (Nat.le_of_ble_eq_true rfl) (c_Fg_copyFrom hL.2.2.2.1.2 hL.2.1.2.2.1.2 μ3) (fun μ5 => ?_)
      refine J_iconst (pc := 35) (n := 0) (v := 0) hX (by decide +kernel) (by decide +kernel) ?_
      refine J_istore_n (k0 := 3) (pc := 36) [(3, .int 0), (0, .ref (G.1 + a)), (1, .int v1), (2, .int v2)] hX (by decide +kernel) rfl (by decide) rfl ?_
      exact J_sub [1, 2, 3, 0] _ rfl (jSf_goes_37 hL hX v1 v2 FU 0 μ5)
    · refine J_iconst (pc := 19) (n := -1) (v := (-1)) hX (by decide +kernel) (by decide +kernel) ?_
      exact J_iret (pc := 20) hX (by decide +kernel) rfl trivial
set_option maxRecDepth 100000 in
set_option maxHeartbeats 4000000 in
theorem c_Sf_goes {l : Launch} {G : Gx} {y : Ly} {a : Nat} (hL : LySf y a ) (v1 : Int32) (v2 : Int32) (μ : Mu) : Cn l G ⟨"SaltFigures", "goes", "(II)I"⟩ prog_1_method_15_code 4 (some .int) 8 [.ref (G.1 + a), .int v1, .int v2] (μ, y) (emy y) rvI tpT (Sf_goes a v1 v2 μ) := cn_of (by decide +kernel) (Nat.le_of_ble_eq_true rfl) (fun _ _ _ => ⟨List.prefix_refl _, trivial⟩) (fun X hX _ => jSf_goes hL hX v1 v2 μ)

def Sf_heap (a : Nat) (v1 : Int32) (μ : Mu) : Option (Int32 × Mu) := cl (Rw_tell (a + 1 + 17 + 19) 8 v1 μ) (fun x2 μ1 => some (x2, μ1))
set_option maxRecDepth 100000 in
set_option maxHeartbeats 4000000 in
theorem jSf_heap {X : Cx} {l : Launch} {G : Gx} {y : Ly} {a : Nat} (hL : LySf y a ) (hX : Ok X l G prog_1_method_38_code 2 (some .int) "SaltFigures") (v1 : Int32) (μ : Mu) : J X G 2 3 y (emy y) rvI tpT 0 [(0, .ref (G.1 + a)), (1, .int v1)] [] (μ, y) (Sf_heap a v1 μ) := by
  unfold Sf_heap
  refine J_aload_n (k0 := 0) (pc := 0) 0 hX (by decide +kernel) rfl rfl ?_
  refine J_gr (pc := 1) hX (by decide +kernel) fl_Sf_12 hL.1 rfl hL.2.1.1 ?_
  refine J_gr (pc := 4) hX (by decide +kernel) fl_Sf_36 hL.2.1.2.1 rfl hL.2.1.2.2.2.2.2.1.1 ?_
  refine J_gr (pc := 7) hX (by decide +kernel) fl_Sf_350 hL.2.1.2.2.2.2.2.1.2.1 rfl hL.2.1.2.2.2.2.2.1.2.2.2.2.2.2.2.2.2.2.2.1.1 ?_
  refine J_iload_n (k0 := 1) (pc := 10) 1 hX (by decide +kernel) rfl rfl ?_
  refine J_cVi (pc := 11) (idx := 274) [.int v1] hX (by decide +kernel) (mq mt_5 18 (by decide +kernel)) mv_Rw_tell hL.2.1.2.2.2.2.2.1.2.2.2.2.2.2.2.2.2.2.2.1.2.1 rfl rfl (Nat.le_of_ble_eq_true rfl) (Nat.le_of_ble_eq_true rfl) (c_Rw_tell hL.2.1.2.2.2.2.2.1.2.2.2.2.2.2.2.2.2.2.2.1.2 v1 μ) (fun x2 μ1 => ?_)
  exact J_iret (pc := 14) hX (by decide +kernel) rfl trivial
set_option maxRecDepth 100000 in
set_option maxHeartbeats 4000000 in
theorem c_Sf_heap {l : Launch} {G : Gx} {y : Ly} {a : Nat} (hL : LySf y a ) (v1 : Int32) (μ : Mu) : Cn l G ⟨"SaltFigures", "heap", "(I)I"⟩ prog_1_method_38_code 2 (some .int) 3 [.ref (G.1 + a), .int v1] (μ, y) (emy y) rvI tpT (Sf_heap a v1 μ) := cn_of (by decide +kernel) (Nat.le_of_ble_eq_true rfl) (fun _ _ _ => ⟨List.prefix_refl _, trivial⟩) (fun X hX _ => jSf_heap hL hX v1 μ)

def Th_settle_152 (a tt : Nat) (kb57 : Int32 → Int32 → Int32 → Mu → Option (Int32 × Mu))  (v1 : Int32) (v2 : Int32) (v3 : Int32) (v4 : Int32)  (μ : Mu) : Option (Int32 × Mu) := kb57 v2 v3 (v4 + 1) μ
def Th_settle_133 (a tt : Nat) (kb57 : Int32 → Int32 → Int32 → Mu → Option (Int32 × Mu))  (v1 : Int32) (v2 : Int32) (v3 : Int32) (v4 : Int32)  (μ : Mu) : Option (Int32 × Mu) := Th_settle_152 a tt kb57 v1 (v2 + 1) (jmin (v3 + 1) (v1 - 1)) v4 μ
def Th_settle_92 (a tt : Nat) (kb57 : Int32 → Int32 → Int32 → Mu → Option (Int32 × Mu))  (v1 : Int32) (v2 : Int32) (v3 : Int32) (v4 : Int32) (s0 : Int32) (μ : Mu) : Option (Int32 × Mu) := ldA μ (a + 1) 361 v3 (fun x1 => (if x1 < (s0 + 3) then Th_settle_152 a tt kb57 v1 v2 (v3 + (-1)) v4 μ else ldA μ (a + 1) 361 v3 (fun x2 => stA μ (a + 1) 361 v3 (x2 - 1) (fun μ3 => (if v3 ≤ 0 then Th_settle_133 a tt kb57 v1 v2 v3 v4 μ3 else ldA μ3 (a + 1) 361 (v3 - 1) (fun x4 => stA μ3 (a + 1) 361 (v3 - 1) (x4 + 1) (fun μ5 => Th_settle_133 a tt kb57 v1 v2 v3 v4 μ5)))))))
def Th_settle_57b (a tt : Nat)  (kb57 : Int32 → Int32 → Int32 → Mu → Option (Int32 × Mu)) (v1 : Int32) (v2 : Int32) (v3 : Int32) (v4 : Int32)  (μ : Mu) : Option (Int32 × Mu) := (if 20000 ≤ v4 then some (v2, μ) else (if v3 < 0 then some (v2, μ) else (if 361 ≤ v3 then some (v2, μ) else (if v3 = 0 then Th_settle_92 a tt kb57 v1 v2 v3 v4 0 μ else ldA μ (a + 1) 361 (v3 - 1) (fun x1 => Th_settle_92 a tt kb57 v1 v2 v3 v4 x1 μ)))))
def Th_settle_57 (a tt : Nat)  (v1 : Int32) (fu : Nat) : Int32 → Int32 → Int32 → Mu → Option (Int32 × Mu) := lp (fun kb => Th_settle_57b a tt  kb v1) (fun _ _ _ _ => none) fu
def Th_settle_48 (a tt : Nat)   (v1 : Int32)  (μ : Mu) : Option (Int32 × Mu) := Th_settle_57 a tt v1 FU 0 (v1 - 1) 0 μ
def Th_settle_13b (a tt : Nat)  (kb13 : Int32 → Mu → Option (Int32 × Mu)) (v1 : Int32) (v2 : Int32)  (μ : Mu) : Option (Int32 × Mu) := (if v1 ≤ v2 then Th_settle_48 a tt v1 μ else (if 361 ≤ v2 then Th_settle_48 a tt v1 μ else cl (Rw_at (tt + 19) 8 v2 μ) (fun x2 μ1 => stA μ1 (a + 1) 361 v2 x2 (fun μ3 => kb13 (v2 + 1) μ3))))
def Th_settle_13 (a tt : Nat)  (v1 : Int32) (fu : Nat) : Int32 → Mu → Option (Int32 × Mu) := lp (fun kb => Th_settle_13b a tt  kb v1) (fun _ _ => none) fu
def Th_settle (a tt : Nat)  (μ : Mu) : Option (Int32 × Mu) := gF μ (tt + 19) 3 (fun x1 => Th_settle_13 a tt x1 FU 0 μ)
set_option maxRecDepth 100000 in
set_option maxHeartbeats 4000000 in
theorem jTh_settle_152 {X : Cx} {l : Launch} {G : Gx} {y : Ly} {a tt : Nat} (hL : LyTh y a tt) (hX : Ok X l G prog_10_method_27_code 6 (some .int) "SaltFigures$Thinker")  (v1 : Int32) (v2 : Int32) (v3 : Int32) (v4 : Int32)  {kb57 : Int32 → Int32 → Int32 → Mu → Option (Int32 × Mu)} (hk57 : ∀ (v2 : Int32) (v3 : Int32) (v4 : Int32) (μ : Mu), J X G 6 3 y (emy y) rvI tpT 57 [(0, .ref (G.1 + a)), (1, .int v1), (2, .int v2), (3, .int v3), (4, .int v4)] [] (μ, y) (kb57 v2 v3 v4 μ)) (μ : Mu) : J X G 6 3 y (emy y) rvI tpT 152 [(0, .ref (G.1 + a)), (1, .int v1), (2, .int v2), (3, .int v3), (4, .int v4)] [] (μ, y) (Th_settle_152 a tt kb57  v1 v2 v3 v4  μ) := by
  unfold Th_settle_152
  refine J_iinc (pc := 152) (n := 1) 4 [(4, .int (v4 + 1)), (0, .ref (G.1 + a)), (1, .int v1), (2, .int v2), (3, .int v3)] hX (by decide +kernel) rfl rfl (by decide) rfl ?_
  refine J_goto (pc := 155) (off := -98) (tgt := 57) hX (by decide +kernel) (by decide +kernel) ?_
  exact J_sub [1, 2, 3, 4, 0] _ rfl (hk57 v2 v3 (v4 + 1) μ)
set_option maxRecDepth 100000 in
set_option maxHeartbeats 4000000 in
theorem jTh_settle_133 {X : Cx} {l : Launch} {G : Gx} {y : Ly} {a tt : Nat} (hL : LyTh y a tt) (hX : Ok X l G prog_10_method_27_code 6 (some .int) "SaltFigures$Thinker")  (v1 : Int32) (v2 : Int32) (v3 : Int32) (v4 : Int32)  {kb57 : Int32 → Int32 → Int32 → Mu → Option (Int32 × Mu)} (hk57 : ∀ (v2 : Int32) (v3 : Int32) (v4 : Int32) (μ : Mu), J X G 6 3 y (emy y) rvI tpT 57 [(0, .ref (G.1 + a)), (1, .int v1), (2, .int v2), (3, .int v3), (4, .int v4)] [] (μ, y) (kb57 v2 v3 v4 μ)) (μ : Mu) : J X G 6 3 y (emy y) rvI tpT 133 [(0, .ref (G.1 + a)), (1, .int v1), (2, .int v2), (3, .int v3), (4, .int v4)] [] (μ, y) (Th_settle_133 a tt kb57  v1 v2 v3 v4  μ) := by
  unfold Th_settle_133
  refine J_iinc (pc := 133) (n := 1) 2 [(2, .int (v2 + 1)), (0, .ref (G.1 + a)), (1, .int v1), (3, .int v3), (4, .int v4)] hX (by decide +kernel) rfl rfl (by decide) rfl ?_
  refine J_iload_n (k0 := 3) (pc := 136) 3 hX (by decide +kernel) rfl rfl ?_
  refine J_iconst (pc := 137) (n := 1) (v := 1) hX (by decide +kernel) (by decide +kernel) ?_
  refine J_iadd (pc := 138) hX (by decide +kernel) ?_
  refine J_iload_n (k0 := 1) (pc := 139) 2 hX (by decide +kernel) rfl rfl ?_
  refine J_iconst (pc := 140) (n := 1) (v := 1) hX (by decide +kernel) (by decide +kernel) ?_
  refine J_isub (pc := 141) hX (by decide +kernel) ?_
  refine J_mmin (pc := 142) (idx := 118) hX (by decide +kernel) (mq mt_5 118 (by decide +kernel)) (Nat.le_of_ble_eq_true rfl) (Nat.le_of_ble_eq_true rfl) ?_
  refine J_istore_n (k0 := 3) (pc := 145) [(3, .int (jmin (v3 + 1) (v1 - 1))), (2, .int (v2 + 1)), (0, .ref (G.1 + a)), (1, .int v1), (4, .int v4)] hX (by decide +kernel) rfl (by decide) rfl ?_
  refine J_goto (pc := 146) (off := 6) (tgt := 152) hX (by decide +kernel) (by decide +kernel) ?_
  exact J_sub [2, 3, 1, 0, 4] _ rfl (jTh_settle_152 hL hX v1 (v2 + 1) (jmin (v3 + 1) (v1 - 1)) v4 hk57 μ)
set_option maxRecDepth 100000 in
set_option maxHeartbeats 4000000 in
theorem jTh_settle_92 {X : Cx} {l : Launch} {G : Gx} {y : Ly} {a tt : Nat} (hL : LyTh y a tt) (hX : Ok X l G prog_10_method_27_code 6 (some .int) "SaltFigures$Thinker")  (v1 : Int32) (v2 : Int32) (v3 : Int32) (v4 : Int32) (s0 : Int32) {kb57 : Int32 → Int32 → Int32 → Mu → Option (Int32 × Mu)} (hk57 : ∀ (v2 : Int32) (v3 : Int32) (v4 : Int32) (μ : Mu), J X G 6 3 y (emy y) rvI tpT 57 [(0, .ref (G.1 + a)), (1, .int v1), (2, .int v2), (3, .int v3), (4, .int v4)] [] (μ, y) (kb57 v2 v3 v4 μ)) (μ : Mu) : J X G 6 3 y (emy y) rvI tpT 92 [(0, .ref (G.1 + a)), (1, .int v1), (2, .int v2), (3, .int v3), (4, .int v4)] [.int s0] (μ, y) (Th_settle_92 a tt kb57  v1 v2 v3 v4 s0 μ) := by
  unfold Th_settle_92
  refine J_istore (pc := 92) [(5, .int s0), (0, .ref (G.1 + a)), (1, .int v1), (2, .int v2), (3, .int v3), (4, .int v4)] hX (by decide +kernel) (by decide) rfl ?_
  refine J_aload_n (k0 := 0) (pc := 94) 1 hX (by decide +kernel) rfl rfl ?_
  refine J_gr (pc := 95) hX (by decide +kernel) fl_Th_11 hL.1 rfl hL.2.2.1.1 ?_
  refine J_iload_n (k0 := 3) (pc := 98) 4 hX (by decide +kernel) rfl rfl ?_
  refine J_ldA (pc := 99) hX (by decide +kernel) hL.2.2.1.2 (fun x1 => ?_)
  refine J_iload (pc := 100) 0 hX (by decide +kernel) rfl ?_
  refine J_iconst (pc := 102) (n := 3) (v := 3) hX (by decide +kernel) (by decide +kernel) ?_
  refine J_iadd (pc := 103) hX (by decide +kernel) ?_
  refine J_icmp_lt (pc := 104) (off := 45) (tgt := 149) hX (by decide +kernel) (by decide +kernel) (fun _ => ?_) (fun _ => ?_)
  · refine J_iinc (pc := 149) (n := -1) 4 [(3, .int (v3 + (-1))), (5, .int s0), (0, .ref (G.1 + a)), (1, .int v1), (2, .int v2), (4, .int v4)] hX (by decide +kernel) rfl rfl (by decide) rfl ?_
    exact J_sub [2, 3, 4, 0, 5] _ rfl (jTh_settle_152 hL hX v1 v2 (v3 + (-1)) v4 hk57 μ)
  · refine J_aload_n (k0 := 0) (pc := 107) 1 hX (by decide +kernel) rfl rfl ?_
    refine J_gr (pc := 108) hX (by decide +kernel) fl_Th_11 hL.1 rfl hL.2.2.1.1 ?_
    refine J_iload_n (k0 := 3) (pc := 111) 4 hX (by decide +kernel) rfl rfl ?_
    refine J_dup2 (pc := 112) hX (by decide +kernel) rfl rfl ?_
    refine J_ldA (pc := 113) hX (by decide +kernel) hL.2.2.1.2 (fun x2 => ?_)
    refine J_iconst (pc := 114) (n := 1) (v := 1) hX (by decide +kernel) (by decide +kernel) ?_
    refine J_isub (pc := 115) hX (by decide +kernel) ?_
    refine J_stA (pc := 116) hX (by decide +kernel) hL.2.2.1.2 (fun μ3 => ?_)
    refine J_iload_n (k0 := 3) (pc := 117) 4 hX (by decide +kernel) rfl rfl ?_
    refine J_if_le (pc := 118) (off := 15) (tgt := 133) hX (by decide +kernel) (by decide +kernel) (fun _ => ?_) (fun _ => ?_)
    · exact J_sub [1, 2, 3, 4, 5] _ rfl (jTh_settle_133 hL hX v1 v2 v3 v4 hk57 μ3)
    · refine J_aload_n (k0 := 0) (pc := 121) 1 hX (by decide +kernel) rfl rfl ?_
      refine J_gr (pc := 122) hX (by decide +kernel) fl_Th_11 hL.1 rfl hL.2.2.1.1 ?_
      refine J_iload_n (k0 := 3) (pc := 125) 4 hX (by decide +kernel) rfl rfl ?_
      refine J_iconst (pc := 126) (n := 1) (v := 1) hX (by decide +kernel) (by decide +kernel) ?_
      refine J_isub (pc := 127) hX (by decide +kernel) ?_
      refine J_dup2 (pc := 128) hX (by decide +kernel) rfl rfl ?_
      refine J_ldA (pc := 129) hX (by decide +kernel) hL.2.2.1.2 (fun x4 => ?_)
      refine J_iconst (pc := 130) (n := 1) (v := 1) hX (by decide +kernel) (by decide +kernel) ?_
      refine J_iadd (pc := 131) hX (by decide +kernel) ?_
      refine J_stA (pc := 132) hX (by decide +kernel) hL.2.2.1.2 (fun μ5 => ?_)
      exact J_sub [1, 2, 3, 4, 5] _ rfl (jTh_settle_133 hL hX v1 v2 v3 v4 hk57 μ5)
set_option maxRecDepth 100000 in
set_option maxHeartbeats 4000000 in
theorem jTh_settle_57b {X : Cx} {l : Launch} {G : Gx} {y : Ly} {a tt : Nat} (hL : LyTh y a tt) (hX : Ok X l G prog_10_method_27_code 6 (some .int) "SaltFigures$Thinker") (v1 : Int32)  {kb57 : Int32 → Int32 → Int32 → Mu → Option (Int32 × Mu)}  (hk57 : ∀ (v2 : Int32) (v3 : Int32) (v4 : Int32) (μ : Mu), J X G 6 3 y (emy y) rvI tpT 57 [(0, .ref (G.1 + a)), (1, .int v1), (2, .int v2), (3, .int v3), (4, .int v4)] [] (μ, y) (kb57 v2 v3 v4 μ)) (v2 : Int32) (v3 : Int32) (v4 : Int32)  (μ : Mu) : J X G 6 3 y (emy y) rvI tpT 57 [(0, .ref (G.1 + a)), (1, .int v1), (2, .int v2), (3, .int v3), (4, .int v4)] [] (μ, y) (Th_settle_57b a tt  kb57 v1 v2 v3 v4  μ) := by
  unfold Th_settle_57b
  refine J_iload (pc := 57) 4 hX (by decide +kernel) rfl ?_
  refine J_sipush (pc := 59) (n := 20000) (v := 20000) hX (by decide +kernel) (by decide +kernel) ?_
  refine J_icmp_ge (pc := 62) (off := 96) (tgt := 158) hX (by decide +kernel) (by decide +kernel) (fun _ => ?_) (fun _ => ?_)
  · refine J_iload_n (k0 := 2) (pc := 158) 2 hX (by decide +kernel) rfl rfl ?_
    exact J_iret (pc := 159) hX (by decide +kernel) rfl trivial
  · refine J_iload_n (k0 := 3) (pc := 65) 3 hX (by decide +kernel) rfl rfl ?_
    refine J_if_lt (pc := 66) (off := 92) (tgt := 158) hX (by decide +kernel) (by decide +kernel) (fun _ => ?_) (fun _ => ?_)
    · refine J_iload_n (k0 := 2) (pc := 158) 2 hX (by decide +kernel) rfl rfl ?_
      exact J_iret (pc := 159) hX (by decide +kernel) rfl trivial
    · refine J_iload_n (k0 := 3) (pc := 69) 3 hX (by decide +kernel) rfl rfl ?_
      refine J_sipush (pc := 70) (n := 361) (v := 361) hX (by decide +kernel) (by decide +kernel) ?_
      refine J_icmp_ge (pc := 73) (off := 85) (tgt := 158) hX (by decide +kernel) (by decide +kernel) (fun _ => ?_) (fun _ => ?_)
      · refine J_iload_n (k0 := 2) (pc := 158) 2 hX (by decide +kernel) rfl rfl ?_
        exact J_iret (pc := 159) hX (by decide +kernel) rfl trivial
      · refine J_iload_n (k0 := 3) (pc := 76) 3 hX (by decide +kernel) rfl rfl ?_
        refine J_if_ne (pc := 77) (off := 7) (tgt := 84) hX (by decide +kernel) (by decide +kernel) (fun _ => ?_) (fun _ => ?_)
        · refine J_aload_n (k0 := 0) (pc := 84) 0 hX (by decide +kernel) rfl rfl ?_
          refine J_gr (pc := 85) hX (by decide +kernel) fl_Th_11 hL.1 rfl hL.2.2.1.1 ?_
          refine J_iload_n (k0 := 3) (pc := 88) 3 hX (by decide +kernel) rfl rfl ?_
          refine J_iconst (pc := 89) (n := 1) (v := 1) hX (by decide +kernel) (by decide +kernel) ?_
          refine J_isub (pc := 90) hX (by decide +kernel) ?_
          refine J_ldA (pc := 91) hX (by decide +kernel) hL.2.2.1.2 (fun x1 => ?_)
          exact J_sub [0, 1, 2, 3, 4] _ rfl (jTh_settle_92 hL hX v1 v2 v3 v4 x1 hk57 μ)
        · refine J_iconst (pc := 80) (n := 0) (v := 0) hX (by decide +kernel) (by decide +kernel) ?_
          refine J_goto (pc := 81) (off := 11) (tgt := 92) hX (by decide +kernel) (by decide +kernel) ?_
          exact J_sub [0, 1, 2, 3, 4] _ rfl (jTh_settle_92 hL hX v1 v2 v3 v4 0 hk57 μ)
set_option maxRecDepth 100000 in
set_option maxHeartbeats 4000000 in
theorem jTh_settle_57 {X : Cx} {l : Launch} {G : Gx} {y : Ly} {a tt : Nat} (hL : LyTh y a tt) (hX : Ok X l G prog_10_method_27_code 6 (some .int) "SaltFigures$Thinker") (v1 : Int32)   : ∀ (fu : Nat) (v2 : Int32) (v3 : Int32) (v4 : Int32) (μ : Mu), J X G 6 3 y (emy y) rvI tpT 57 [(0, .ref (G.1 + a)), (1, .int v1), (2, .int v2), (3, .int v3), (4, .int v4)] [] (μ, y) (Th_settle_57 a tt  v1 fu v2 v3 v4 μ) := by
  intro fu
  induction fu with
  | zero => intros; exact J_none
  | succ fu ih => intro v2 v3 v4 μ; exact jTh_settle_57b hL hX v1  ih v2 v3 v4 μ
set_option maxRecDepth 100000 in
set_option maxHeartbeats 4000000 in
theorem jTh_settle_48 {X : Cx} {l : Launch} {G : Gx} {y : Ly} {a tt : Nat} (hL : LyTh y a tt) (hX : Ok X l G prog_10_method_27_code 6 (some .int) "SaltFigures$Thinker")  (v1 : Int32)    (μ : Mu) : J X G 6 3 y (emy y) rvI tpT 48 [(0, .ref (G.1 + a)), (1, .int v1)] [] (μ, y) (Th_settle_48 a tt   v1  μ) := by
  unfold Th_settle_48
  refine J_iconst (pc := 48) (n := 0) (v := 0) hX (by decide +kernel) (by decide +kernel) ?_
  refine J_istore_n (k0 := 2) (pc := 49) [(2, .int 0), (0, .ref (G.1 + a)), (1, .int v1)] hX (by decide +kernel) rfl (by decide) rfl ?_
  refine J_iload_n (k0 := 1) (pc := 50) 2 hX (by decide +kernel) rfl rfl ?_
  refine J_iconst (pc := 51) (n := 1) (v := 1) hX (by decide +kernel) (by decide +kernel) ?_
  refine J_isub (pc := 52) hX (by decide +kernel) ?_
  refine J_istore_n (k0 := 3) (pc := 53) [(3, .int (v1 - 1)), (2, .int 0), (0, .ref (G.1 + a)), (1, .int v1)] hX (by decide +kernel) rfl (by decide) rfl ?_
  refine J_iconst (pc := 54) (n := 0) (v := 0) hX (by decide +kernel) (by decide +kernel) ?_
  refine J_istore (pc := 55) [(4, .int 0), (3, .int (v1 - 1)), (2, .int 0), (0, .ref (G.1 + a)), (1, .int v1)] hX (by decide +kernel) (by decide) rfl ?_
  exact J_sub [3, 4, 2, 1, 0] _ rfl (jTh_settle_57 hL hX v1 FU 0 (v1 - 1) 0 μ)
set_option maxRecDepth 100000 in
set_option maxHeartbeats 4000000 in
theorem jTh_settle_13b {X : Cx} {l : Launch} {G : Gx} {y : Ly} {a tt : Nat} (hL : LyTh y a tt) (hX : Ok X l G prog_10_method_27_code 6 (some .int) "SaltFigures$Thinker") (v1 : Int32)  {kb13 : Int32 → Mu → Option (Int32 × Mu)}  (hk13 : ∀ (v2 : Int32) (μ : Mu), J X G 6 3 y (emy y) rvI tpT 13 [(0, .ref (G.1 + a)), (1, .int v1), (2, .int v2)] [] (μ, y) (kb13 v2 μ)) (v2 : Int32)  (μ : Mu) : J X G 6 3 y (emy y) rvI tpT 13 [(0, .ref (G.1 + a)), (1, .int v1), (2, .int v2)] [] (μ, y) (Th_settle_13b a tt  kb13 v1 v2  μ) := by
  unfold Th_settle_13b
  refine J_iload_n (k0 := 2) (pc := 13) 2 hX (by decide +kernel) rfl rfl ?_
  refine J_iload_n (k0 := 1) (pc := 14) 1 hX (by decide +kernel) rfl rfl ?_
  refine J_icmp_ge (pc := 15) (off := 33) (tgt := 48) hX (by decide +kernel) (by decide +kernel) (fun _ => ?_) (fun _ => ?_)
  · exact J_sub [0, 1] _ rfl (jTh_settle_48 hL hX v1 μ)
  · refine J_iload_n (k0 := 2) (pc := 18) 2 hX (by decide +kernel) rfl rfl ?_
    refine J_sipush (pc := 19) (n := 361) (v := 361) hX (by decide +kernel) (by decide +kernel) ?_
    refine J_icmp_ge (pc := 22) (off := 26) (tgt := 48) hX (by decide +kernel) (by decide +kernel) (fun _ => ?_) (fun _ => ?_)
    · exact J_sub [0, 1] _ rfl (jTh_settle_48 hL hX v1 μ)
    · refine J_aload_n (k0 := 0) (pc := 25) 0 hX (by decide +kernel) rfl rfl ?_
      refine J_gr (pc := 26) hX (by decide +kernel) fl_Th_11 hL.1 rfl hL.2.2.1.1 ?_
      refine J_iload_n (k0 := 2) (pc := 29) 2 hX (by decide +kernel) rfl rfl ?_
      refine J_aload_n (k0 := 0) (pc := 30) 0 hX (by decide +kernel) rfl rfl ?_
      refine J_gr (pc := 31) hX (by decide +kernel) fl_Th_18 hL.1 rfl hL.2.1.1 ?_
      refine J_gr (pc := 34) hX (by decide +kernel) fl_Th_135 hL.2.1.2.1 rfl hL.2.1.2.2.2.2.2.2.2.2.2.2.2.1.1 ?_
      refine J_iload_n (k0 := 2) (pc := 37) 2 hX (by decide +kernel) rfl rfl ?_
      refine J_cVi (pc := 38) (idx := 34) [.int v2] hX (by decide +kernel) (mq mt_4 191 (by decide +kernel)) mv_Rw_at hL.2.1.2.2.2.2.2.2.2.2.2.2.2.1.2.1 rfl rfl (Nat.le_of_ble_eq_true rfl) (Nat.le_of_ble_eq_true rfl) (c_Rw_at hL.2.1.2.2.2.2.2.2.2.2.2.2.2.1.2 v2 μ) (fun x2 μ1 => ?_)
      refine J_stA (pc := 41) hX (by decide +kernel) hL.2.2.1.2 (fun μ3 => ?_)
      refine J_iinc (pc := 42) (n := 1) 2 [(2, .int (v2 + 1)), (0, .ref (G.1 + a)), (1, .int v1)] hX (by decide +kernel) rfl rfl (by decide) rfl ?_
      refine J_goto (pc := 45) (off := -32) (tgt := 13) hX (by decide +kernel) (by decide +kernel) ?_
      exact J_sub [1, 2, 0] _ rfl (hk13 (v2 + 1) μ3)
set_option maxRecDepth 100000 in
set_option maxHeartbeats 4000000 in
theorem jTh_settle_13 {X : Cx} {l : Launch} {G : Gx} {y : Ly} {a tt : Nat} (hL : LyTh y a tt) (hX : Ok X l G prog_10_method_27_code 6 (some .int) "SaltFigures$Thinker") (v1 : Int32)   : ∀ (fu : Nat) (v2 : Int32) (μ : Mu), J X G 6 3 y (emy y) rvI tpT 13 [(0, .ref (G.1 + a)), (1, .int v1), (2, .int v2)] [] (μ, y) (Th_settle_13 a tt  v1 fu v2 μ) := by
  intro fu
  induction fu with
  | zero => intros; exact J_none
  | succ fu ih => intro v2 μ; exact jTh_settle_13b hL hX v1  ih v2 μ
set_option maxRecDepth 100000 in
set_option maxHeartbeats 4000000 in
theorem jTh_settle {X : Cx} {l : Launch} {G : Gx} {y : Ly} {a tt : Nat} (hL : LyTh y a tt) (hX : Ok X l G prog_10_method_27_code 6 (some .int) "SaltFigures$Thinker")  (μ : Mu) : J X G 6 3 y (emy y) rvI tpT 0 [(0, .ref (G.1 + a))] [] (μ, y) (Th_settle a tt  μ) := by
  unfold Th_settle
  refine J_aload_n (k0 := 0) (pc := 0) 0 hX (by decide +kernel) rfl rfl ?_
  refine J_gr (pc := 1) hX (by decide +kernel) fl_Th_18 hL.1 rfl hL.2.1.1 ?_
  refine J_gr (pc := 4) hX (by decide +kernel) fl_Th_135 hL.2.1.2.1 rfl hL.2.1.2.2.2.2.2.2.2.2.2.2.2.1.1 ?_
  refine J_gF (pc := 7) hX (by decide +kernel) fl_Th_28 hL.2.1.2.2.2.2.2.2.2.2.2.2.2.1.2.1 rfl (fun x1 => ?_)
  refine J_istore_n (k0 := 1) (pc := 10) [(1, .int x1), (0, .ref (G.1 + a))] hX (by decide +kernel) rfl (by decide) rfl ?_
  refine J_iconst (pc := 11) (n := 0) (v := 0) hX (by decide +kernel) (by decide +kernel) ?_
  refine J_istore_n (k0 := 2) (pc := 12) [(2, .int 0), (1, .int x1), (0, .ref (G.1 + a))] hX (by decide +kernel) rfl (by decide) rfl ?_
  exact J_sub [2, 1, 0] _ rfl (jTh_settle_13 hL hX x1 FU 0 μ)
set_option maxRecDepth 100000 in
set_option maxHeartbeats 4000000 in
theorem c_Th_settle {l : Launch} {G : Gx} {y : Ly} {a tt : Nat} (hL : LyTh y a tt)  (μ : Mu) : Cn l G ⟨"SaltFigures$Thinker", "settle", "()I"⟩ prog_10_method_27_code 6 (some .int) 3 [.ref (G.1 + a)] (μ, y) (emy y) rvI tpT (Th_settle a tt  μ) := cn_of (by decide +kernel) (Nat.le_of_ble_eq_true rfl) (fun _ _ _ => ⟨List.prefix_refl _, trivial⟩) (fun X hX _ => jTh_settle hL hX  μ)

def Th_liesAt (a tt : Nat) (v1 : Int32) (μ : Mu) : Option (Int32 × Mu) := (if v1 < 0 then some ((-1), μ) else (if 361 ≤ v1 then some ((-1), μ) else ldA μ (a + 1) 361 v1 (fun x1 => some (x1, μ))))
set_option maxRecDepth 100000 in
set_option maxHeartbeats 4000000 in
theorem jTh_liesAt {X : Cx} {l : Launch} {G : Gx} {y : Ly} {a tt : Nat} (hL : LyTh y a tt) (hX : Ok X l G prog_10_method_28_code 2 (some .int) "SaltFigures$Thinker") (v1 : Int32) (μ : Mu) : J X G 2 1 y (emy y) rvI tpT 0 [(0, .ref (G.1 + a)), (1, .int v1)] [] (μ, y) (Th_liesAt a tt v1 μ) := by
  unfold Th_liesAt
  refine J_iload_n (k0 := 1) (pc := 0) 1 hX (by decide +kernel) rfl rfl ?_
  refine J_if_lt (pc := 1) (off := 19) (tgt := 20) hX (by decide +kernel) (by decide +kernel) (fun _ => ?_) (fun _ => ?_)
  · refine J_iconst (pc := 20) (n := -1) (v := (-1)) hX (by decide +kernel) (by decide +kernel) ?_
    exact J_iret (pc := 21) hX (by decide +kernel) rfl trivial
  · refine J_iload_n (k0 := 1) (pc := 4) 1 hX (by decide +kernel) rfl rfl ?_
    refine J_sipush (pc := 5) (n := 361) (v := 361) hX (by decide +kernel) (by decide +kernel) ?_
    refine J_icmp_ge (pc := 8) (off := 12) (tgt := 20) hX (by decide +kernel) (by decide +kernel) (fun _ => ?_) (fun _ => ?_)
    · refine J_iconst (pc := 20) (n := -1) (v := (-1)) hX (by decide +kernel) (by decide +kernel) ?_
      exact J_iret (pc := 21) hX (by decide +kernel) rfl trivial
    · refine J_aload_n (k0 := 0) (pc := 11) 0 hX (by decide +kernel) rfl rfl ?_
      refine J_gr (pc := 12) hX (by decide +kernel) fl_Th_11 hL.1 rfl hL.2.2.1.1 ?_
      refine J_iload_n (k0 := 1) (pc := 15) 1 hX (by decide +kernel) rfl rfl ?_
      refine J_ldA (pc := 16) hX (by decide +kernel) hL.2.2.1.2 (fun x1 => ?_)
      refine J_goto (pc := 17) (off := 4) (tgt := 21) hX (by decide +kernel) (by decide +kernel) ?_
      exact J_iret (pc := 21) hX (by decide +kernel) rfl trivial
set_option maxRecDepth 100000 in
set_option maxHeartbeats 4000000 in
theorem c_Th_liesAt {l : Launch} {G : Gx} {y : Ly} {a tt : Nat} (hL : LyTh y a tt) (v1 : Int32) (μ : Mu) : Cn l G ⟨"SaltFigures$Thinker", "liesAt", "(I)I"⟩ prog_10_method_28_code 2 (some .int) 1 [.ref (G.1 + a), .int v1] (μ, y) (emy y) rvI tpT (Th_liesAt a tt v1 μ) := cn_of (by decide +kernel) (Nat.le_of_ble_eq_true rfl) (fun _ _ _ => ⟨List.prefix_refl _, trivial⟩) (fun X hX _ => jTh_liesAt hL hX v1 μ)

def Sf_heaped (a : Nat) (v1 : Int32) (μ : Mu) : Option (Int32 × Mu) := cl (Th_settle (a + 45) (a + 1 + 17) μ) (fun x2 μ1 => (if v1 = 0 then some (x2, μ1) else gF μ1 (a + 1 + 17 + 19) 3 (fun x3 => cl (Sf_within v1 1 x3 μ1) (fun x5 μ4 => (if x5 = 0 then some ((-1), μ4) else cl (Th_liesAt (a + 45) (a + 1 + 17) (v1 - 1) μ4) (fun x7 μ6 => some (x7, μ6)))))))
set_option maxRecDepth 100000 in
set_option maxHeartbeats 4000000 in
theorem jSf_heaped {X : Cx} {l : Launch} {G : Gx} {y : Ly} {a : Nat} (hL : LySf y a ) (hX : Ok X l G prog_1_method_39_code 3 (some .int) "SaltFigures") (v1 : Int32) (μ : Mu) : J X G 3 4 y (emy y) rvI tpT 0 [(0, .ref (G.1 + a)), (1, .int v1)] [] (μ, y) (Sf_heaped a v1 μ) := by
  unfold Sf_heaped
  refine J_aload_n (k0 := 0) (pc := 0) 0 hX (by decide +kernel) rfl rfl ?_
  refine J_gr (pc := 1) hX (by decide +kernel) fl_Sf_43 hL.1 rfl hL.2.2.2.2.1.1 ?_
  refine J_cVi (pc := 4) (idx := 353) [] hX (by decide +kernel) (mq mt_5 189 (by decide +kernel)) mv_Th_settle hL.2.2.2.2.1.2.1 rfl rfl (Nat.le_of_ble_eq_true rfl) (Nat.le_of_ble_eq_true rfl) (c_Th_settle hL.2.2.2.2.1.2 μ) (fun x2 μ1 => ?_)
  refine J_istore_n (k0 := 2) (pc := 7) [(2, .int x2), (0, .ref (G.1 + a)), (1, .int v1)] hX (by decide +kernel) rfl (by decide) rfl ?_
  refine J_iload_n (k0 := 1) (pc := 8) 2 hX (by decide +kernel) rfl rfl ?_
  refine J_if_ne (pc := 9) (off := 5) (tgt := 14) hX (by decide +kernel) (by decide +kernel) (fun _ => ?_) (fun _ => ?_)
  · refine J_iload_n (k0 := 1) (pc := 14) 2 hX (by decide +kernel) rfl rfl ?_
    refine J_iconst (pc := 15) (n := 1) (v := 1) hX (by decide +kernel) (by decide +kernel) ?_
    refine J_aload_n (k0 := 0) (pc := 16) 1 hX (by decide +kernel) rfl rfl ?_
    refine J_gr (pc := 17) hX (by decide +kernel) fl_Sf_12 hL.1 rfl hL.2.1.1 ?_
    refine J_gr (pc := 20) hX (by decide +kernel) fl_Sf_36 hL.2.1.2.1 rfl hL.2.1.2.2.2.2.2.1.1 ?_
    refine J_gr (pc := 23) hX (by decide +kernel) fl_Sf_350 hL.2.1.2.2.2.2.2.1.2.1 rfl hL.2.1.2.2.2.2.2.1.2.2.2.2.2.2.2.2.2.2.2.1.1 ?_
    refine J_gF (pc := 26) hX (by decide +kernel) fl_Sf_325 hL.2.1.2.2.2.2.2.1.2.2.2.2.2.2.2.2.2.2.2.1.2.1 rfl (fun x3 => ?_)
    refine J_cSi (pc := 29) (idx := 68) [.int v1, .int 1, .int x3] hX (by decide +kernel) (mq mt_2 148 (by decide +kernel)) mv_Sf_within rfl rfl (Nat.le_of_ble_eq_true rfl) (Nat.le_of_ble_eq_true rfl) (c_Sf_within v1 1 x3 μ1) (fun x5 μ4 => ?_)
    refine J_if_eq (pc := 32) (off := 16) (tgt := 48) hX (by decide +kernel) (by decide +kernel) (fun _ => ?_) (fun _ => ?_)
    · refine J_iconst (pc := 48) (n := -1) (v := (-1)) hX (by decide +kernel) (by decide +kernel) ?_
      exact J_iret (pc := 49) hX (by decide +kernel) rfl trivial
    · refine J_aload_n (k0 := 0) (pc := 35) 1 hX (by decide +kernel) rfl rfl ?_
      refine J_gr (pc := 36) hX (by decide +kernel) fl_Sf_43 hL.1 rfl hL.2.2.2.2.1.1 ?_
      refine J_iload_n (k0 := 1) (pc := 39) 2 hX (by decide +kernel) rfl rfl ?_
      refine J_iconst (pc := 40) (n := 1) (v := 1) hX (by decide +kernel) (by decide +kernel) ?_
      refine J_isub (pc := 41) hX (by decide +kernel) ?_
      refine J_cVi (pc := 42) (idx := 356) [.int (v1 - 1)] hX (by decide +kernel) (mq mt_5 193 (by decide +kernel)) mv_Th_liesAt hL.2.2.2.2.1.2.1 rfl rfl (Nat.le_of_ble_eq_true rfl) (Nat.le_of_ble_eq_true rfl) (c_Th_liesAt hL.2.2.2.2.1.2 (v1 - 1) μ4) (fun x7 μ6 => ?_)
      refine J_goto (pc := 45) (off := 4) (tgt := 49) hX (by decide +kernel) (by decide +kernel) ?_
      exact J_iret (pc := 49) hX (by decide +kernel) rfl trivial
  · refine J_iload_n (k0 := 2) (pc := 12) 0 hX (by decide +kernel) rfl rfl ?_
    exact J_iret (pc := 13) hX (by decide +kernel) rfl trivial
set_option maxRecDepth 100000 in
set_option maxHeartbeats 4000000 in
theorem c_Sf_heaped {l : Launch} {G : Gx} {y : Ly} {a : Nat} (hL : LySf y a ) (v1 : Int32) (μ : Mu) : Cn l G ⟨"SaltFigures", "heaped", "(I)I"⟩ prog_1_method_39_code 3 (some .int) 4 [.ref (G.1 + a), .int v1] (μ, y) (emy y) rvI tpT (Sf_heaped a v1 μ) := cn_of (by decide +kernel) (Nat.le_of_ble_eq_true rfl) (fun _ _ _ => ⟨List.prefix_refl _, trivial⟩) (fun X hX _ => jSf_heaped hL hX v1 μ)

def Sf_high_43b (a : Nat)  (kb43 : Int32 → Mu → Option (Int32 × Mu)) (v1 : Int32) (v2 : Int32) (v3 : Int32)  (μ : Mu) : Option (Int32 × Mu) := (if 60 < v3 then some ((-1), μ) else cl (Fg_isAlive (a + 42) v1 μ) (fun x2 μ1 => (if x2 = 0 then some ((-1), μ1) else cl (Fg_get (a + 42) v1 1 μ1) (fun x4 μ3 => (if x4 < v2 then cl (Dy_goBy (a + 39) (a + 1) (a + 42) μ3) (fun x6 μ5 => kb43 (v3 + 1) μ5) else some (v3, μ3))))))
def Sf_high_43 (a : Nat)  (v1 : Int32) (v2 : Int32) (fu : Nat) : Int32 → Mu → Option (Int32 × Mu) := lp (fun kb => Sf_high_43b a  kb v1 v2) (fun _ _ => none) fu
def Sf_high (a : Nat) (v1 : Int32) (v2 : Int32) (μ : Mu) : Option (Int32 × Mu) := cl (Fg_isAlive (a + 1 + 1) v1 μ) (fun x2 μ1 => (if x2 = 0 then some ((-1), μ1) else cl (Sf_within v2 1 9999 μ1) (fun x4 μ3 => (if x4 = 0 then some ((-1), μ3) else cl (Fg_copyFrom (a + 42) (a + 1 + 1) μ3) (fun _ μ5 => Sf_high_43 a v1 v2 FU 0 μ5)))))
set_option maxRecDepth 100000 in
set_option maxHeartbeats 4000000 in
theorem jSf_high_43b {X : Cx} {l : Launch} {G : Gx} {y : Ly} {a : Nat} (hL : LySf y a ) (hX : Ok X l G prog_1_method_16_code 4 (some .int) "SaltFigures") (v1 : Int32) (v2 : Int32)  {kb43 : Int32 → Mu → Option (Int32 × Mu)}  (hk43 : ∀ (v3 : Int32) (μ : Mu), J X G 4 8 y (emy y) rvI tpT 43 [(0, .ref (G.1 + a)), (1, .int v1), (2, .int v2), (3, .int v3)] [] (μ, y) (kb43 v3 μ)) (v3 : Int32)  (μ : Mu) : J X G 4 8 y (emy y) rvI tpT 43 [(0, .ref (G.1 + a)), (1, .int v1), (2, .int v2), (3, .int v3)] [] (μ, y) (Sf_high_43b a  kb43 v1 v2 v3  μ) := by
  unfold Sf_high_43b
  refine J_iload_n (k0 := 3) (pc := 43) 3 hX (by decide +kernel) rfl rfl ?_
  refine J_bipush (pc := 44) (n := 60) (v := 60) hX (by decide +kernel) (by decide +kernel) ?_
  refine J_icmp_gt (pc := 46) (off := 47) (tgt := 93) hX (by decide +kernel) (by decide +kernel) (fun _ => ?_) (fun _ => ?_)
  · refine J_iconst (pc := 93) (n := -1) (v := (-1)) hX (by decide +kernel) (by decide +kernel) ?_
    exact J_iret (pc := 94) hX (by decide +kernel) rfl trivial
  · refine J_aload_n (k0 := 0) (pc := 49) 0 hX (by decide +kernel) rfl rfl ?_
    refine J_gr (pc := 50) hX (by decide +kernel) fl_Sf_30 hL.1 rfl hL.2.2.2.1.1 ?_
    refine J_iload_n (k0 := 1) (pc := 53) 1 hX (by decide +kernel) rfl rfl ?_
    refine J_cVi (pc := 54) (idx := 82) [.int v1] hX (by decide +kernel) (mq mt_2 163 (by decide +kernel)) mv_Fg_isAlive hL.2.2.2.1.2.1 rfl rfl (Nat.le_of_ble_eq_true rfl) (Nat.le_of_ble_eq_true rfl) (c_Fg_isAlive hL.2.2.2.1.2 v1 μ) (fun x2 μ1 => ?_)
    refine J_if_eq (pc := 57) (off := 36) (tgt := 93) hX (by decide +kernel) (by decide +kernel) (fun _ => ?_) (fun _ => ?_)
    · refine J_iconst (pc := 93) (n := -1) (v := (-1)) hX (by decide +kernel) (by decide +kernel) ?_
      exact J_iret (pc := 94) hX (by decide +kernel) rfl trivial
    · refine J_aload_n (k0 := 0) (pc := 60) 0 hX (by decide +kernel) rfl rfl ?_
      refine J_gr (pc := 61) hX (by decide +kernel) fl_Sf_30 hL.1 rfl hL.2.2.2.1.1 ?_
      refine J_iload_n (k0 := 1) (pc := 64) 1 hX (by decide +kernel) rfl rfl ?_
      refine J_iconst (pc := 65) (n := 1) (v := 1) hX (by decide +kernel) (by decide +kernel) ?_
      refine J_cVi (pc := 66) (idx := 114) [.int v1, .int 1] hX (by decide +kernel) (mq mt_2 180 (by decide +kernel)) mv_Fg_get hL.2.2.2.1.2.1 rfl rfl (Nat.le_of_ble_eq_true rfl) (Nat.le_of_ble_eq_true rfl) (c_Fg_get hL.2.2.2.1.2 v1 1 μ1) (fun x4 μ3 => ?_)
      refine J_iload_n (k0 := 2) (pc := 69) 2 hX (by decide +kernel) rfl rfl ?_
      refine J_icmp_lt (pc := 70) (off := 5) (tgt := 75) hX (by decide +kernel) (by decide +kernel) (fun _ => ?_) (fun _ => ?_)
      · refine J_aload_n (k0 := 0) (pc := 75) 0 hX (by decide +kernel) rfl rfl ?_
        refine J_gr (pc := 76) hX (by decide +kernel) fl_Sf_21 hL.1 rfl hL.2.2.1.1 ?_
        refine J_aload_n (k0 := 0) (pc := 79) 0 hX (by decide +kernel) rfl rfl ?_
        refine J_gr (pc := 80) hX (by decide +kernel) fl_Sf_30 hL.1 rfl hL.2.2.2.1.1 ?_
        refine J_cVi (pc := 83) (idx := 124) [.ref (G.1 + (a + 42))] hX (by decide +kernel) (mq mt_3 39 (by decide +kernel)) mv_Dy_goBy hL.2.2.1.2.1 rfl rfl (Nat.le_of_ble_eq_true rfl) (Nat.le_of_ble_eq_true rfl) (c_Dy_goBy hL.2.2.1.2 hL.2.2.2.1.2 μ3) (fun x6 μ5 => ?_)
        refine J_pop (pc := 86) hX (by decide +kernel) rfl ?_
        refine J_iinc (pc := 87) (n := 1) 3 [(3, .int (v3 + 1)), (0, .ref (G.1 + a)), (1, .int v1), (2, .int v2)] hX (by decide +kernel) rfl rfl (by decide) rfl ?_
        refine J_goto (pc := 90) (off := -47) (tgt := 43) hX (by decide +kernel) (by decide +kernel) ?_
        exact J_sub [1, 2, 3, 0] _ rfl (hk43 (v3 + 1) μ5)
      · refine J_iload_n (k0 := 3) (pc := 73) 3 hX (by decide +kernel) rfl rfl ?_
        exact J_iret (pc := 74) hX (by decide +kernel) rfl trivial
set_option maxRecDepth 100000 in
set_option maxHeartbeats 4000000 in
theorem jSf_high_43 {X : Cx} {l : Launch} {G : Gx} {y : Ly} {a : Nat} (hL : LySf y a ) (hX : Ok X l G prog_1_method_16_code 4 (some .int) "SaltFigures") (v1 : Int32) (v2 : Int32)   : ∀ (fu : Nat) (v3 : Int32) (μ : Mu), J X G 4 8 y (emy y) rvI tpT 43 [(0, .ref (G.1 + a)), (1, .int v1), (2, .int v2), (3, .int v3)] [] (μ, y) (Sf_high_43 a  v1 v2 fu v3 μ) := by
  intro fu
  induction fu with
  | zero => intros; exact J_none
  | succ fu ih => intro v3 μ; exact jSf_high_43b hL hX v1 v2  ih v3 μ
set_option maxRecDepth 100000 in
set_option maxHeartbeats 4000000 in
theorem jSf_high {X : Cx} {l : Launch} {G : Gx} {y : Ly} {a : Nat} (hL : LySf y a ) (hX : Ok X l G prog_1_method_16_code 4 (some .int) "SaltFigures") (v1 : Int32) (v2 : Int32) (μ : Mu) : J X G 4 8 y (emy y) rvI tpT 0 [(0, .ref (G.1 + a)), (1, .int v1), (2, .int v2)] [] (μ, y) (Sf_high a v1 v2 μ) := by
  unfold Sf_high
  refine J_aload_n (k0 := 0) (pc := 0) 0 hX (by decide +kernel) rfl rfl ?_
  refine J_gr (pc := 1) hX (by decide +kernel) fl_Sf_12 hL.1 rfl hL.2.1.1 ?_
  refine J_gr (pc := 4) hX (by decide +kernel) fl_Sf_58 hL.2.1.2.1 rfl hL.2.1.2.2.1.1 ?_
  refine J_iload_n (k0 := 1) (pc := 7) 1 hX (by decide +kernel) rfl rfl ?_
  refine J_cVi (pc := 8) (idx := 82) [.int v1] hX (by decide +kernel) (mq mt_2 163 (by decide +kernel)) mv_Fg_isAlive hL.2.1.2.2.1.2.1 rfl rfl (Nat.le_of_ble_eq_true rfl) (Nat.le_of_ble_eq_true rfl) (c_Fg_isAlive hL.2.1.2.2.1.2 v1 μ) (fun x2 μ1 => ?_)
  refine J_if_eq (pc := 11) (off := 14) (tgt := 25) hX (by decide +kernel) (by decide +kernel) (fun _ => ?_) (fun _ => ?_)
  · refine J_iconst (pc := 25) (n := -1) (v := (-1)) hX (by decide +kernel) (by decide +kernel) ?_
    exact J_iret (pc := 26) hX (by decide +kernel) rfl trivial
  · refine J_iload_n (k0 := 2) (pc := 14) 2 hX (by decide +kernel) rfl rfl ?_
    refine J_iconst (pc := 15) (n := 1) (v := 1) hX (by decide +kernel) (by decide +kernel) ?_
    refine J_sipush (pc := 16) (n := 9999) (v := 9999) hX (by decide +kernel) (by decide +kernel) ?_
    refine J_cSi (pc := 19) (idx := 68) [.int v2, .int 1, .int 9999] hX (by decide +kernel) (mq mt_2 148 (by decide +kernel)) mv_Sf_within rfl rfl (Nat.le_of_ble_eq_true rfl) (Nat.le_of_ble_eq_true rfl) (c_Sf_within v2 1 9999 μ1) (fun x4 μ3 => ?_)
    refine J_if_ne (pc := 22) (off := 5) (tgt := 27) hX (by decide +kernel) (by decide +kernel) (fun _ => ?_) (fun _ => ?_)
    · refine J_aload_n (k0 := 0) (pc := 27) 0 hX (by decide +kernel) rfl rfl ?_
      refine J_gr (pc := 28) hX (by decide +kernel) fl_Sf_30 hL.1 rfl hL.2.2.2.1.1 ?_
      refine J_aload_n (k0 := 0) (pc := 31) 0 hX (by decide +kernel) rfl rfl ?_
      refine J_gr (pc := 32) hX (by decide +kernel) fl_Sf_12 hL.1 rfl hL.2.1.1 ?_
      refine J_gr (pc := 35) hX (by decide +kernel) fl_Sf_58 hL.2.1.2.1 rfl hL.2.1.2.2.1.1 ?_
      refine J_cVv (pc := 38) (idx := 196) [.ref (G.1 + (a + 1 + 1))] hX (by decide +kernel) (mq mt_2 193 (by decide +kernel)) mv_Fg_copyFrom hL.2.2.2.1.2.1 rfl rfl (Nat.le_of_ble_eq_true rfl) (Nat.le_of_ble_eq_true rfl) (c_Fg_copyFrom hL.2.2.2.1.2 hL.2.1.2.2.1.2 μ3) (fun μ5 => ?_)
      refine J_iconst (pc := 41) (n := 0) (v := 0) hX (by decide +kernel) (by decide +kernel) ?_
      refine J_istore_n (k0 := 3) (pc := 42) [(3, .int 0), (0, .ref (G.1 + a)), (1, .int v1), (2, .int v2)] hX (by decide +kernel) rfl (by decide) rfl ?_
      exact J_sub [1, 2, 3, 0] _ rfl (jSf_high_43 hL hX v1 v2 FU 0 μ5)
    · refine J_iconst (pc := 25) (n := -1) (v := (-1)) hX (by decide +kernel) (by decide +kernel) ?_
      exact J_iret (pc := 26) hX (by decide +kernel) rfl trivial
set_option maxRecDepth 100000 in
set_option maxHeartbeats 4000000 in
theorem c_Sf_high {l : Launch} {G : Gx} {y : Ly} {a : Nat} (hL : LySf y a ) (v1 : Int32) (v2 : Int32) (μ : Mu) : Cn l G ⟨"SaltFigures", "high", "(II)I"⟩ prog_1_method_16_code 4 (some .int) 8 [.ref (G.1 + a), .int v1, .int v2] (μ, y) (emy y) rvI tpT (Sf_high a v1 v2 μ) := cn_of (by decide +kernel) (Nat.le_of_ble_eq_true rfl) (fun _ _ _ => ⟨List.prefix_refl _, trivial⟩) (fun X hX _ => jSf_high hL hX v1 v2 μ)

def Th_lowest_77 (a tt : Nat) (kb4 : Int32 → Int32 → Mu → Option (Int32 × Mu))  (v1 : Int32) (v2 : Int32)  (μ : Mu) : Option (Int32 × Mu) := kb4 v1 (v2 + 1) μ
def Th_lowest_75 (a tt : Nat) (kb4 : Int32 → Int32 → Mu → Option (Int32 × Mu))  (v2 : Int32)  (μ : Mu) : Option (Int32 × Mu) := Th_lowest_77 a tt kb4 v2 v2 μ
def Th_lowest_4b (a tt : Nat)  (kb4 : Int32 → Int32 → Mu → Option (Int32 × Mu))  (v1 : Int32) (v2 : Int32)  (μ : Mu) : Option (Int32 × Mu) := gF μ (tt + 1) 3 (fun x1 => (if x1 ≤ v2 then some (v1, μ) else cl (Rw_at (tt + 3) 8 v2 μ) (fun x3 μ2 => cl (Rw_at (tt + 3) 8 v1 μ2) (fun x5 μ4 => (if (x3 - x5) < 0 then Th_lowest_75 a tt kb4 v2 μ4 else (if (x3 - x5) = 0 then cl (Rw_at (tt + 1) 8 v2 μ4) (fun x7 μ6 => cl (Rw_at (tt + 1) 8 v1 μ6) (fun x9 μ8 => (if x9 ≤ x7 then Th_lowest_77 a tt kb4 v1 v2 μ8 else Th_lowest_75 a tt kb4 v2 μ8))) else Th_lowest_77 a tt kb4 v1 v2 μ4))))))
def Th_lowest_4 (a tt : Nat)   (fu : Nat) : Int32 → Int32 → Mu → Option (Int32 × Mu) := lp (fun kb => Th_lowest_4b a tt  kb ) (fun _ _ _ => none) fu
def Th_lowest (a tt : Nat)  (μ : Mu) : Option (Int32 × Mu) := Th_lowest_4 a tt FU 0 1 μ
set_option maxRecDepth 100000 in
set_option maxHeartbeats 4000000 in
theorem jTh_lowest_77 {X : Cx} {l : Launch} {G : Gx} {y : Ly} {a tt : Nat} (hL : LyTh y a tt) (hX : Ok X l G prog_10_method_7_code 4 (some .int) "SaltFigures$Thinker")  (v1 : Int32) (v2 : Int32)  {kb4 : Int32 → Int32 → Mu → Option (Int32 × Mu)} (hk4 : ∀ (v1 : Int32) (v2 : Int32) (μ : Mu), J X G 4 2 y (emy y) rvI tpT 4 [(0, .ref (G.1 + a)), (1, .int v1), (2, .int v2)] [] (μ, y) (kb4 v1 v2 μ)) (μ : Mu) : J X G 4 2 y (emy y) rvI tpT 77 [(0, .ref (G.1 + a)), (1, .int v1), (2, .int v2)] [] (μ, y) (Th_lowest_77 a tt kb4  v1 v2  μ) := by
  unfold Th_lowest_77
  refine J_iinc (pc := 77) (n := 1) 2 [(2, .int (v2 + 1)), (0, .ref (G.1 + a)), (1, .int v1)] hX (by decide +kernel) rfl rfl (by decide) rfl ?_
  refine J_goto (pc := 80) (off := -76) (tgt := 4) hX (by decide +kernel) (by decide +kernel) ?_
  exact J_sub [1, 2, 0] _ rfl (hk4 v1 (v2 + 1) μ)
set_option maxRecDepth 100000 in
set_option maxHeartbeats 4000000 in
theorem jTh_lowest_75 {X : Cx} {l : Launch} {G : Gx} {y : Ly} {a tt : Nat} (hL : LyTh y a tt) (hX : Ok X l G prog_10_method_7_code 4 (some .int) "SaltFigures$Thinker")  (v2 : Int32)  {kb4 : Int32 → Int32 → Mu → Option (Int32 × Mu)} (hk4 : ∀ (v1 : Int32) (v2 : Int32) (μ : Mu), J X G 4 2 y (emy y) rvI tpT 4 [(0, .ref (G.1 + a)), (1, .int v1), (2, .int v2)] [] (μ, y) (kb4 v1 v2 μ)) (μ : Mu) : J X G 4 2 y (emy y) rvI tpT 75 [(0, .ref (G.1 + a)), (2, .int v2)] [] (μ, y) (Th_lowest_75 a tt kb4  v2  μ) := by
  unfold Th_lowest_75
  refine J_iload_n (k0 := 2) (pc := 75) 1 hX (by decide +kernel) rfl rfl ?_
  refine J_istore_n (k0 := 1) (pc := 76) [(1, .int v2), (0, .ref (G.1 + a)), (2, .int v2)] hX (by decide +kernel) rfl (by decide) rfl ?_
  exact J_sub [1, 0, 2] _ rfl (jTh_lowest_77 hL hX v2 v2 hk4 μ)
set_option maxRecDepth 100000 in
set_option maxHeartbeats 4000000 in
theorem jTh_lowest_4b {X : Cx} {l : Launch} {G : Gx} {y : Ly} {a tt : Nat} (hL : LyTh y a tt) (hX : Ok X l G prog_10_method_7_code 4 (some .int) "SaltFigures$Thinker")   {kb4 : Int32 → Int32 → Mu → Option (Int32 × Mu)}  (hk4 : ∀ (v1 : Int32) (v2 : Int32) (μ : Mu), J X G 4 2 y (emy y) rvI tpT 4 [(0, .ref (G.1 + a)), (1, .int v1), (2, .int v2)] [] (μ, y) (kb4 v1 v2 μ)) (v1 : Int32) (v2 : Int32)  (μ : Mu) : J X G 4 2 y (emy y) rvI tpT 4 [(0, .ref (G.1 + a)), (1, .int v1), (2, .int v2)] [] (μ, y) (Th_lowest_4b a tt  kb4  v1 v2  μ) := by
  unfold Th_lowest_4b
  refine J_iload_n (k0 := 2) (pc := 4) 2 hX (by decide +kernel) rfl rfl ?_
  refine J_aload_n (k0 := 0) (pc := 5) 0 hX (by decide +kernel) rfl rfl ?_
  refine J_gr (pc := 6) hX (by decide +kernel) fl_Th_18 hL.1 rfl hL.2.1.1 ?_
  refine J_gr (pc := 9) hX (by decide +kernel) fl_Th_22 hL.2.1.2.1 rfl hL.2.1.2.2.1.1 ?_
  refine J_gF (pc := 12) hX (by decide +kernel) fl_Th_28 hL.2.1.2.2.1.2.1 rfl (fun x1 => ?_)
  refine J_icmp_ge (pc := 15) (off := 68) (tgt := 83) hX (by decide +kernel) (by decide +kernel) (fun _ => ?_) (fun _ => ?_)
  · refine J_iload_n (k0 := 1) (pc := 83) 1 hX (by decide +kernel) rfl rfl ?_
    exact J_iret (pc := 84) hX (by decide +kernel) rfl trivial
  · refine J_aload_n (k0 := 0) (pc := 18) 0 hX (by decide +kernel) rfl rfl ?_
    refine J_gr (pc := 19) hX (by decide +kernel) fl_Th_18 hL.1 rfl hL.2.1.1 ?_
    refine J_gr (pc := 22) hX (by decide +kernel) fl_Th_38 hL.2.1.2.1 rfl hL.2.1.2.2.2.1.1 ?_
    refine J_iload_n (k0 := 2) (pc := 25) 2 hX (by decide +kernel) rfl rfl ?_
    refine J_cVi (pc := 26) (idx := 34) [.int v2] hX (by decide +kernel) (mq mt_4 191 (by decide +kernel)) mv_Rw_at hL.2.1.2.2.2.1.2.1 rfl rfl (Nat.le_of_ble_eq_true rfl) (Nat.le_of_ble_eq_true rfl) (c_Rw_at hL.2.1.2.2.2.1.2 v2 μ) (fun x3 μ2 => ?_)
    refine J_aload_n (k0 := 0) (pc := 29) 0 hX (by decide +kernel) rfl rfl ?_
    refine J_gr (pc := 30) hX (by decide +kernel) fl_Th_18 hL.1 rfl hL.2.1.1 ?_
    refine J_gr (pc := 33) hX (by decide +kernel) fl_Th_38 hL.2.1.2.1 rfl hL.2.1.2.2.2.1.1 ?_
    refine J_iload_n (k0 := 1) (pc := 36) 1 hX (by decide +kernel) rfl rfl ?_
    refine J_cVi (pc := 37) (idx := 34) [.int v1] hX (by decide +kernel) (mq mt_4 191 (by decide +kernel)) mv_Rw_at hL.2.1.2.2.2.1.2.1 rfl rfl (Nat.le_of_ble_eq_true rfl) (Nat.le_of_ble_eq_true rfl) (c_Rw_at hL.2.1.2.2.2.1.2 v1 μ2) (fun x5 μ4 => ?_)
    refine J_isub (pc := 40) hX (by decide +kernel) ?_
    refine J_istore_n (k0 := 3) (pc := 41) [(3, .int (x3 - x5)), (0, .ref (G.1 + a)), (1, .int v1), (2, .int v2)] hX (by decide +kernel) rfl (by decide) rfl ?_
    refine J_iload_n (k0 := 3) (pc := 42) 0 hX (by decide +kernel) rfl rfl ?_
    refine J_if_lt (pc := 43) (off := 32) (tgt := 75) hX (by decide +kernel) (by decide +kernel) (fun _ => ?_) (fun _ => ?_)
    · exact J_sub [1, 3] _ rfl (jTh_lowest_75 hL hX v2 hk4 μ4)
    · refine J_iload_n (k0 := 3) (pc := 46) 0 hX (by decide +kernel) rfl rfl ?_
      refine J_if_ne (pc := 47) (off := 30) (tgt := 77) hX (by decide +kernel) (by decide +kernel) (fun _ => ?_) (fun _ => ?_)
      · exact J_sub [1, 2, 3] _ rfl (jTh_lowest_77 hL hX v1 v2 hk4 μ4)
      · refine J_aload_n (k0 := 0) (pc := 50) 1 hX (by decide +kernel) rfl rfl ?_
        refine J_gr (pc := 51) hX (by decide +kernel) fl_Th_18 hL.1 rfl hL.2.1.1 ?_
        refine J_gr (pc := 54) hX (by decide +kernel) fl_Th_22 hL.2.1.2.1 rfl hL.2.1.2.2.1.1 ?_
        refine J_iload_n (k0 := 2) (pc := 57) 3 hX (by decide +kernel) rfl rfl ?_
        refine J_cVi (pc := 58) (idx := 34) [.int v2] hX (by decide +kernel) (mq mt_4 191 (by decide +kernel)) mv_Rw_at hL.2.1.2.2.1.2.1 rfl rfl (Nat.le_of_ble_eq_true rfl) (Nat.le_of_ble_eq_true rfl) (c_Rw_at hL.2.1.2.2.1.2 v2 μ4) (fun x7 μ6 => ?_)
        refine J_aload_n (k0 := 0) (pc := 61) 1 hX (by decide +kernel) rfl rfl ?_
        refine J_gr (pc := 62) hX (by decide +kernel) fl_Th_18 hL.1 rfl hL.2.1.1 ?_
        refine J_gr (pc := 65) hX (by decide +kernel) fl_Th_22 hL.2.1.2.1 rfl hL.2.1.2.2.1.1 ?_
        refine J_iload_n (k0 := 1) (pc := 68) 2 hX (by decide +kernel) rfl rfl ?_
        refine J_cVi (pc := 69) (idx := 34) [.int v1] hX (by decide +kernel) (mq mt_4 191 (by decide +kernel)) mv_Rw_at hL.2.1.2.2.1.2.1 rfl rfl (Nat.le_of_ble_eq_true rfl) (Nat.le_of_ble_eq_true rfl) (c_Rw_at hL.2.1.2.2.1.2 v1 μ6) (fun x9 μ8 => ?_)
        refine J_icmp_ge (pc := 72) (off := 5) (tgt := 77) hX (by decide +kernel) (by decide +kernel) (fun _ => ?_) (fun _ => ?_)
        · exact J_sub [1, 2, 3] _ rfl (jTh_lowest_77 hL hX v1 v2 hk4 μ8)
        · exact J_sub [1, 3] _ rfl (jTh_lowest_75 hL hX v2 hk4 μ8)
set_option maxRecDepth 100000 in
set_option maxHeartbeats 4000000 in
theorem jTh_lowest_4 {X : Cx} {l : Launch} {G : Gx} {y : Ly} {a tt : Nat} (hL : LyTh y a tt) (hX : Ok X l G prog_10_method_7_code 4 (some .int) "SaltFigures$Thinker")    : ∀ (fu : Nat) (v1 : Int32) (v2 : Int32) (μ : Mu), J X G 4 2 y (emy y) rvI tpT 4 [(0, .ref (G.1 + a)), (1, .int v1), (2, .int v2)] [] (μ, y) (Th_lowest_4 a tt   fu v1 v2 μ) := by
  intro fu
  induction fu with
  | zero => intros; exact J_none
  | succ fu ih => intro v1 v2 μ; exact jTh_lowest_4b hL hX   ih v1 v2 μ
set_option maxRecDepth 100000 in
set_option maxHeartbeats 4000000 in
theorem jTh_lowest {X : Cx} {l : Launch} {G : Gx} {y : Ly} {a tt : Nat} (hL : LyTh y a tt) (hX : Ok X l G prog_10_method_7_code 4 (some .int) "SaltFigures$Thinker")  (μ : Mu) : J X G 4 2 y (emy y) rvI tpT 0 [(0, .ref (G.1 + a))] [] (μ, y) (Th_lowest a tt  μ) := by
  unfold Th_lowest
  refine J_iconst (pc := 0) (n := 0) (v := 0) hX (by decide +kernel) (by decide +kernel) ?_
  refine J_istore_n (k0 := 1) (pc := 1) [(1, .int 0), (0, .ref (G.1 + a))] hX (by decide +kernel) rfl (by decide) rfl ?_
  refine J_iconst (pc := 2) (n := 1) (v := 1) hX (by decide +kernel) (by decide +kernel) ?_
  refine J_istore_n (k0 := 2) (pc := 3) [(2, .int 1), (1, .int 0), (0, .ref (G.1 + a))] hX (by decide +kernel) rfl (by decide) rfl ?_
  exact J_sub [2, 1, 0] _ rfl (jTh_lowest_4 hL hX FU 0 1 μ)
set_option maxRecDepth 100000 in
set_option maxHeartbeats 4000000 in
theorem c_Th_lowest {l : Launch} {G : Gx} {y : Ly} {a tt : Nat} (hL : LyTh y a tt)  (μ : Mu) : Cn l G ⟨"SaltFigures$Thinker", "lowest", "()I"⟩ prog_10_method_7_code 4 (some .int) 2 [.ref (G.1 + a)] (μ, y) (emy y) rvI tpT (Th_lowest a tt  μ) := cn_of (by decide +kernel) (Nat.le_of_ble_eq_true rfl) (fun _ _ _ => ⟨List.prefix_refl _, trivial⟩) (fun X hX _ => jTh_lowest hL hX  μ)

def Th_turn (a tt : Nat) (v1 : Int32) (v2 : Int32) (v3 : Int32) (μ : Mu) : Option (Int32 × Mu) := cl (Rw_at (tt + 1) 8 v1 μ) (fun x2 μ1 => cl (Rw_at (tt + 3) 8 v1 μ1) (fun x4 μ3 => cl (Rw_at (tt + 1) 8 v2 μ3) (fun x6 μ5 => cl (Rw_at (tt + 3) 8 v3 μ5) (fun x8 μ7 => cl (Rw_at (tt + 3) 8 v2 μ7) (fun x10 μ9 => cl (Rw_at (tt + 1) 8 v3 μ9) (fun x12 μ11 => some (((x6 - x2) * (x8 - x4)) - ((x10 - x4) * (x12 - x2)), μ11)))))))
set_option maxRecDepth 100000 in
set_option maxHeartbeats 4000000 in
theorem jTh_turn {X : Cx} {l : Launch} {G : Gx} {y : Ly} {a tt : Nat} (hL : LyTh y a tt) (hX : Ok X l G prog_10_method_5_code 6 (some .int) "SaltFigures$Thinker") (v1 : Int32) (v2 : Int32) (v3 : Int32) (μ : Mu) : J X G 6 2 y (emy y) rvI tpT 0 [(0, .ref (G.1 + a)), (1, .int v1), (2, .int v2), (3, .int v3)] [] (μ, y) (Th_turn a tt v1 v2 v3 μ) := by
  unfold Th_turn
  refine J_aload_n (k0 := 0) (pc := 0) 0 hX (by decide +kernel) rfl rfl ?_
  refine J_gr (pc := 1) hX (by decide +kernel) fl_Th_18 hL.1 rfl hL.2.1.1 ?_
  refine J_gr (pc := 4) hX (by decide +kernel) fl_Th_22 hL.2.1.2.1 rfl hL.2.1.2.2.1.1 ?_
  refine J_iload_n (k0 := 1) (pc := 7) 1 hX (by decide +kernel) rfl rfl ?_
  refine J_cVi (pc := 8) (idx := 34) [.int v1] hX (by decide +kernel) (mq mt_4 191 (by decide +kernel)) mv_Rw_at hL.2.1.2.2.1.2.1 rfl rfl (Nat.le_of_ble_eq_true rfl) (Nat.le_of_ble_eq_true rfl) (c_Rw_at hL.2.1.2.2.1.2 v1 μ) (fun x2 μ1 => ?_)
  refine J_istore (pc := 11) [(4, .int x2), (0, .ref (G.1 + a)), (1, .int v1), (2, .int v2), (3, .int v3)] hX (by decide +kernel) (by decide) rfl ?_
  refine J_aload_n (k0 := 0) (pc := 13) 1 hX (by decide +kernel) rfl rfl ?_
  refine J_gr (pc := 14) hX (by decide +kernel) fl_Th_18 hL.1 rfl hL.2.1.1 ?_
  refine J_gr (pc := 17) hX (by decide +kernel) fl_Th_38 hL.2.1.2.1 rfl hL.2.1.2.2.2.1.1 ?_
  refine J_iload_n (k0 := 1) (pc := 20) 2 hX (by decide +kernel) rfl rfl ?_
  refine J_cVi (pc := 21) (idx := 34) [.int v1] hX (by decide +kernel) (mq mt_4 191 (by decide +kernel)) mv_Rw_at hL.2.1.2.2.2.1.2.1 rfl rfl (Nat.le_of_ble_eq_true rfl) (Nat.le_of_ble_eq_true rfl) (c_Rw_at hL.2.1.2.2.2.1.2 v1 μ1) (fun x4 μ3 => ?_)
  refine J_istore (pc := 24) [(5, .int x4), (4, .int x2), (0, .ref (G.1 + a)), (1, .int v1), (2, .int v2), (3, .int v3)] hX (by decide +kernel) (by decide) rfl ?_
  refine J_aload_n (k0 := 0) (pc := 26) 2 hX (by decide +kernel) rfl rfl ?_
  refine J_gr (pc := 27) hX (by decide +kernel) fl_Th_18 hL.1 rfl hL.2.1.1 ?_
  refine J_gr (pc := 30) hX (by decide +kernel) fl_Th_22 hL.2.1.2.1 rfl hL.2.1.2.2.1.1 ?_
  refine J_iload_n (k0 := 2) (pc := 33) 4 hX (by decide +kernel) rfl rfl ?_
  refine J_cVi (pc := 34) (idx := 34) [.int v2] hX (by decide +kernel) (mq mt_4 191 (by decide +kernel)) mv_Rw_at hL.2.1.2.2.1.2.1 rfl rfl (Nat.le_of_ble_eq_true rfl) (Nat.le_of_ble_eq_true rfl) (c_Rw_at hL.2.1.2.2.1.2 v2 μ3) (fun x6 μ5 => ?_)
  refine J_iload (pc := 37) 1 hX (by decide +kernel) rfl ?_
  refine J_isub (pc := 39) hX (by decide +kernel) ?_
  refine J_aload_n (k0 := 0) (pc := 40) 2 hX (by decide +kernel) rfl rfl ?_
  refine J_gr (pc := 41) hX (by decide +kernel) fl_Th_18 hL.1 rfl hL.2.1.1 ?_
  refine J_gr (pc := 44) hX (by decide +kernel) fl_Th_38 hL.2.1.2.1 rfl hL.2.1.2.2.2.1.1 ?_
  refine J_iload_n (k0 := 3) (pc := 47) 5 hX (by decide +kernel) rfl rfl ?_
  refine J_cVi (pc := 48) (idx := 34) [.int v3] hX (by decide +kernel) (mq mt_4 191 (by decide +kernel)) mv_Rw_at hL.2.1.2.2.2.1.2.1 rfl rfl (Nat.le_of_ble_eq_true rfl) (Nat.le_of_ble_eq_true rfl) (c_Rw_at hL.2.1.2.2.2.1.2 v3 μ5) (fun x8 μ7 => ?_)
  refine J_iload (pc := 51) 0 hX (by decide +kernel) rfl ?_
  refine J_isub (pc := 53) hX (by decide +kernel) ?_
  refine J_imul (pc := 54) hX (by decide +kernel) ?_
  refine J_aload_n (k0 := 0) (pc := 55) 2 hX (by decide +kernel) rfl rfl ?_
  refine J_gr (pc := 56) hX (by decide +kernel) fl_Th_18 hL.1 rfl hL.2.1.1 ?_
  refine J_gr (pc := 59) hX (by decide +kernel) fl_Th_38 hL.2.1.2.1 rfl hL.2.1.2.2.2.1.1 ?_
  refine J_iload_n (k0 := 2) (pc := 62) 4 hX (by decide +kernel) rfl rfl ?_
  refine J_cVi (pc := 63) (idx := 34) [.int v2] hX (by decide +kernel) (mq mt_4 191 (by decide +kernel)) mv_Rw_at hL.2.1.2.2.2.1.2.1 rfl rfl (Nat.le_of_ble_eq_true rfl) (Nat.le_of_ble_eq_true rfl) (c_Rw_at hL.2.1.2.2.2.1.2 v2 μ7) (fun x10 μ9 => ?_)
  refine J_iload (pc := 66) 0 hX (by decide +kernel) rfl ?_
  refine J_isub (pc := 68) hX (by decide +kernel) ?_
  refine J_aload_n (k0 := 0) (pc := 69) 2 hX (by decide +kernel) rfl rfl ?_
  refine J_gr (pc := 70) hX (by decide +kernel) fl_Th_18 hL.1 rfl hL.2.1.1 ?_
  refine J_gr (pc := 73) hX (by decide +kernel) fl_Th_22 hL.2.1.2.1 rfl hL.2.1.2.2.1.1 ?_
  refine J_iload_n (k0 := 3) (pc := 76) 5 hX (by decide +kernel) rfl rfl ?_
  refine J_cVi (pc := 77) (idx := 34) [.int v3] hX (by decide +kernel) (mq mt_4 191 (by decide +kernel)) mv_Rw_at hL.2.1.2.2.1.2.1 rfl rfl (Nat.le_of_ble_eq_true rfl) (Nat.le_of_ble_eq_true rfl) (c_Rw_at hL.2.1.2.2.1.2 v3 μ9) (fun x12 μ11 => ?_)
  refine J_iload (pc := 80) 1 hX (by decide +kernel) rfl ?_
  refine J_isub (pc := 82) hX (by decide +kernel) ?_
  refine J_imul (pc := 83) hX (by decide +kernel) ?_
  refine J_isub (pc := 84) hX (by decide +kernel) ?_
  exact J_iret (pc := 85) hX (by decide +kernel) rfl trivial
set_option maxRecDepth 100000 in
set_option maxHeartbeats 4000000 in
theorem c_Th_turn {l : Launch} {G : Gx} {y : Ly} {a tt : Nat} (hL : LyTh y a tt) (v1 : Int32) (v2 : Int32) (v3 : Int32) (μ : Mu) : Cn l G ⟨"SaltFigures$Thinker", "turn", "(III)I"⟩ prog_10_method_5_code 6 (some .int) 2 [.ref (G.1 + a), .int v1, .int v2, .int v3] (μ, y) (emy y) rvI tpT (Th_turn a tt v1 v2 v3 μ) := cn_of (by decide +kernel) (Nat.le_of_ble_eq_true rfl) (fun _ _ _ => ⟨List.prefix_refl _, trivial⟩) (fun X hX _ => jTh_turn hL hX v1 v2 v3 μ)

def Th_apart (a tt : Nat) (v1 : Int32) (v2 : Int32) (μ : Mu) : Option (Int32 × Mu) := cl (Rw_at (tt + 1) 8 v1 μ) (fun x2 μ1 => cl (Rw_at (tt + 1) 8 v2 μ1) (fun x4 μ3 => cl (Rw_at (tt + 3) 8 v1 μ3) (fun x6 μ5 => cl (Rw_at (tt + 3) 8 v2 μ5) (fun x8 μ7 => some (((x2 - x4) * (x2 - x4)) + ((x6 - x8) * (x6 - x8)), μ7)))))
set_option maxRecDepth 100000 in
set_option maxHeartbeats 4000000 in
theorem jTh_apart {X : Cx} {l : Launch} {G : Gx} {y : Ly} {a tt : Nat} (hL : LyTh y a tt) (hX : Ok X l G prog_10_method_9_code 5 (some .int) "SaltFigures$Thinker") (v1 : Int32) (v2 : Int32) (μ : Mu) : J X G 5 2 y (emy y) rvI tpT 0 [(0, .ref (G.1 + a)), (1, .int v1), (2, .int v2)] [] (μ, y) (Th_apart a tt v1 v2 μ) := by
  unfold Th_apart
  refine J_aload_n (k0 := 0) (pc := 0) 0 hX (by decide +kernel) rfl rfl ?_
  refine J_gr (pc := 1) hX (by decide +kernel) fl_Th_18 hL.1 rfl hL.2.1.1 ?_
  refine J_gr (pc := 4) hX (by decide +kernel) fl_Th_22 hL.2.1.2.1 rfl hL.2.1.2.2.1.1 ?_
  refine J_iload_n (k0 := 1) (pc := 7) 1 hX (by decide +kernel) rfl rfl ?_
  refine J_cVi (pc := 8) (idx := 34) [.int v1] hX (by decide +kernel) (mq mt_4 191 (by decide +kernel)) mv_Rw_at hL.2.1.2.2.1.2.1 rfl rfl (Nat.le_of_ble_eq_true rfl) (Nat.le_of_ble_eq_true rfl) (c_Rw_at hL.2.1.2.2.1.2 v1 μ) (fun x2 μ1 => ?_)
  refine J_aload_n (k0 := 0) (pc := 11) 0 hX (by decide +kernel) rfl rfl ?_
  refine J_gr (pc := 12) hX (by decide +kernel) fl_Th_18 hL.1 rfl hL.2.1.1 ?_
  refine J_gr (pc := 15) hX (by decide +kernel) fl_Th_22 hL.2.1.2.1 rfl hL.2.1.2.2.1.1 ?_
  refine J_iload_n (k0 := 2) (pc := 18) 2 hX (by decide +kernel) rfl rfl ?_
  refine J_cVi (pc := 19) (idx := 34) [.int v2] hX (by decide +kernel) (mq mt_4 191 (by decide +kernel)) mv_Rw_at hL.2.1.2.2.1.2.1 rfl rfl (Nat.le_of_ble_eq_true rfl) (Nat.le_of_ble_eq_true rfl) (c_Rw_at hL.2.1.2.2.1.2 v2 μ1) (fun x4 μ3 => ?_)
  refine J_isub (pc := 22) hX (by decide +kernel) ?_
  refine J_istore_n (k0 := 3) (pc := 23) [(3, .int (x2 - x4)), (0, .ref (G.1 + a)), (1, .int v1), (2, .int v2)] hX (by decide +kernel) rfl (by decide) rfl ?_
  refine J_aload_n (k0 := 0) (pc := 24) 1 hX (by decide +kernel) rfl rfl ?_
  refine J_gr (pc := 25) hX (by decide +kernel) fl_Th_18 hL.1 rfl hL.2.1.1 ?_
  refine J_gr (pc := 28) hX (by decide +kernel) fl_Th_38 hL.2.1.2.1 rfl hL.2.1.2.2.2.1.1 ?_
  refine J_iload_n (k0 := 1) (pc := 31) 2 hX (by decide +kernel) rfl rfl ?_
  refine J_cVi (pc := 32) (idx := 34) [.int v1] hX (by decide +kernel) (mq mt_4 191 (by decide +kernel)) mv_Rw_at hL.2.1.2.2.2.1.2.1 rfl rfl (Nat.le_of_ble_eq_true rfl) (Nat.le_of_ble_eq_true rfl) (c_Rw_at hL.2.1.2.2.2.1.2 v1 μ3) (fun x6 μ5 => ?_)
  refine J_aload_n (k0 := 0) (pc := 35) 1 hX (by decide +kernel) rfl rfl ?_
  refine J_gr (pc := 36) hX (by decide +kernel) fl_Th_18 hL.1 rfl hL.2.1.1 ?_
  refine J_gr (pc := 39) hX (by decide +kernel) fl_Th_38 hL.2.1.2.1 rfl hL.2.1.2.2.2.1.1 ?_
  refine J_iload_n (k0 := 2) (pc := 42) 3 hX (by decide +kernel) rfl rfl ?_
  refine J_cVi (pc := 43) (idx := 34) [.int v2] hX (by decide +kernel) (mq mt_4 191 (by decide +kernel)) mv_Rw_at hL.2.1.2.2.2.1.2.1 rfl rfl (Nat.le_of_ble_eq_true rfl) (Nat.le_of_ble_eq_true rfl) (c_Rw_at hL.2.1.2.2.2.1.2 v2 μ5) (fun x8 μ7 => ?_)
  refine J_isub (pc := 46) hX (by decide +kernel) ?_
  refine J_istore (pc := 47) [(4, .int (x6 - x8)), (3, .int (x2 - x4)), (0, .ref (G.1 + a)), (1, .int v1), (2, .int v2)] hX (by decide +kernel) (by decide) rfl ?_
  refine J_iload_n (k0 := 3) (pc := 49) 1 hX (by decide +kernel) rfl rfl ?_
  refine J_iload_n (k0 := 3) (pc := 50) 1 hX (by decide +kernel) rfl rfl ?_
  refine J_imul (pc := 51) hX (by decide +kernel) ?_
  refine J_iload (pc := 52) 0 hX (by decide +kernel) rfl ?_
  refine J_iload (pc := 54) 0 hX (by decide +kernel) rfl ?_
  refine J_imul (pc := 56) hX (by decide +kernel) ?_
  refine J_iadd (pc := 57) hX (by decide +kernel) ?_
  exact J_iret (pc := 58) hX (by decide +kernel) rfl trivial
set_option maxRecDepth 100000 in
set_option maxHeartbeats 4000000 in
theorem c_Th_apart {l : Launch} {G : Gx} {y : Ly} {a tt : Nat} (hL : LyTh y a tt) (v1 : Int32) (v2 : Int32) (μ : Mu) : Cn l G ⟨"SaltFigures$Thinker", "apart", "(II)I"⟩ prog_10_method_9_code 5 (some .int) 2 [.ref (G.1 + a), .int v1, .int v2] (μ, y) (emy y) rvI tpT (Th_apart a tt v1 v2 μ) := cn_of (by decide +kernel) (Nat.le_of_ble_eq_true rfl) (fun _ _ _ => ⟨List.prefix_refl _, trivial⟩) (fun X hX _ => jTh_apart hL hX v1 v2 μ)

def Th_nextCorner_62 (a tt : Nat) (kb12 : Int32 → Int32 → Mu → Option (Int32 × Mu))  (v1 : Int32) (v2 : Int32) (v3 : Int32)  (μ : Mu) : Option (Int32 × Mu) := kb12 v2 (v3 + 1) μ
def Th_nextCorner_60 (a tt : Nat) (kb12 : Int32 → Int32 → Mu → Option (Int32 × Mu))  (v1 : Int32) (v3 : Int32)  (μ : Mu) : Option (Int32 × Mu) := Th_nextCorner_62 a tt kb12 v1 v3 v3 μ
def Th_nextCorner_12b (a tt : Nat)  (kb12 : Int32 → Int32 → Mu → Option (Int32 × Mu)) (v1 : Int32) (v2 : Int32) (v3 : Int32)  (μ : Mu) : Option (Int32 × Mu) := gF μ (tt + 1) 3 (fun x1 => (if x1 ≤ v3 then some (v2, μ) else cl (Th_turn a tt v1 v2 v3 μ) (fun x3 μ2 => (if x3 < 0 then Th_nextCorner_60 a tt kb12 v1 v3 μ2 else (if x3 = 0 then cl (Th_apart a tt v1 v3 μ2) (fun x5 μ4 => cl (Th_apart a tt v1 v2 μ4) (fun x7 μ6 => (if x5 ≤ x7 then Th_nextCorner_62 a tt kb12 v1 v2 v3 μ6 else Th_nextCorner_60 a tt kb12 v1 v3 μ6))) else Th_nextCorner_62 a tt kb12 v1 v2 v3 μ2)))))
def Th_nextCorner_12 (a tt : Nat)  (v1 : Int32) (fu : Nat) : Int32 → Int32 → Mu → Option (Int32 × Mu) := lp (fun kb => Th_nextCorner_12b a tt  kb v1) (fun _ _ _ => none) fu
def Th_nextCorner_9 (a tt : Nat)   (v1 : Int32) (s0 : Int32) (μ : Mu) : Option (Int32 × Mu) := Th_nextCorner_12 a tt v1 FU s0 0 μ
def Th_nextCorner (a tt : Nat) (v1 : Int32) (μ : Mu) : Option (Int32 × Mu) := (if v1 = 0 then Th_nextCorner_9 a tt v1 1 μ else Th_nextCorner_9 a tt v1 0 μ)
set_option maxRecDepth 100000 in
set_option maxHeartbeats 4000000 in
theorem jTh_nextCorner_62 {X : Cx} {l : Launch} {G : Gx} {y : Ly} {a tt : Nat} (hL : LyTh y a tt) (hX : Ok X l G prog_10_method_8_code 5 (some .int) "SaltFigures$Thinker")  (v1 : Int32) (v2 : Int32) (v3 : Int32)  {kb12 : Int32 → Int32 → Mu → Option (Int32 × Mu)} (hk12 : ∀ (v2 : Int32) (v3 : Int32) (μ : Mu), J X G 5 3 y (emy y) rvI tpT 12 [(0, .ref (G.1 + a)), (1, .int v1), (2, .int v2), (3, .int v3)] [] (μ, y) (kb12 v2 v3 μ)) (μ : Mu) : J X G 5 3 y (emy y) rvI tpT 62 [(0, .ref (G.1 + a)), (1, .int v1), (2, .int v2), (3, .int v3)] [] (μ, y) (Th_nextCorner_62 a tt kb12  v1 v2 v3  μ) := by
  unfold Th_nextCorner_62
  refine J_iinc (pc := 62) (n := 1) 3 [(3, .int (v3 + 1)), (0, .ref (G.1 + a)), (1, .int v1), (2, .int v2)] hX (by decide +kernel) rfl rfl (by decide) rfl ?_
  refine J_goto (pc := 65) (off := -53) (tgt := 12) hX (by decide +kernel) (by decide +kernel) ?_
  exact J_sub [1, 2, 3, 0] _ rfl (hk12 v2 (v3 + 1) μ)
set_option maxRecDepth 100000 in
set_option maxHeartbeats 4000000 in
theorem jTh_nextCorner_60 {X : Cx} {l : Launch} {G : Gx} {y : Ly} {a tt : Nat} (hL : LyTh y a tt) (hX : Ok X l G prog_10_method_8_code 5 (some .int) "SaltFigures$Thinker")  (v1 : Int32) (v3 : Int32)  {kb12 : Int32 → Int32 → Mu → Option (Int32 × Mu)} (hk12 : ∀ (v2 : Int32) (v3 : Int32) (μ : Mu), J X G 5 3 y (emy y) rvI tpT 12 [(0, .ref (G.1 + a)), (1, .int v1), (2, .int v2), (3, .int v3)] [] (μ, y) (kb12 v2 v3 μ)) (μ : Mu) : J X G 5 3 y (emy y) rvI tpT 60 [(0, .ref (G.1 + a)), (1, .int v1), (3, .int v3)] [] (μ, y) (Th_nextCorner_60 a tt kb12  v1 v3  μ) := by
  unfold Th_nextCorner_60
  refine J_iload_n (k0 := 3) (pc := 60) 2 hX (by decide +kernel) rfl rfl ?_
  refine J_istore_n (k0 := 2) (pc := 61) [(2, .int v3), (0, .ref (G.1 + a)), (1, .int v1), (3, .int v3)] hX (by decide +kernel) rfl (by decide) rfl ?_
  exact J_sub [1, 2, 0, 3] _ rfl (jTh_nextCorner_62 hL hX v1 v3 v3 hk12 μ)
set_option maxRecDepth 100000 in
set_option maxHeartbeats 4000000 in
theorem jTh_nextCorner_12b {X : Cx} {l : Launch} {G : Gx} {y : Ly} {a tt : Nat} (hL : LyTh y a tt) (hX : Ok X l G prog_10_method_8_code 5 (some .int) "SaltFigures$Thinker") (v1 : Int32)  {kb12 : Int32 → Int32 → Mu → Option (Int32 × Mu)}  (hk12 : ∀ (v2 : Int32) (v3 : Int32) (μ : Mu), J X G 5 3 y (emy y) rvI tpT 12 [(0, .ref (G.1 + a)), (1, .int v1), (2, .int v2), (3, .int v3)] [] (μ, y) (kb12 v2 v3 μ)) (v2 : Int32) (v3 : Int32)  (μ : Mu) : J X G 5 3 y (emy y) rvI tpT 12 [(0, .ref (G.1 + a)), (1, .int v1), (2, .int v2), (3, .int v3)] [] (μ, y) (Th_nextCorner_12b a tt  kb12 v1 v2 v3  μ) := by
  unfold Th_nextCorner_12b
  refine J_iload_n (k0 := 3) (pc := 12) 3 hX (by decide +kernel) rfl rfl ?_
  refine J_aload_n (k0 := 0) (pc := 13) 0 hX (by decide +kernel) rfl rfl ?_
  refine J_gr (pc := 14) hX (by decide +kernel) fl_Th_18 hL.1 rfl hL.2.1.1 ?_
  refine J_gr (pc := 17) hX (by decide +kernel) fl_Th_22 hL.2.1.2.1 rfl hL.2.1.2.2.1.1 ?_
  refine J_gF (pc := 20) hX (by decide +kernel) fl_Th_28 hL.2.1.2.2.1.2.1 rfl (fun x1 => ?_)
  refine J_icmp_ge (pc := 23) (off := 45) (tgt := 68) hX (by decide +kernel) (by decide +kernel) (fun _ => ?_) (fun _ => ?_)
  · refine J_iload_n (k0 := 2) (pc := 68) 2 hX (by decide +kernel) rfl rfl ?_
    exact J_iret (pc := 69) hX (by decide +kernel) rfl trivial
  · refine J_aload_n (k0 := 0) (pc := 26) 0 hX (by decide +kernel) rfl rfl ?_
    refine J_iload_n (k0 := 1) (pc := 27) 1 hX (by decide +kernel) rfl rfl ?_
    refine J_iload_n (k0 := 2) (pc := 28) 2 hX (by decide +kernel) rfl rfl ?_
    refine J_iload_n (k0 := 3) (pc := 29) 3 hX (by decide +kernel) rfl rfl ?_
    refine J_cVi (pc := 30) (idx := 65) [.int v1, .int v2, .int v3] hX (by decide +kernel) (mq mt_4 237 (by decide +kernel)) mv_Th_turn hL.1 rfl rfl (Nat.le_of_ble_eq_true rfl) (Nat.le_of_ble_eq_true rfl) (c_Th_turn hL v1 v2 v3 μ) (fun x3 μ2 => ?_)
    refine J_istore (pc := 33) [(4, .int x3), (0, .ref (G.1 + a)), (1, .int v1), (2, .int v2), (3, .int v3)] hX (by decide +kernel) (by decide) rfl ?_
    refine J_iload (pc := 35) 0 hX (by decide +kernel) rfl ?_
    refine J_if_lt (pc := 37) (off := 23) (tgt := 60) hX (by decide +kernel) (by decide +kernel) (fun _ => ?_) (fun _ => ?_)
    · exact J_sub [1, 2, 4] _ rfl (jTh_nextCorner_60 hL hX v1 v3 hk12 μ2)
    · refine J_iload (pc := 40) 0 hX (by decide +kernel) rfl ?_
      refine J_if_ne (pc := 42) (off := 20) (tgt := 62) hX (by decide +kernel) (by decide +kernel) (fun _ => ?_) (fun _ => ?_)
      · exact J_sub [1, 2, 3, 4] _ rfl (jTh_nextCorner_62 hL hX v1 v2 v3 hk12 μ2)
      · refine J_aload_n (k0 := 0) (pc := 45) 1 hX (by decide +kernel) rfl rfl ?_
        refine J_iload_n (k0 := 1) (pc := 46) 2 hX (by decide +kernel) rfl rfl ?_
        refine J_iload_n (k0 := 3) (pc := 47) 4 hX (by decide +kernel) rfl rfl ?_
        refine J_cVi (pc := 48) (idx := 69) [.int v1, .int v3] hX (by decide +kernel) (mq mt_4 238 (by decide +kernel)) mv_Th_apart hL.1 rfl rfl (Nat.le_of_ble_eq_true rfl) (Nat.le_of_ble_eq_true rfl) (c_Th_apart hL v1 v3 μ2) (fun x5 μ4 => ?_)
        refine J_aload_n (k0 := 0) (pc := 51) 1 hX (by decide +kernel) rfl rfl ?_
        refine J_iload_n (k0 := 1) (pc := 52) 2 hX (by decide +kernel) rfl rfl ?_
        refine J_iload_n (k0 := 2) (pc := 53) 3 hX (by decide +kernel) rfl rfl ?_
        refine J_cVi (pc := 54) (idx := 69) [.int v1, .int v2] hX (by decide +kernel) (mq mt_4 238 (by decide +kernel)) mv_Th_apart hL.1 rfl rfl (Nat.le_of_ble_eq_true rfl) (Nat.le_of_ble_eq_true rfl) (c_Th_apart hL v1 v2 μ4) (fun x7 μ6 => ?_)
        refine J_icmp_le (pc := 57) (off := 5) (tgt := 62) hX (by decide +kernel) (by decide +kernel) (fun _ => ?_) (fun _ => ?_)
        · exact J_sub [1, 2, 3, 4] _ rfl (jTh_nextCorner_62 hL hX v1 v2 v3 hk12 μ6)
        · exact J_sub [1, 2, 4] _ rfl (jTh_nextCorner_60 hL hX v1 v3 hk12 μ6)
set_option maxRecDepth 100000 in
set_option maxHeartbeats 4000000 in
theorem jTh_nextCorner_12 {X : Cx} {l : Launch} {G : Gx} {y : Ly} {a tt : Nat} (hL : LyTh y a tt) (hX : Ok X l G prog_10_method_8_code 5 (some .int) "SaltFigures$Thinker") (v1 : Int32)   : ∀ (fu : Nat) (v2 : Int32) (v3 : Int32) (μ : Mu), J X G 5 3 y (emy y) rvI tpT 12 [(0, .ref (G.1 + a)), (1, .int v1), (2, .int v2), (3, .int v3)] [] (μ, y) (Th_nextCorner_12 a tt  v1 fu v2 v3 μ) := by
  intro fu
  induction fu with
  | zero => intros; exact J_none
  | succ fu ih => intro v2 v3 μ; exact jTh_nextCorner_12b hL hX v1  ih v2 v3 μ
set_option maxRecDepth 100000 in
set_option maxHeartbeats 4000000 in
theorem jTh_nextCorner_9 {X : Cx} {l : Launch} {G : Gx} {y : Ly} {a tt : Nat} (hL : LyTh y a tt) (hX : Ok X l G prog_10_method_8_code 5 (some .int) "SaltFigures$Thinker")  (v1 : Int32) (s0 : Int32)   (μ : Mu) : J X G 5 3 y (emy y) rvI tpT 9 [(0, .ref (G.1 + a)), (1, .int v1)] [.int s0] (μ, y) (Th_nextCorner_9 a tt   v1 s0 μ) := by
  unfold Th_nextCorner_9
  refine J_istore_n (k0 := 2) (pc := 9) [(2, .int s0), (0, .ref (G.1 + a)), (1, .int v1)] hX (by decide +kernel) rfl (by decide) rfl ?_
  refine J_iconst (pc := 10) (n := 0) (v := 0) hX (by decide +kernel) (by decide +kernel) ?_
  refine J_istore_n (k0 := 3) (pc := 11) [(3, .int 0), (2, .int s0), (0, .ref (G.1 + a)), (1, .int v1)] hX (by decide +kernel) rfl (by decide) rfl ?_
  exact J_sub [2, 3, 1, 0] _ rfl (jTh_nextCorner_12 hL hX v1 FU s0 0 μ)
set_option maxRecDepth 100000 in
set_option maxHeartbeats 4000000 in
theorem jTh_nextCorner {X : Cx} {l : Launch} {G : Gx} {y : Ly} {a tt : Nat} (hL : LyTh y a tt) (hX : Ok X l G prog_10_method_8_code 5 (some .int) "SaltFigures$Thinker") (v1 : Int32) (μ : Mu) : J X G 5 3 y (emy y) rvI tpT 0 [(0, .ref (G.1 + a)), (1, .int v1)] [] (μ, y) (Th_nextCorner a tt v1 μ) := by
  unfold Th_nextCorner
  refine J_iload_n (k0 := 1) (pc := 0) 1 hX (by decide +kernel) rfl rfl ?_
  refine J_if_ne (pc := 1) (off := 7) (tgt := 8) hX (by decide +kernel) (by decide +kernel) (fun _ => ?_) (fun _ => ?_)
  · refine J_iconst (pc := 8) (n := 0) (v := 0) hX (by decide +kernel) (by decide +kernel) ?_
    exact J_sub [0, 1] _ rfl (jTh_nextCorner_9 hL hX v1 0 μ)
  · refine J_iconst (pc := 4) (n := 1) (v := 1) hX (by decide +kernel) (by decide +kernel) ?_
    refine J_goto (pc := 5) (off := 4) (tgt := 9) hX (by decide +kernel) (by decide +kernel) ?_
    exact J_sub [0, 1] _ rfl (jTh_nextCorner_9 hL hX v1 1 μ)
set_option maxRecDepth 100000 in
set_option maxHeartbeats 4000000 in
theorem c_Th_nextCorner {l : Launch} {G : Gx} {y : Ly} {a tt : Nat} (hL : LyTh y a tt) (v1 : Int32) (μ : Mu) : Cn l G ⟨"SaltFigures$Thinker", "nextCorner", "(I)I"⟩ prog_10_method_8_code 5 (some .int) 3 [.ref (G.1 + a), .int v1] (μ, y) (emy y) rvI tpT (Th_nextCorner a tt v1 μ) := cn_of (by decide +kernel) (Nat.le_of_ble_eq_true rfl) (fun _ _ _ => ⟨List.prefix_refl _, trivial⟩) (fun X hX _ => jTh_nextCorner hL hX v1 μ)

def Th_outline_135 (a tt : Nat)   (v1 : Int32) (v5 : Int32) (v6 : Int32)  (μ : Mu) : Option (Int32 × Mu) := (if v1 = 0 then some (v5, μ) else some (v6, μ))
def Th_outline_43b (a tt : Nat)  (kb43 : Int32 → Int32 → Int32 → Int32 → Mu → Option (Int32 × Mu)) (v1 : Int32) (v2 : Int32) (v3 : Int32) (v4 : Int32) (v5 : Int32) (v6 : Int32) (v7 : Int32)  (μ : Mu) : Option (Int32 × Mu) := (if v2 ≤ v7 then Th_outline_135 a tt v1 v5 v6 μ else cl (Th_nextCorner a tt v4 μ) (fun x2 μ1 => cl (Rw_at (tt + 1) 8 v4 μ1) (fun x4 μ3 => cl (Rw_at (tt + 3) 8 x2 μ3) (fun x6 μ5 => cl (Rw_at (tt + 1) 8 x2 μ5) (fun x8 μ7 => cl (Rw_at (tt + 3) 8 v4 μ7) (fun x10 μ9 => (if x2 = v3 then Th_outline_135 a tt v1 (v5 + 1) (v6 + ((x4 * x6) - (x8 * x10))) μ9 else kb43 x2 (v5 + 1) (v6 + ((x4 * x6) - (x8 * x10))) (v7 + 1) μ9)))))))
def Th_outline_43 (a tt : Nat)  (v1 : Int32) (v2 : Int32) (v3 : Int32) (fu : Nat) : Int32 → Int32 → Int32 → Int32 → Mu → Option (Int32 × Mu) := lp (fun kb => Th_outline_43b a tt  kb v1 v2 v3) (fun _ _ _ _ _ => none) fu
def Th_outline (a tt : Nat) (v1 : Int32) (μ : Mu) : Option (Int32 × Mu) := gF μ (tt + 1) 3 (fun x1 => (if 2 ≤ x1 then cl (Th_lowest a tt μ) (fun x3 μ2 => Th_outline_43 a tt v1 x1 x3 FU x3 0 0 0 μ2) else (if v1 = 0 then some (x1, μ) else some (0, μ))))
set_option maxRecDepth 100000 in
set_option maxHeartbeats 4000000 in
theorem jTh_outline_135 {X : Cx} {l : Launch} {G : Gx} {y : Ly} {a tt : Nat} (hL : LyTh y a tt) (hX : Ok X l G prog_10_method_6_code 9 (some .int) "SaltFigures$Thinker")  (v1 : Int32) (v5 : Int32) (v6 : Int32)    (μ : Mu) : J X G 9 4 y (emy y) rvI tpT 135 [(1, .int v1), (5, .int v5), (6, .int v6)] [] (μ, y) (Th_outline_135 a tt   v1 v5 v6  μ) := by
  unfold Th_outline_135
  refine J_iload_n (k0 := 1) (pc := 135) 0 hX (by decide +kernel) rfl rfl ?_
  refine J_if_eq (pc := 136) (off := 8) (tgt := 144) hX (by decide +kernel) (by decide +kernel) (fun _ => ?_) (fun _ => ?_)
  · refine J_iload (pc := 144) 1 hX (by decide +kernel) rfl ?_
    exact J_iret (pc := 146) hX (by decide +kernel) rfl trivial
  · refine J_iload (pc := 139) 2 hX (by decide +kernel) rfl ?_
    refine J_goto (pc := 141) (off := 5) (tgt := 146) hX (by decide +kernel) (by decide +kernel) ?_
    exact J_iret (pc := 146) hX (by decide +kernel) rfl trivial
set_option maxRecDepth 100000 in
set_option maxHeartbeats 4000000 in
theorem jTh_outline_43b {X : Cx} {l : Launch} {G : Gx} {y : Ly} {a tt : Nat} (hL : LyTh y a tt) (hX : Ok X l G prog_10_method_6_code 9 (some .int) "SaltFigures$Thinker") (v1 : Int32) (v2 : Int32) (v3 : Int32)  {kb43 : Int32 → Int32 → Int32 → Int32 → Mu → Option (Int32 × Mu)}  (hk43 : ∀ (v4 : Int32) (v5 : Int32) (v6 : Int32) (v7 : Int32) (μ : Mu), J X G 9 4 y (emy y) rvI tpT 43 [(0, .ref (G.1 + a)), (1, .int v1), (2, .int v2), (3, .int v3), (4, .int v4), (5, .int v5), (6, .int v6), (7, .int v7)] [] (μ, y) (kb43 v4 v5 v6 v7 μ)) (v4 : Int32) (v5 : Int32) (v6 : Int32) (v7 : Int32)  (μ : Mu) : J X G 9 4 y (emy y) rvI tpT 43 [(0, .ref (G.1 + a)), (1, .int v1), (2, .int v2), (3, .int v3), (4, .int v4), (5, .int v5), (6, .int v6), (7, .int v7)] [] (μ, y) (Th_outline_43b a tt  kb43 v1 v2 v3 v4 v5 v6 v7  μ) := by
  unfold Th_outline_43b
  refine J_iload (pc := 43) 7 hX (by decide +kernel) rfl ?_
  refine J_iload_n (k0 := 2) (pc := 45) 2 hX (by decide +kernel) rfl rfl ?_
  refine J_icmp_ge (pc := 46) (off := 89) (tgt := 135) hX (by decide +kernel) (by decide +kernel) (fun _ => ?_) (fun _ => ?_)
  · exact J_sub [1, 5, 6] _ rfl (jTh_outline_135 hL hX v1 v5 v6 μ)
  · refine J_aload_n (k0 := 0) (pc := 49) 0 hX (by decide +kernel) rfl rfl ?_
    refine J_iload (pc := 50) 4 hX (by decide +kernel) rfl ?_
    refine J_cVi (pc := 52) (idx := 62) [.int v4] hX (by decide +kernel) (mq mt_4 233 (by decide +kernel)) mv_Th_nextCorner hL.1 rfl rfl (Nat.le_of_ble_eq_true rfl) (Nat.le_of_ble_eq_true rfl) (c_Th_nextCorner hL v4 μ) (fun x2 μ1 => ?_)
    refine J_istore (pc := 55) [(8, .int x2), (0, .ref (G.1 + a)), (1, .int v1), (2, .int v2), (3, .int v3), (4, .int v4), (5, .int v5), (6, .int v6), (7, .int v7)] hX (by decide +kernel) (by decide) rfl ?_
    refine J_iload (pc := 57) 7 hX (by decide +kernel) rfl ?_
    refine J_aload_n (k0 := 0) (pc := 59) 1 hX (by decide +kernel) rfl rfl ?_
    refine J_gr (pc := 60) hX (by decide +kernel) fl_Th_18 hL.1 rfl hL.2.1.1 ?_
    refine J_gr (pc := 63) hX (by decide +kernel) fl_Th_22 hL.2.1.2.1 rfl hL.2.1.2.2.1.1 ?_
    refine J_iload (pc := 66) 5 hX (by decide +kernel) rfl ?_
    refine J_cVi (pc := 68) (idx := 34) [.int v4] hX (by decide +kernel) (mq mt_4 191 (by decide +kernel)) mv_Rw_at hL.2.1.2.2.1.2.1 rfl rfl (Nat.le_of_ble_eq_true rfl) (Nat.le_of_ble_eq_true rfl) (c_Rw_at hL.2.1.2.2.1.2 v4 μ1) (fun x4 μ3 => ?_)
    refine J_aload_n (k0 := 0) (pc := 71) 1 hX (by decide +kernel) rfl rfl ?_
    refine J_gr (pc := 72) hX (by decide +kernel) fl_Th_18 hL.1 rfl hL.2.1.1 ?_
    refine J_gr (pc := 75) hX (by decide +kernel) fl_Th_38 hL.2.1.2.1 rfl hL.2.1.2.2.2.1.1 ?_
    refine J_iload (pc := 78) 0 hX (by decide +kernel) rfl ?_
    refine J_cVi (pc := 80) (idx := 34) [.int x2] hX (by decide +kernel) (mq mt_4 191 (by decide +kernel)) mv_Rw_at hL.2.1.2.2.2.1.2.1 rfl rfl (Nat.le_of_ble_eq_true rfl) (Nat.le_of_ble_eq_true rfl) (c_Rw_at hL.2.1.2.2.2.1.2 x2 μ3) (fun x6 μ5 => ?_)
    refine J_imul (pc := 83) hX (by decide +kernel) ?_
    refine J_aload_n (k0 := 0) (pc := 84) 1 hX (by decide +kernel) rfl rfl ?_
    refine J_gr (pc := 85) hX (by decide +kernel) fl_Th_18 hL.1 rfl hL.2.1.1 ?_
    refine J_gr (pc := 88) hX (by decide +kernel) fl_Th_22 hL.2.1.2.1 rfl hL.2.1.2.2.1.1 ?_
    refine J_iload (pc := 91) 0 hX (by decide +kernel) rfl ?_
    refine J_cVi (pc := 93) (idx := 34) [.int x2] hX (by decide +kernel) (mq mt_4 191 (by decide +kernel)) mv_Rw_at hL.2.1.2.2.1.2.1 rfl rfl (Nat.le_of_ble_eq_true rfl) (Nat.le_of_ble_eq_true rfl) (c_Rw_at hL.2.1.2.2.1.2 x2 μ5) (fun x8 μ7 => ?_)
    refine J_aload_n (k0 := 0) (pc := 96) 1 hX (by decide +kernel) rfl rfl ?_
    refine J_gr (pc := 97) hX (by decide +kernel) fl_Th_18 hL.1 rfl hL.2.1.1 ?_
    refine J_gr (pc := 100) hX (by decide +kernel) fl_Th_38 hL.2.1.2.1 rfl hL.2.1.2.2.2.1.1 ?_
    refine J_iload (pc := 103) 5 hX (by decide +kernel) rfl ?_
    refine J_cVi (pc := 105) (idx := 34) [.int v4] hX (by decide +kernel) (mq mt_4 191 (by decide +kernel)) mv_Rw_at hL.2.1.2.2.2.1.2.1 rfl rfl (Nat.le_of_ble_eq_true rfl) (Nat.le_of_ble_eq_true rfl) (c_Rw_at hL.2.1.2.2.2.1.2 v4 μ7) (fun x10 μ9 => ?_)
    refine J_imul (pc := 108) hX (by decide +kernel) ?_
    refine J_isub (pc := 109) hX (by decide +kernel) ?_
    refine J_iadd (pc := 110) hX (by decide +kernel) ?_
    refine J_istore (pc := 111) [(6, .int (v6 + ((x4 * x6) - (x8 * x10)))), (8, .int x2), (0, .ref (G.1 + a)), (1, .int v1), (2, .int v2), (3, .int v3), (4, .int v4), (5, .int v5), (7, .int v7)] hX (by decide +kernel) (by decide) rfl ?_
    refine J_iinc (pc := 113) (n := 1) 7 [(5, .int (v5 + 1)), (6, .int (v6 + ((x4 * x6) - (x8 * x10)))), (8, .int x2), (0, .ref (G.1 + a)), (1, .int v1), (2, .int v2), (3, .int v3), (4, .int v4), (7, .int v7)] hX (by decide +kernel) rfl rfl (by decide) rfl ?_
    refine J_iload (pc := 116) 2 hX (by decide +kernel) rfl ?_
    refine J_istore (pc := 118) [(4, .int x2), (5, .int (v5 + 1)), (6, .int (v6 + ((x4 * x6) - (x8 * x10)))), (8, .int x2), (0, .ref (G.1 + a)), (1, .int v1), (2, .int v2), (3, .int v3), (7, .int v7)] hX (by decide +kernel) (by decide) rfl ?_
    refine J_iload (pc := 120) 0 hX (by decide +kernel) rfl ?_
    refine J_iload_n (k0 := 3) (pc := 122) 7 hX (by decide +kernel) rfl rfl ?_
    refine J_icmp_ne (pc := 123) (off := 6) (tgt := 129) hX (by decide +kernel) (by decide +kernel) (fun _ => ?_) (fun _ => ?_)
    · refine J_iinc (pc := 129) (n := 1) 8 [(7, .int (v7 + 1)), (4, .int x2), (5, .int (v5 + 1)), (6, .int (v6 + ((x4 * x6) - (x8 * x10)))), (8, .int x2), (0, .ref (G.1 + a)), (1, .int v1), (2, .int v2), (3, .int v3)] hX (by decide +kernel) rfl rfl (by decide) rfl ?_
      refine J_goto (pc := 132) (off := -89) (tgt := 43) hX (by decide +kernel) (by decide +kernel) ?_
      exact J_sub [5, 6, 7, 8, 1, 2, 3, 0] _ rfl (hk43 x2 (v5 + 1) (v6 + ((x4 * x6) - (x8 * x10))) (v7 + 1) μ9)
    · refine J_goto (pc := 126) (off := 9) (tgt := 135) hX (by decide +kernel) (by decide +kernel) ?_
      exact J_sub [5, 1, 2] _ rfl (jTh_outline_135 hL hX v1 (v5 + 1) (v6 + ((x4 * x6) - (x8 * x10))) μ9)
set_option maxRecDepth 100000 in
set_option maxHeartbeats 4000000 in
theorem jTh_outline_43 {X : Cx} {l : Launch} {G : Gx} {y : Ly} {a tt : Nat} (hL : LyTh y a tt) (hX : Ok X l G prog_10_method_6_code 9 (some .int) "SaltFigures$Thinker") (v1 : Int32) (v2 : Int32) (v3 : Int32)   : ∀ (fu : Nat) (v4 : Int32) (v5 : Int32) (v6 : Int32) (v7 : Int32) (μ : Mu), J X G 9 4 y (emy y) rvI tpT 43 [(0, .ref (G.1 + a)), (1, .int v1), (2, .int v2), (3, .int v3), (4, .int v4), (5, .int v5), (6, .int v6), (7, .int v7)] [] (μ, y) (Th_outline_43 a tt  v1 v2 v3 fu v4 v5 v6 v7 μ) := by
  intro fu
  induction fu with
  | zero => intros; exact J_none
  | succ fu ih => intro v4 v5 v6 v7 μ; exact jTh_outline_43b hL hX v1 v2 v3  ih v4 v5 v6 v7 μ
set_option maxRecDepth 100000 in
set_option maxHeartbeats 4000000 in
theorem jTh_outline {X : Cx} {l : Launch} {G : Gx} {y : Ly} {a tt : Nat} (hL : LyTh y a tt) (hX : Ok X l G prog_10_method_6_code 9 (some .int) "SaltFigures$Thinker") (v1 : Int32) (μ : Mu) : J X G 9 4 y (emy y) rvI tpT 0 [(0, .ref (G.1 + a)), (1, .int v1)] [] (μ, y) (Th_outline a tt v1 μ) := by
  unfold Th_outline
  refine J_aload_n (k0 := 0) (pc := 0) 0 hX (by decide +kernel) rfl rfl ?_
  refine J_gr (pc := 1) hX (by decide +kernel) fl_Th_18 hL.1 rfl hL.2.1.1 ?_
  refine J_gr (pc := 4) hX (by decide +kernel) fl_Th_22 hL.2.1.2.1 rfl hL.2.1.2.2.1.1 ?_
  refine J_gF (pc := 7) hX (by decide +kernel) fl_Th_28 hL.2.1.2.2.1.2.1 rfl (fun x1 => ?_)
  refine J_istore_n (k0 := 2) (pc := 10) [(2, .int x1), (0, .ref (G.1 + a)), (1, .int v1)] hX (by decide +kernel) rfl (by decide) rfl ?_
  refine J_iload_n (k0 := 2) (pc := 11) 0 hX (by decide +kernel) rfl rfl ?_
  refine J_iconst (pc := 12) (n := 2) (v := 2) hX (by decide +kernel) (by decide +kernel) ?_
  refine J_icmp_ge (pc := 13) (off := 13) (tgt := 26) hX (by decide +kernel) (by decide +kernel) (fun _ => ?_) (fun _ => ?_)
  · refine J_aload_n (k0 := 0) (pc := 26) 1 hX (by decide +kernel) rfl rfl ?_
    refine J_cVi (pc := 27) (idx := 58) [] hX (by decide +kernel) (mq mt_4 229 (by decide +kernel)) mv_Th_lowest hL.1 rfl rfl (Nat.le_of_ble_eq_true rfl) (Nat.le_of_ble_eq_true rfl) (c_Th_lowest hL μ) (fun x3 μ2 => ?_)
    refine J_istore_n (k0 := 3) (pc := 30) [(3, .int x3), (2, .int x1), (0, .ref (G.1 + a)), (1, .int v1)] hX (by decide +kernel) rfl (by decide) rfl ?_
    refine J_iload_n (k0 := 3) (pc := 31) 0 hX (by decide +kernel) rfl rfl ?_
    refine J_istore (pc := 32) [(4, .int x3), (3, .int x3), (2, .int x1), (0, .ref (G.1 + a)), (1, .int v1)] hX (by decide +kernel) (by decide) rfl ?_
    refine J_iconst (pc := 34) (n := 0) (v := 0) hX (by decide +kernel) (by decide +kernel) ?_
    refine J_istore (pc := 35) [(5, .int 0), (4, .int x3), (3, .int x3), (2, .int x1), (0, .ref (G.1 + a)), (1, .int v1)] hX (by decide +kernel) (by decide) rfl ?_
    refine J_iconst (pc := 37) (n := 0) (v := 0) hX (by decide +kernel) (by decide +kernel) ?_
    refine J_istore (pc := 38) [(6, .int 0), (5, .int 0), (4, .int x3), (3, .int x3), (2, .int x1), (0, .ref (G.1 + a)), (1, .int v1)] hX (by decide +kernel) (by decide) rfl ?_
    refine J_iconst (pc := 40) (n := 0) (v := 0) hX (by decide +kernel) (by decide +kernel) ?_
    refine J_istore (pc := 41) [(7, .int 0), (6, .int 0), (5, .int 0), (4, .int x3), (3, .int x3), (2, .int x1), (0, .ref (G.1 + a)), (1, .int v1)] hX (by decide +kernel) (by decide) rfl ?_
    exact J_sub [6, 7, 5, 4, 3, 2, 1, 0] _ rfl (jTh_outline_43 hL hX v1 x1 x3 FU x3 0 0 0 μ2)
  · refine J_iload_n (k0 := 1) (pc := 16) 2 hX (by decide +kernel) rfl rfl ?_
    refine J_if_eq (pc := 17) (off := 7) (tgt := 24) hX (by decide +kernel) (by decide +kernel) (fun _ => ?_) (fun _ => ?_)
    · refine J_iload_n (k0 := 2) (pc := 24) 0 hX (by decide +kernel) rfl rfl ?_
      exact J_iret (pc := 25) hX (by decide +kernel) rfl trivial
    · refine J_iconst (pc := 20) (n := 0) (v := 0) hX (by decide +kernel) (by decide +kernel) ?_
      refine J_goto (pc := 21) (off := 4) (tgt := 25) hX (by decide +kernel) (by decide +kernel) ?_
      exact J_iret (pc := 25) hX (by decide +kernel) rfl trivial
set_option maxRecDepth 100000 in
set_option maxHeartbeats 4000000 in
theorem c_Th_outline {l : Launch} {G : Gx} {y : Ly} {a tt : Nat} (hL : LyTh y a tt) (v1 : Int32) (μ : Mu) : Cn l G ⟨"SaltFigures$Thinker", "outline", "(Z)I"⟩ prog_10_method_6_code 9 (some .int) 4 [.ref (G.1 + a), .int v1] (μ, y) (emy y) rvI tpT (Th_outline a tt v1 μ) := cn_of (by decide +kernel) (Nat.le_of_ble_eq_true rfl) (fun _ _ _ => ⟨List.prefix_refl _, trivial⟩) (fun X hX _ => jTh_outline hL hX v1 μ)

def Sf_hull (a : Nat) (v1 : Int32) (μ : Mu) : Option (Int32 × Mu) := (if v1 = 0 then cl (Th_outline (a + 45) (a + 1 + 17) 0 μ) (fun x4 μ3 => some (x4, μ3)) else (if v1 = 1 then cl (Th_outline (a + 45) (a + 1 + 17) 1 μ) (fun x2 μ1 => some (x2, μ1)) else some ((-1), μ)))
set_option maxRecDepth 100000 in
set_option maxHeartbeats 4000000 in
theorem jSf_hull {X : Cx} {l : Launch} {G : Gx} {y : Ly} {a : Nat} (hL : LySf y a ) (hX : Ok X l G prog_1_method_22_code 2 (some .int) "SaltFigures") (v1 : Int32) (μ : Mu) : J X G 2 5 y (emy y) rvI tpT 0 [(0, .ref (G.1 + a)), (1, .int v1)] [] (μ, y) (Sf_hull a v1 μ) := by
  unfold Sf_hull
  refine J_iload_n (k0 := 1) (pc := 0) 1 hX (by decide +kernel) rfl rfl ?_
  refine J_if_ne (pc := 1) (off := 14) (tgt := 15) hX (by decide +kernel) (by decide +kernel) (fun _ => ?_) (fun _ => ?_)
  · refine J_iload_n (k0 := 1) (pc := 15) 1 hX (by decide +kernel) rfl rfl ?_
    refine J_iconst (pc := 16) (n := 1) (v := 1) hX (by decide +kernel) (by decide +kernel) ?_
    refine J_icmp_ne (pc := 17) (off := 14) (tgt := 31) hX (by decide +kernel) (by decide +kernel) (fun _ => ?_) (fun _ => ?_)
    · refine J_iconst (pc := 31) (n := -1) (v := (-1)) hX (by decide +kernel) (by decide +kernel) ?_
      exact J_iret (pc := 32) hX (by decide +kernel) rfl trivial
    · refine J_aload_n (k0 := 0) (pc := 20) 0 hX (by decide +kernel) rfl rfl ?_
      refine J_gr (pc := 21) hX (by decide +kernel) fl_Sf_43 hL.1 rfl hL.2.2.2.2.1.1 ?_
      refine J_iconst (pc := 24) (n := 1) (v := 1) hX (by decide +kernel) (by decide +kernel) ?_
      refine J_cVi (pc := 25) (idx := 262) [.int 1] hX (by decide +kernel) (mq mt_4 225 (by decide +kernel)) mv_Th_outline hL.2.2.2.2.1.2.1 rfl rfl (Nat.le_of_ble_eq_true rfl) (Nat.le_of_ble_eq_true rfl) (c_Th_outline hL.2.2.2.2.1.2 1 μ) (fun x2 μ1 => ?_)
      refine J_goto (pc := 28) (off := 4) (tgt := 32) hX (by decide +kernel) (by decide +kernel) ?_
      exact J_iret (pc := 32) hX (by decide +kernel) rfl trivial
  · refine J_aload_n (k0 := 0) (pc := 4) 0 hX (by decide +kernel) rfl rfl ?_
    refine J_gr (pc := 5) hX (by decide +kernel) fl_Sf_43 hL.1 rfl hL.2.2.2.2.1.1 ?_
    refine J_iconst (pc := 8) (n := 0) (v := 0) hX (by decide +kernel) (by decide +kernel) ?_
    refine J_cVi (pc := 9) (idx := 262) [.int 0] hX (by decide +kernel) (mq mt_4 225 (by decide +kernel)) mv_Th_outline hL.2.2.2.2.1.2.1 rfl rfl (Nat.le_of_ble_eq_true rfl) (Nat.le_of_ble_eq_true rfl) (c_Th_outline hL.2.2.2.2.1.2 0 μ) (fun x4 μ3 => ?_)
    refine J_goto (pc := 12) (off := 20) (tgt := 32) hX (by decide +kernel) (by decide +kernel) ?_
    exact J_iret (pc := 32) hX (by decide +kernel) rfl trivial
set_option maxRecDepth 100000 in
set_option maxHeartbeats 4000000 in
theorem c_Sf_hull {l : Launch} {G : Gx} {y : Ly} {a : Nat} (hL : LySf y a ) (v1 : Int32) (μ : Mu) : Cn l G ⟨"SaltFigures", "hull", "(I)I"⟩ prog_1_method_22_code 2 (some .int) 5 [.ref (G.1 + a), .int v1] (μ, y) (emy y) rvI tpT (Sf_hull a v1 μ) := cn_of (by decide +kernel) (Nat.le_of_ble_eq_true rfl) (fun _ _ _ => ⟨List.prefix_refl _, trivial⟩) (fun X hX _ => jSf_hull hL hX v1 μ)

def Tx_copyFrom (a f1 : Nat)  (μ : Mu) : Option (Unit × Mu) := cl (Lw_copyFrom (a + 1) (f1 + 1) μ) (fun _ μ1 => cpA μ1 (f1 + 8) 64 0 (a + 8) 64 0 64 (fun μ2 => cpA μ2 (f1 + 9) 16 0 (a + 9) 16 0 16 (fun μ3 => cpA μ3 (f1 + 10) 16 0 (a + 10) 16 0 16 (fun μ4 => cpA μ4 (f1 + 11) 4 0 (a + 11) 4 0 4 (fun μ5 => some ((), μ5))))))
set_option maxRecDepth 100000 in
set_option maxHeartbeats 4000000 in
theorem jTx_copyFrom {X : Cx} {l : Launch} {G : Gx} {y : Ly} {a f1 : Nat} (hL : LyTx y a ) (hf1 : LyTx y f1 ) (hX : Ok X l G prog_9_method_2_code 2 none "SaltFigures$Texts")  (μ : Mu) : J X G 2 4 y (emy y) rvV tpT 0 [(0, .ref (G.1 + a)), (1, .ref (G.1 + f1))] [] (μ, y) (Tx_copyFrom a f1  μ) := by
  unfold Tx_copyFrom
  refine J_aload_n (k0 := 0) (pc := 0) 0 hX (by decide +kernel) rfl rfl ?_
  refine J_gr (pc := 1) hX (by decide +kernel) fl_Tx_12 hL.1 rfl hL.2.1.1 ?_
  refine J_aload_n (k0 := 1) (pc := 4) 1 hX (by decide +kernel) rfl rfl ?_
  refine J_gr (pc := 5) hX (by decide +kernel) fl_Tx_12 hf1.1 rfl hf1.2.1.1 ?_
  refine J_cVv (pc := 8) (idx := 37) [.ref (G.1 + (f1 + 1))] hX (by decide +kernel) (mq mt_4 80 (by decide +kernel)) mv_Lw_copyFrom hL.2.1.2.1 rfl rfl (Nat.le_of_ble_eq_true rfl) (Nat.le_of_ble_eq_true rfl) (c_Lw_copyFrom hL.2.1.2 hf1.2.1.2 μ) (fun μ1 => ?_)
  refine J_aload_n (k0 := 1) (pc := 11) 1 hX (by decide +kernel) rfl rfl ?_
  refine J_gr (pc := 12) hX (by decide +kernel) fl_Tx_18 hf1.1 rfl hf1.2.2.1.1 ?_
  refine J_iconst (pc := 15) (n := 0) (v := 0) hX (by decide +kernel) (by decide +kernel) ?_
  refine J_aload_n (k0 := 0) (pc := 16) 0 hX (by decide +kernel) rfl rfl ?_
  refine J_gr (pc := 17) hX (by decide +kernel) fl_Tx_18 hL.1 rfl hL.2.2.1.1 ?_
  refine J_iconst (pc := 20) (n := 0) (v := 0) hX (by decide +kernel) (by decide +kernel) ?_
  refine J_aload_n (k0 := 0) (pc := 21) 0 hX (by decide +kernel) rfl rfl ?_
  refine J_gr (pc := 22) hX (by decide +kernel) fl_Tx_18 hL.1 rfl hL.2.2.1.1 ?_
  refine J_alen (pc := 25) hX (by decide +kernel) hL.2.2.1.2 (v := 64) (by decide +kernel) ?_
  refine J_acp (pc := 26) (idx := 41) hX (by decide +kernel) (mq mt_4 85 (by decide +kernel)) hf1.2.2.1.2 hL.2.2.1.2 (Nat.le_of_ble_eq_true rfl) (Nat.le_of_ble_eq_true rfl) (fun μ2 => ?_)
  refine J_aload_n (k0 := 1) (pc := 29) 1 hX (by decide +kernel) rfl rfl ?_
  refine J_gr (pc := 30) hX (by decide +kernel) fl_Tx_22 hf1.1 rfl hf1.2.2.2.1.1 ?_
  refine J_iconst (pc := 33) (n := 0) (v := 0) hX (by decide +kernel) (by decide +kernel) ?_
  refine J_aload_n (k0 := 0) (pc := 34) 0 hX (by decide +kernel) rfl rfl ?_
  refine J_gr (pc := 35) hX (by decide +kernel) fl_Tx_22 hL.1 rfl hL.2.2.2.1.1 ?_
  refine J_iconst (pc := 38) (n := 0) (v := 0) hX (by decide +kernel) (by decide +kernel) ?_
  refine J_bipush (pc := 39) (n := 16) (v := 16) hX (by decide +kernel) (by decide +kernel) ?_
  refine J_acp (pc := 41) (idx := 41) hX (by decide +kernel) (mq mt_4 85 (by decide +kernel)) hf1.2.2.2.1.2 hL.2.2.2.1.2 (Nat.le_of_ble_eq_true rfl) (Nat.le_of_ble_eq_true rfl) (fun μ3 => ?_)
  refine J_aload_n (k0 := 1) (pc := 44) 1 hX (by decide +kernel) rfl rfl ?_
  refine J_gr (pc := 45) hX (by decide +kernel) fl_Tx_25 hf1.1 rfl hf1.2.2.2.2.1.1 ?_
  refine J_iconst (pc := 48) (n := 0) (v := 0) hX (by decide +kernel) (by decide +kernel) ?_
  refine J_aload_n (k0 := 0) (pc := 49) 0 hX (by decide +kernel) rfl rfl ?_
  refine J_gr (pc := 50) hX (by decide +kernel) fl_Tx_25 hL.1 rfl hL.2.2.2.2.1.1 ?_
  refine J_iconst (pc := 53) (n := 0) (v := 0) hX (by decide +kernel) (by decide +kernel) ?_
  refine J_bipush (pc := 54) (n := 16) (v := 16) hX (by decide +kernel) (by decide +kernel) ?_
  refine J_acp (pc := 56) (idx := 41) hX (by decide +kernel) (mq mt_4 85 (by decide +kernel)) hf1.2.2.2.2.1.2 hL.2.2.2.2.1.2 (Nat.le_of_ble_eq_true rfl) (Nat.le_of_ble_eq_true rfl) (fun μ4 => ?_)
  refine J_aload_n (k0 := 1) (pc := 59) 1 hX (by decide +kernel) rfl rfl ?_
  refine J_gr (pc := 60) hX (by decide +kernel) fl_Tx_28 hf1.1 rfl hf1.2.2.2.2.2.1.1 ?_
  refine J_iconst (pc := 63) (n := 0) (v := 0) hX (by decide +kernel) (by decide +kernel) ?_
  refine J_aload_n (k0 := 0) (pc := 64) 0 hX (by decide +kernel) rfl rfl ?_
  refine J_gr (pc := 65) hX (by decide +kernel) fl_Tx_28 hL.1 rfl hL.2.2.2.2.2.1.1 ?_
  refine J_iconst (pc := 68) (n := 0) (v := 0) hX (by decide +kernel) (by decide +kernel) ?_
  refine J_aload_n (k0 := 0) (pc := 69) 0 hX (by decide +kernel) rfl rfl ?_
  refine J_gr (pc := 70) hX (by decide +kernel) fl_Tx_28 hL.1 rfl hL.2.2.2.2.2.1.1 ?_
  refine J_alen (pc := 73) hX (by decide +kernel) hL.2.2.2.2.2.1.2 (v := 4) (by decide +kernel) ?_
  refine J_acp (pc := 74) (idx := 41) hX (by decide +kernel) (mq mt_4 85 (by decide +kernel)) hf1.2.2.2.2.2.1.2 hL.2.2.2.2.2.1.2 (Nat.le_of_ble_eq_true rfl) (Nat.le_of_ble_eq_true rfl) (fun μ5 => ?_)
  exact J_vret (pc := 77) hX (by decide +kernel) rfl trivial
set_option maxRecDepth 100000 in
set_option maxHeartbeats 4000000 in
theorem c_Tx_copyFrom {l : Launch} {G : Gx} {y : Ly} {a f1 : Nat} (hL : LyTx y a ) (hf1 : LyTx y f1 )  (μ : Mu) : Cn l G ⟨"SaltFigures$Texts", "copyFrom", "(LSaltFigures$Texts;)V"⟩ prog_9_method_2_code 2 none 4 [.ref (G.1 + a), .ref (G.1 + f1)] (μ, y) (emy y) rvV tpT (Tx_copyFrom a f1  μ) := cn_of (by decide +kernel) (Nat.le_of_ble_eq_true rfl) (fun _ _ _ => ⟨List.prefix_refl _, trivial⟩) (fun X hX _ => jTx_copyFrom hL hf1 hX  μ)

def Rw_copyFrom (a n f1 n1 : Nat)  (μ : Mu) : Option (Unit × Mu) := gF μ f1 3 (fun x1 => pF μ a 3 (jmin x1 (Int32.ofNat n)) (fun μ2 => cpA μ2 (f1 + 1) n1 0 (a + 1) n 0 (jmin (Int32.ofNat n1) (Int32.ofNat n)) (fun μ3 => some ((), μ3))))
set_option maxRecDepth 100000 in
set_option maxHeartbeats 4000000 in
theorem jRw_copyFrom {X : Cx} {l : Launch} {G : Gx} {y : Ly} {a n f1 n1 : Nat} (hL : LyRw y a n) (hf1 : LyRw y f1 n1) (hX : Ok X l G prog_7_method_2_code 2 none "SaltFigures$Row")  (μ : Mu) : J X G 2 3 y (emy y) rvV tpT 0 [(0, .ref (G.1 + a)), (1, .ref (G.1 + f1))] [] (μ, y) (Rw_copyFrom a n f1 n1  μ) := by
  unfold Rw_copyFrom
  refine J_aload_n (k0 := 0) (pc := 0) 0 hX (by decide +kernel) rfl rfl ?_
  refine J_aload_n (k0 := 1) (pc := 1) 1 hX (by decide +kernel) rfl rfl ?_
  refine J_gF (pc := 2) hX (by decide +kernel) fl_Rw_28 hf1.1 rfl (fun x1 => ?_)
  refine J_aload_n (k0 := 0) (pc := 5) 0 hX (by decide +kernel) rfl rfl ?_
  refine J_gr (pc := 6) hX (by decide +kernel) fl_Rw_24 hL.1 rfl hL.2.1.1 ?_
  refine J_alen (pc := 9) hX (by decide +kernel) hL.2.1.2 (v := Int32.ofNat n) rfl ?_
  refine J_mmin (pc := 10) (idx := 31) hX (by decide +kernel) (mq mt_5 227 (by decide +kernel)) (Nat.le_of_ble_eq_true rfl) (Nat.le_of_ble_eq_true rfl) ?_
  refine J_pF (pc := 13) hX (by decide +kernel) fl_Rw_28 hL.1 rfl (fun μ2 => ?_)
  refine J_aload_n (k0 := 1) (pc := 16) 1 hX (by decide +kernel) rfl rfl ?_
  refine J_gr (pc := 17) hX (by decide +kernel) fl_Rw_24 hf1.1 rfl hf1.2.1.1 ?_
  refine J_iconst (pc := 20) (n := 0) (v := 0) hX (by decide +kernel) (by decide +kernel) ?_
  refine J_aload_n (k0 := 0) (pc := 21) 0 hX (by decide +kernel) rfl rfl ?_
  refine J_gr (pc := 22) hX (by decide +kernel) fl_Rw_24 hL.1 rfl hL.2.1.1 ?_
  refine J_iconst (pc := 25) (n := 0) (v := 0) hX (by decide +kernel) (by decide +kernel) ?_
  refine J_aload_n (k0 := 1) (pc := 26) 1 hX (by decide +kernel) rfl rfl ?_
  refine J_gr (pc := 27) hX (by decide +kernel) fl_Rw_24 hf1.1 rfl hf1.2.1.1 ?_
  refine J_alen (pc := 30) hX (by decide +kernel) hf1.2.1.2 (v := Int32.ofNat n1) rfl ?_
  refine J_aload_n (k0 := 0) (pc := 31) 0 hX (by decide +kernel) rfl rfl ?_
  refine J_gr (pc := 32) hX (by decide +kernel) fl_Rw_24 hL.1 rfl hL.2.1.1 ?_
  refine J_alen (pc := 35) hX (by decide +kernel) hL.2.1.2 (v := Int32.ofNat n) rfl ?_
  refine J_mmin (pc := 36) (idx := 31) hX (by decide +kernel) (mq mt_5 227 (by decide +kernel)) (Nat.le_of_ble_eq_true rfl) (Nat.le_of_ble_eq_true rfl) ?_
  refine J_acp (pc := 39) (idx := 34) hX (by decide +kernel) (mq mt_5 228 (by decide +kernel)) hf1.2.1.2 hL.2.1.2 (Nat.le_of_ble_eq_true rfl) (Nat.le_of_ble_eq_true rfl) (fun μ3 => ?_)
  exact J_vret (pc := 42) hX (by decide +kernel) rfl trivial
set_option maxRecDepth 100000 in
set_option maxHeartbeats 4000000 in
theorem c_Rw_copyFrom {l : Launch} {G : Gx} {y : Ly} {a n f1 n1 : Nat} (hL : LyRw y a n) (hf1 : LyRw y f1 n1)  (μ : Mu) : Cn l G ⟨"SaltFigures$Row", "copyFrom", "(LSaltFigures$Row;)V"⟩ prog_7_method_2_code 2 none 3 [.ref (G.1 + a), .ref (G.1 + f1)] (μ, y) (emy y) rvV tpT (Rw_copyFrom a n f1 n1  μ) := cn_of (by decide +kernel) (Nat.le_of_ble_eq_true rfl) (fun _ _ _ => ⟨List.prefix_refl _, trivial⟩) (fun X hX _ => jRw_copyFrom hL hf1 hX  μ)

def Td_copyFrom (a f1 : Nat)  (μ : Mu) : Option (Unit × Mu) := gF μ f1 0 (fun x1 => pF μ a 0 x1 (fun μ2 => cl (Rw_copyFrom (a + 1) 8 (f1 + 1) 8 μ2) (fun _ μ3 => cl (Rw_copyFrom (a + 3) 8 (f1 + 3) 8 μ3) (fun _ μ4 => cl (Rw_copyFrom (a + 5) 6 (f1 + 5) 6 μ4) (fun _ μ5 => cl (Rw_copyFrom (a + 7) 10 (f1 + 7) 10 μ5) (fun _ μ6 => cl (Rw_copyFrom (a + 9) 10 (f1 + 9) 10 μ6) (fun _ μ7 => cl (Rw_copyFrom (a + 11) 6 (f1 + 11) 6 μ7) (fun _ μ8 => cl (Rw_copyFrom (a + 13) 6 (f1 + 13) 6 μ8) (fun _ μ9 => cl (Rw_copyFrom (a + 15) 8 (f1 + 15) 8 μ9) (fun _ μ10 => cl (Rw_copyFrom (a + 17) 8 (f1 + 17) 8 μ10) (fun _ μ11 => cl (Rw_copyFrom (a + 19) 8 (f1 + 19) 8 μ11) (fun _ μ12 => some ((), μ12)))))))))))))
set_option maxRecDepth 100000 in
set_option maxHeartbeats 4000000 in
theorem jTd_copyFrom {X : Cx} {l : Launch} {G : Gx} {y : Ly} {a f1 : Nat} (hL : LyTd y a ) (hf1 : LyTd y f1 ) (hX : Ok X l G prog_11_method_2_code 2 none "SaltFigures$Told")  (μ : Mu) : J X G 2 4 y (emy y) rvV tpT 0 [(0, .ref (G.1 + a)), (1, .ref (G.1 + f1))] [] (μ, y) (Td_copyFrom a f1  μ) := by
  unfold Td_copyFrom
  refine J_aload_n (k0 := 0) (pc := 0) 0 hX (by decide +kernel) rfl rfl ?_
  refine J_aload_n (k0 := 1) (pc := 1) 1 hX (by decide +kernel) rfl rfl ?_
  refine J_gF (pc := 2) hX (by decide +kernel) fl_Td_45 hf1.1 rfl (fun x1 => ?_)
  refine J_pF (pc := 5) hX (by decide +kernel) fl_Td_45 hL.1 rfl (fun μ2 => ?_)
  refine J_aload_n (k0 := 0) (pc := 8) 0 hX (by decide +kernel) rfl rfl ?_
  refine J_gr (pc := 9) hX (by decide +kernel) fl_Td_12 hL.1 rfl hL.2.1.1 ?_
  refine J_aload_n (k0 := 1) (pc := 12) 1 hX (by decide +kernel) rfl rfl ?_
  refine J_gr (pc := 13) hX (by decide +kernel) fl_Td_12 hf1.1 rfl hf1.2.1.1 ?_
  refine J_cVv (pc := 16) (idx := 49) [.ref (G.1 + (f1 + 1))] hX (by decide +kernel) (mq mt_5 223 (by decide +kernel)) mv_Rw_copyFrom hL.2.1.2.1 rfl rfl (Nat.le_of_ble_eq_true rfl) (Nat.le_of_ble_eq_true rfl) (c_Rw_copyFrom hL.2.1.2 hf1.2.1.2 μ2) (fun μ3 => ?_)
  refine J_aload_n (k0 := 0) (pc := 19) 0 hX (by decide +kernel) rfl rfl ?_
  refine J_gr (pc := 20) hX (by decide +kernel) fl_Td_18 hL.1 rfl hL.2.2.1.1 ?_
  refine J_aload_n (k0 := 1) (pc := 23) 1 hX (by decide +kernel) rfl rfl ?_
  refine J_gr (pc := 24) hX (by decide +kernel) fl_Td_18 hf1.1 rfl hf1.2.2.1.1 ?_
  refine J_cVv (pc := 27) (idx := 49) [.ref (G.1 + (f1 + 3))] hX (by decide +kernel) (mq mt_5 223 (by decide +kernel)) mv_Rw_copyFrom hL.2.2.1.2.1 rfl rfl (Nat.le_of_ble_eq_true rfl) (Nat.le_of_ble_eq_true rfl) (c_Rw_copyFrom hL.2.2.1.2 hf1.2.2.1.2 μ3) (fun μ4 => ?_)
  refine J_aload_n (k0 := 0) (pc := 30) 0 hX (by decide +kernel) rfl rfl ?_
  refine J_gr (pc := 31) hX (by decide +kernel) fl_Td_21 hL.1 rfl hL.2.2.2.1.1 ?_
  refine J_aload_n (k0 := 1) (pc := 34) 1 hX (by decide +kernel) rfl rfl ?_
  refine J_gr (pc := 35) hX (by decide +kernel) fl_Td_21 hf1.1 rfl hf1.2.2.2.1.1 ?_
  refine J_cVv (pc := 38) (idx := 49) [.ref (G.1 + (f1 + 5))] hX (by decide +kernel) (mq mt_5 223 (by decide +kernel)) mv_Rw_copyFrom hL.2.2.2.1.2.1 rfl rfl (Nat.le_of_ble_eq_true rfl) (Nat.le_of_ble_eq_true rfl) (c_Rw_copyFrom hL.2.2.2.1.2 hf1.2.2.2.1.2 μ4) (fun μ5 => ?_)
  refine J_aload_n (k0 := 0) (pc := 41) 0 hX (by decide +kernel) rfl rfl ?_
  refine J_gr (pc := 42) hX (by decide +kernel) fl_Td_24 hL.1 rfl hL.2.2.2.2.1.1 ?_
  refine J_aload_n (k0 := 1) (pc := 45) 1 hX (by decide +kernel) rfl rfl ?_
  refine J_gr (pc := 46) hX (by decide +kernel) fl_Td_24 hf1.1 rfl hf1.2.2.2.2.1.1 ?_
  refine J_cVv (pc := 49) (idx := 49) [.ref (G.1 + (f1 + 7))] hX (by decide +kernel) (mq mt_5 223 (by decide +kernel)) mv_Rw_copyFrom hL.2.2.2.2.1.2.1 rfl rfl (Nat.le_of_ble_eq_true rfl) (Nat.le_of_ble_eq_true rfl) (c_Rw_copyFrom hL.2.2.2.2.1.2 hf1.2.2.2.2.1.2 μ5) (fun μ6 => ?_)
  refine J_aload_n (k0 := 0) (pc := 52) 0 hX (by decide +kernel) rfl rfl ?_
  refine J_gr (pc := 53) hX (by decide +kernel) fl_Td_27 hL.1 rfl hL.2.2.2.2.2.1.1 ?_
  refine J_aload_n (k0 := 1) (pc := 56) 1 hX (by decide +kernel) rfl rfl ?_
  refine J_gr (pc := 57) hX (by decide +kernel) fl_Td_27 hf1.1 rfl hf1.2.2.2.2.2.1.1 ?_
  refine J_cVv (pc := 60) (idx := 49) [.ref (G.1 + (f1 + 9))] hX (by decide +kernel) (mq mt_5 223 (by decide +kernel)) mv_Rw_copyFrom hL.2.2.2.2.2.1.2.1 rfl rfl (Nat.le_of_ble_eq_true rfl) (Nat.le_of_ble_eq_true rfl) (c_Rw_copyFrom hL.2.2.2.2.2.1.2 hf1.2.2.2.2.2.1.2 μ6) (fun μ7 => ?_)
  refine J_aload_n (k0 := 0) (pc := 63) 0 hX (by decide +kernel) rfl rfl ?_
  refine J_gr (pc := 64) hX (by decide +kernel) fl_Td_30 hL.1 rfl hL.2.2.2.2.2.2.1.1 ?_
  refine J_aload_n (k0 := 1) (pc := 67) 1 hX (by decide +kernel) rfl rfl ?_
  refine J_gr (pc := 68) hX (by decide +kernel) fl_Td_30 hf1.1 rfl hf1.2.2.2.2.2.2.1.1 ?_
  refine J_cVv (pc := 71) (idx := 49) [.ref (G.1 + (f1 + 11))] hX (by decide +kernel) (mq mt_5 223 (by decide +kernel)) mv_Rw_copyFrom hL.2.2.2.2.2.2.1.2.1 rfl rfl (Nat.le_of_ble_eq_true rfl) (Nat.le_of_ble_eq_true rfl) (c_Rw_copyFrom hL.2.2.2.2.2.2.1.2 hf1.2.2.2.2.2.2.1.2 μ7) (fun μ8 => ?_)
  refine J_aload_n (k0 := 0) (pc := 74) 0 hX (by decide +kernel) rfl rfl ?_
  refine J_gr (pc := 75) hX (by decide +kernel) fl_Td_33 hL.1 rfl hL.2.2.2.2.2.2.2.1.1 ?_
  refine J_aload_n (k0 := 1) (pc := 78) 1 hX (by decide +kernel) rfl rfl ?_
  refine J_gr (pc := 79) hX (by decide +kernel) fl_Td_33 hf1.1 rfl hf1.2.2.2.2.2.2.2.1.1 ?_
  refine J_cVv (pc := 82) (idx := 49) [.ref (G.1 + (f1 + 13))] hX (by decide +kernel) (mq mt_5 223 (by decide +kernel)) mv_Rw_copyFrom hL.2.2.2.2.2.2.2.1.2.1 rfl rfl (Nat.le_of_ble_eq_true rfl) (Nat.le_of_ble_eq_true rfl) (c_Rw_copyFrom hL.2.2.2.2.2.2.2.1.2 hf1.2.2.2.2.2.2.2.1.2 μ8) (fun μ9 => ?_)
  refine J_aload_n (k0 := 0) (pc := 85) 0 hX (by decide +kernel) rfl rfl ?_
  refine J_gr (pc := 86) hX (by decide +kernel) fl_Td_36 hL.1 rfl hL.2.2.2.2.2.2.2.2.1.1 ?_
  refine J_aload_n (k0 := 1) (pc := 89) 1 hX (by decide +kernel) rfl rfl ?_
  refine J_gr (pc := 90) hX (by decide +kernel) fl_Td_36 hf1.1 rfl hf1.2.2.2.2.2.2.2.2.1.1 ?_
  refine J_cVv (pc := 93) (idx := 49) [.ref (G.1 + (f1 + 15))] hX (by decide +kernel) (mq mt_5 223 (by decide +kernel)) mv_Rw_copyFrom hL.2.2.2.2.2.2.2.2.1.2.1 rfl rfl (Nat.le_of_ble_eq_true rfl) (Nat.le_of_ble_eq_true rfl) (c_Rw_copyFrom hL.2.2.2.2.2.2.2.2.1.2 hf1.2.2.2.2.2.2.2.2.1.2 μ9) (fun μ10 => ?_)
  refine J_aload_n (k0 := 0) (pc := 96) 0 hX (by decide +kernel) rfl rfl ?_
  refine J_gr (pc := 97) hX (by decide +kernel) fl_Td_39 hL.1 rfl hL.2.2.2.2.2.2.2.2.2.1.1 ?_
  refine J_aload_n (k0 := 1) (pc := 100) 1 hX (by decide +kernel) rfl rfl ?_
  refine J_gr (pc := 101) hX (by decide +kernel) fl_Td_39 hf1.1 rfl hf1.2.2.2.2.2.2.2.2.2.1.1 ?_
  refine J_cVv (pc := 104) (idx := 49) [.ref (G.1 + (f1 + 17))] hX (by decide +kernel) (mq mt_5 223 (by decide +kernel)) mv_Rw_copyFrom hL.2.2.2.2.2.2.2.2.2.1.2.1 rfl rfl (Nat.le_of_ble_eq_true rfl) (Nat.le_of_ble_eq_true rfl) (c_Rw_copyFrom hL.2.2.2.2.2.2.2.2.2.1.2 hf1.2.2.2.2.2.2.2.2.2.1.2 μ10) (fun μ11 => ?_)
  refine J_aload_n (k0 := 0) (pc := 107) 0 hX (by decide +kernel) rfl rfl ?_
  refine J_gr (pc := 108) hX (by decide +kernel) fl_Td_42 hL.1 rfl hL.2.2.2.2.2.2.2.2.2.2.1.1 ?_
  refine J_aload_n (k0 := 1) (pc := 111) 1 hX (by decide +kernel) rfl rfl ?_
  refine J_gr (pc := 112) hX (by decide +kernel) fl_Td_42 hf1.1 rfl hf1.2.2.2.2.2.2.2.2.2.2.1.1 ?_
  refine J_cVv (pc := 115) (idx := 49) [.ref (G.1 + (f1 + 19))] hX (by decide +kernel) (mq mt_5 223 (by decide +kernel)) mv_Rw_copyFrom hL.2.2.2.2.2.2.2.2.2.2.1.2.1 rfl rfl (Nat.le_of_ble_eq_true rfl) (Nat.le_of_ble_eq_true rfl) (c_Rw_copyFrom hL.2.2.2.2.2.2.2.2.2.2.1.2 hf1.2.2.2.2.2.2.2.2.2.2.1.2 μ11) (fun μ12 => ?_)
  exact J_vret (pc := 118) hX (by decide +kernel) rfl trivial
set_option maxRecDepth 100000 in
set_option maxHeartbeats 4000000 in
theorem c_Td_copyFrom {l : Launch} {G : Gx} {y : Ly} {a f1 : Nat} (hL : LyTd y a ) (hf1 : LyTd y f1 )  (μ : Mu) : Cn l G ⟨"SaltFigures$Told", "copyFrom", "(LSaltFigures$Told;)V"⟩ prog_11_method_2_code 2 none 4 [.ref (G.1 + a), .ref (G.1 + f1)] (μ, y) (emy y) rvV tpT (Td_copyFrom a f1  μ) := cn_of (by decide +kernel) (Nat.le_of_ble_eq_true rfl) (fun _ _ _ => ⟨List.prefix_refl _, trivial⟩) (fun X hX _ => jTd_copyFrom hL hf1 hX  μ)

def Pt_copyFrom (a f1 : Nat)  (μ : Mu) : Option (Unit × Mu) := cl (Fg_copyFrom (a + 1) (f1 + 1) μ) (fun _ μ1 => cpA μ1 (f1 + 4) 600 0 (a + 4) 600 0 600 (fun μ2 => cl (Tx_copyFrom (a + 5) (f1 + 5) μ2) (fun _ μ3 => cl (Td_copyFrom (a + 17) (f1 + 17) μ3) (fun _ μ4 => some ((), μ4)))))
set_option maxRecDepth 100000 in
set_option maxHeartbeats 4000000 in
theorem jPt_copyFrom {X : Cx} {l : Launch} {G : Gx} {y : Ly} {a f1 : Nat} (hL : LyPt y a ) (hf1 : LyPt y f1 ) (hX : Ok X l G prog_5_method_2_code 2 none "SaltFigures$Port")  (μ : Mu) : J X G 2 5 y (emy y) rvV tpT 0 [(0, .ref (G.1 + a)), (1, .ref (G.1 + f1))] [] (μ, y) (Pt_copyFrom a f1  μ) := by
  unfold Pt_copyFrom
  refine J_aload_n (k0 := 0) (pc := 0) 0 hX (by decide +kernel) rfl rfl ?_
  refine J_gr (pc := 1) hX (by decide +kernel) fl_Pt_14 hL.1 rfl hL.2.1.1 ?_
  refine J_aload_n (k0 := 1) (pc := 4) 1 hX (by decide +kernel) rfl rfl ?_
  refine J_gr (pc := 5) hX (by decide +kernel) fl_Pt_14 hf1.1 rfl hf1.2.1.1 ?_
  refine J_cVv (pc := 8) (idx := 38) [.ref (G.1 + (f1 + 1))] hX (by decide +kernel) (mq mt_5 213 (by decide +kernel)) mv_Fg_copyFrom hL.2.1.2.1 rfl rfl (Nat.le_of_ble_eq_true rfl) (Nat.le_of_ble_eq_true rfl) (c_Fg_copyFrom hL.2.1.2 hf1.2.1.2 μ) (fun μ1 => ?_)
  refine J_aload_n (k0 := 1) (pc := 11) 1 hX (by decide +kernel) rfl rfl ?_
  refine J_gr (pc := 12) hX (by decide +kernel) fl_Pt_20 hf1.1 rfl hf1.2.2.1.1 ?_
  refine J_iconst (pc := 15) (n := 0) (v := 0) hX (by decide +kernel) (by decide +kernel) ?_
  refine J_aload_n (k0 := 0) (pc := 16) 0 hX (by decide +kernel) rfl rfl ?_
  refine J_gr (pc := 17) hX (by decide +kernel) fl_Pt_20 hL.1 rfl hL.2.2.1.1 ?_
  refine J_iconst (pc := 20) (n := 0) (v := 0) hX (by decide +kernel) (by decide +kernel) ?_
  refine J_aload_n (k0 := 0) (pc := 21) 0 hX (by decide +kernel) rfl rfl ?_
  refine J_gr (pc := 22) hX (by decide +kernel) fl_Pt_20 hL.1 rfl hL.2.2.1.1 ?_
  refine J_alen (pc := 25) hX (by decide +kernel) hL.2.2.1.2 (v := 600) (by decide +kernel) ?_
  refine J_acp (pc := 26) (idx := 42) hX (by decide +kernel) (mq mt_5 214 (by decide +kernel)) hf1.2.2.1.2 hL.2.2.1.2 (Nat.le_of_ble_eq_true rfl) (Nat.le_of_ble_eq_true rfl) (fun μ2 => ?_)
  refine J_aload_n (k0 := 0) (pc := 29) 0 hX (by decide +kernel) rfl rfl ?_
  refine J_gr (pc := 30) hX (by decide +kernel) fl_Pt_27 hL.1 rfl hL.2.2.2.1.1 ?_
  refine J_aload_n (k0 := 1) (pc := 33) 1 hX (by decide +kernel) rfl rfl ?_
  refine J_gr (pc := 34) hX (by decide +kernel) fl_Pt_27 hf1.1 rfl hf1.2.2.2.1.1 ?_
  refine J_cVv (pc := 37) (idx := 48) [.ref (G.1 + (f1 + 5))] hX (by decide +kernel) (mq mt_5 215 (by decide +kernel)) mv_Tx_copyFrom hL.2.2.2.1.2.1 rfl rfl (Nat.le_of_ble_eq_true rfl) (Nat.le_of_ble_eq_true rfl) (c_Tx_copyFrom hL.2.2.2.1.2 hf1.2.2.2.1.2 μ2) (fun μ3 => ?_)
  refine J_aload_n (k0 := 0) (pc := 40) 0 hX (by decide +kernel) rfl rfl ?_
  refine J_gr (pc := 41) hX (by decide +kernel) fl_Pt_34 hL.1 rfl hL.2.2.2.2.1.1 ?_
  refine J_aload_n (k0 := 1) (pc := 44) 1 hX (by decide +kernel) rfl rfl ?_
  refine J_gr (pc := 45) hX (by decide +kernel) fl_Pt_34 hf1.1 rfl hf1.2.2.2.2.1.1 ?_
  refine J_cVv (pc := 48) (idx := 51) [.ref (G.1 + (f1 + 17))] hX (by decide +kernel) (mq mt_5 219 (by decide +kernel)) mv_Td_copyFrom hL.2.2.2.2.1.2.1 rfl rfl (Nat.le_of_ble_eq_true rfl) (Nat.le_of_ble_eq_true rfl) (c_Td_copyFrom hL.2.2.2.2.1.2 hf1.2.2.2.2.1.2 μ3) (fun μ4 => ?_)
  exact J_vret (pc := 51) hX (by decide +kernel) rfl trivial
set_option maxRecDepth 100000 in
set_option maxHeartbeats 4000000 in
theorem c_Pt_copyFrom {l : Launch} {G : Gx} {y : Ly} {a f1 : Nat} (hL : LyPt y a ) (hf1 : LyPt y f1 )  (μ : Mu) : Cn l G ⟨"SaltFigures$Port", "copyFrom", "(LSaltFigures$Port;)V"⟩ prog_5_method_2_code 2 none 5 [.ref (G.1 + a), .ref (G.1 + f1)] (μ, y) (emy y) rvV tpT (Pt_copyFrom a f1  μ) := cn_of (by decide +kernel) (Nat.le_of_ble_eq_true rfl) (fun _ _ _ => ⟨List.prefix_refl _, trivial⟩) (fun X hX _ => jPt_copyFrom hL hf1 hX  μ)

def Th_isLit_106 (a tt : Nat) (kb15 : Int32 → Mu → Option (Int32 × Mu))  (v1 : Int32) (v2 : Int32) (v3 : Int32) (v4 : Int32)  (μ : Mu) : Option (Int32 × Mu) := kb15 (v4 + 1) μ
def Th_isLit_62 (a tt : Nat) (kb15 : Int32 → Mu → Option (Int32 × Mu))  (v1 : Int32) (v2 : Int32) (v3 : Int32) (v4 : Int32) (v5 : Int32)  (μ : Mu) : Option (Int32 × Mu) := cl (Rw_at (tt + 17) 8 v4 μ) (fun x2 μ1 => cl (Rw_at (tt + 17) 8 v2 μ1) (fun x4 μ3 => (if ((v1 * v5) - (v3 * (v1 - x2))) < (x4 * v5) then Th_isLit_106 a tt kb15 v1 v2 v3 v4 μ3 else some (0, μ3))))
def Th_isLit_15b (a tt : Nat)  (kb15 : Int32 → Mu → Option (Int32 × Mu)) (v1 : Int32) (v2 : Int32) (v3 : Int32) (v4 : Int32)  (μ : Mu) : Option (Int32 × Mu) := gF μ (tt + 15) 3 (fun x1 => (if x1 ≤ v4 then some (1, μ) else cl (Rw_at (tt + 15) 8 v4 μ) (fun x3 μ2 => (if x3 < v3 then Th_isLit_62 a tt kb15 v1 v2 v3 v4 x3 μ2 else (if x3 = v3 then (if v2 ≤ v4 then Th_isLit_106 a tt kb15 v1 v2 v3 v4 μ2 else Th_isLit_62 a tt kb15 v1 v2 v3 v4 x3 μ2) else Th_isLit_106 a tt kb15 v1 v2 v3 v4 μ2)))))
def Th_isLit_15 (a tt : Nat)  (v1 : Int32) (v2 : Int32) (v3 : Int32) (fu : Nat) : Int32 → Mu → Option (Int32 × Mu) := lp (fun kb => Th_isLit_15b a tt  kb v1 v2 v3) (fun _ _ => none) fu
def Th_isLit (a tt : Nat) (v1 : Int32) (v2 : Int32) (μ : Mu) : Option (Int32 × Mu) := cl (Rw_at (tt + 15) 8 v2 μ) (fun x2 μ1 => Th_isLit_15 a tt v1 v2 x2 FU 0 μ1)
set_option maxRecDepth 100000 in
set_option maxHeartbeats 4000000 in
theorem jTh_isLit_106 {X : Cx} {l : Launch} {G : Gx} {y : Ly} {a tt : Nat} (hL : LyTh y a tt) (hX : Ok X l G prog_10_method_26_code 7 (some .boolean) "SaltFigures$Thinker")  (v1 : Int32) (v2 : Int32) (v3 : Int32) (v4 : Int32)  {kb15 : Int32 → Mu → Option (Int32 × Mu)} (hk15 : ∀ (v4 : Int32) (μ : Mu), J X G 7 2 y (emy y) rvI tpT 15 [(0, .ref (G.1 + a)), (1, .int v1), (2, .int v2), (3, .int v3), (4, .int v4)] [] (μ, y) (kb15 v4 μ)) (μ : Mu) : J X G 7 2 y (emy y) rvI tpT 106 [(0, .ref (G.1 + a)), (1, .int v1), (2, .int v2), (3, .int v3), (4, .int v4)] [] (μ, y) (Th_isLit_106 a tt kb15  v1 v2 v3 v4  μ) := by
  unfold Th_isLit_106
  refine J_iinc (pc := 106) (n := 1) 4 [(4, .int (v4 + 1)), (0, .ref (G.1 + a)), (1, .int v1), (2, .int v2), (3, .int v3)] hX (by decide +kernel) rfl rfl (by decide) rfl ?_
  refine J_goto (pc := 109) (off := -94) (tgt := 15) hX (by decide +kernel) (by decide +kernel) ?_
  exact J_sub [1, 2, 3, 4, 0] _ rfl (hk15 (v4 + 1) μ)
set_option maxRecDepth 100000 in
set_option maxHeartbeats 4000000 in
theorem jTh_isLit_62 {X : Cx} {l : Launch} {G : Gx} {y : Ly} {a tt : Nat} (hL : LyTh y a tt) (hX : Ok X l G prog_10_method_26_code 7 (some .boolean) "SaltFigures$Thinker")  (v1 : Int32) (v2 : Int32) (v3 : Int32) (v4 : Int32) (v5 : Int32)  {kb15 : Int32 → Mu → Option (Int32 × Mu)} (hk15 : ∀ (v4 : Int32) (μ : Mu), J X G 7 2 y (emy y) rvI tpT 15 [(0, .ref (G.1 + a)), (1, .int v1), (2, .int v2), (3, .int v3), (4, .int v4)] [] (μ, y) (kb15 v4 μ)) (μ : Mu) : J X G 7 2 y (emy y) rvI tpT 62 [(0, .ref (G.1 + a)), (1, .int v1), (2, .int v2), (3, .int v3), (4, .int v4), (5, .int v5)] [] (μ, y) (Th_isLit_62 a tt kb15  v1 v2 v3 v4 v5  μ) := by
  unfold Th_isLit_62
  refine J_iload_n (k0 := 1) (pc := 62) 1 hX (by decide +kernel) rfl rfl ?_
  refine J_iload (pc := 63) 5 hX (by decide +kernel) rfl ?_
  refine J_imul (pc := 65) hX (by decide +kernel) ?_
  refine J_iload_n (k0 := 3) (pc := 66) 3 hX (by decide +kernel) rfl rfl ?_
  refine J_iload_n (k0 := 1) (pc := 67) 1 hX (by decide +kernel) rfl rfl ?_
  refine J_aload_n (k0 := 0) (pc := 68) 0 hX (by decide +kernel) rfl rfl ?_
  refine J_gr (pc := 69) hX (by decide +kernel) fl_Th_18 hL.1 rfl hL.2.1.1 ?_
  refine J_gr (pc := 72) hX (by decide +kernel) fl_Th_48 hL.2.1.2.1 rfl hL.2.1.2.2.2.2.2.2.2.2.2.2.1.1 ?_
  refine J_iload (pc := 75) 4 hX (by decide +kernel) rfl ?_
  refine J_cVi (pc := 77) (idx := 34) [.int v4] hX (by decide +kernel) (mq mt_4 191 (by decide +kernel)) mv_Rw_at hL.2.1.2.2.2.2.2.2.2.2.2.2.1.2.1 rfl rfl (Nat.le_of_ble_eq_true rfl) (Nat.le_of_ble_eq_true rfl) (c_Rw_at hL.2.1.2.2.2.2.2.2.2.2.2.2.1.2 v4 μ) (fun x2 μ1 => ?_)
  refine J_isub (pc := 80) hX (by decide +kernel) ?_
  refine J_imul (pc := 81) hX (by decide +kernel) ?_
  refine J_isub (pc := 82) hX (by decide +kernel) ?_
  refine J_istore (pc := 83) [(6, .int ((v1 * v5) - (v3 * (v1 - x2)))), (0, .ref (G.1 + a)), (1, .int v1), (2, .int v2), (3, .int v3), (4, .int v4), (5, .int v5)] hX (by decide +kernel) (by decide) rfl ?_
  refine J_iload (pc := 85) 0 hX (by decide +kernel) rfl ?_
  refine J_aload_n (k0 := 0) (pc := 87) 1 hX (by decide +kernel) rfl rfl ?_
  refine J_gr (pc := 88) hX (by decide +kernel) fl_Th_18 hL.1 rfl hL.2.1.1 ?_
  refine J_gr (pc := 91) hX (by decide +kernel) fl_Th_48 hL.2.1.2.1 rfl hL.2.1.2.2.2.2.2.2.2.2.2.2.1.1 ?_
  refine J_iload_n (k0 := 2) (pc := 94) 3 hX (by decide +kernel) rfl rfl ?_
  refine J_cVi (pc := 95) (idx := 34) [.int v2] hX (by decide +kernel) (mq mt_4 191 (by decide +kernel)) mv_Rw_at hL.2.1.2.2.2.2.2.2.2.2.2.2.1.2.1 rfl rfl (Nat.le_of_ble_eq_true rfl) (Nat.le_of_ble_eq_true rfl) (c_Rw_at hL.2.1.2.2.2.2.2.2.2.2.2.2.1.2 v2 μ1) (fun x4 μ3 => ?_)
  refine J_iload (pc := 98) 6 hX (by decide +kernel) rfl ?_
  refine J_imul (pc := 100) hX (by decide +kernel) ?_
  refine J_icmp_lt (pc := 101) (off := 5) (tgt := 106) hX (by decide +kernel) (by decide +kernel) (fun _ => ?_) (fun _ => ?_)
  · exact J_sub [1, 2, 3, 4, 5] _ rfl (jTh_isLit_106 hL hX v1 v2 v3 v4 hk15 μ3)
  · refine J_iconst (pc := 104) (n := 0) (v := 0) hX (by decide +kernel) (by decide +kernel) ?_
    exact J_zret (pc := 105) hX (by decide +kernel) rfl (by decide +kernel) trivial
set_option maxRecDepth 100000 in
set_option maxHeartbeats 4000000 in
theorem jTh_isLit_15b {X : Cx} {l : Launch} {G : Gx} {y : Ly} {a tt : Nat} (hL : LyTh y a tt) (hX : Ok X l G prog_10_method_26_code 7 (some .boolean) "SaltFigures$Thinker") (v1 : Int32) (v2 : Int32) (v3 : Int32)  {kb15 : Int32 → Mu → Option (Int32 × Mu)}  (hk15 : ∀ (v4 : Int32) (μ : Mu), J X G 7 2 y (emy y) rvI tpT 15 [(0, .ref (G.1 + a)), (1, .int v1), (2, .int v2), (3, .int v3), (4, .int v4)] [] (μ, y) (kb15 v4 μ)) (v4 : Int32)  (μ : Mu) : J X G 7 2 y (emy y) rvI tpT 15 [(0, .ref (G.1 + a)), (1, .int v1), (2, .int v2), (3, .int v3), (4, .int v4)] [] (μ, y) (Th_isLit_15b a tt  kb15 v1 v2 v3 v4  μ) := by
  unfold Th_isLit_15b
  refine J_iload (pc := 15) 4 hX (by decide +kernel) rfl ?_
  refine J_aload_n (k0 := 0) (pc := 17) 0 hX (by decide +kernel) rfl rfl ?_
  refine J_gr (pc := 18) hX (by decide +kernel) fl_Th_18 hL.1 rfl hL.2.1.1 ?_
  refine J_gr (pc := 21) hX (by decide +kernel) fl_Th_45 hL.2.1.2.1 rfl hL.2.1.2.2.2.2.2.2.2.2.2.1.1 ?_
  refine J_gF (pc := 24) hX (by decide +kernel) fl_Th_28 hL.2.1.2.2.2.2.2.2.2.2.2.1.2.1 rfl (fun x1 => ?_)
  refine J_icmp_ge (pc := 27) (off := 85) (tgt := 112) hX (by decide +kernel) (by decide +kernel) (fun _ => ?_) (fun _ => ?_)
  · refine J_iconst (pc := 112) (n := 1) (v := 1) hX (by decide +kernel) (by decide +kernel) ?_
    exact J_zret (pc := 113) hX (by decide +kernel) rfl (by decide +kernel) trivial
  · refine J_aload_n (k0 := 0) (pc := 30) 0 hX (by decide +kernel) rfl rfl ?_
    refine J_gr (pc := 31) hX (by decide +kernel) fl_Th_18 hL.1 rfl hL.2.1.1 ?_
    refine J_gr (pc := 34) hX (by decide +kernel) fl_Th_45 hL.2.1.2.1 rfl hL.2.1.2.2.2.2.2.2.2.2.2.1.1 ?_
    refine J_iload (pc := 37) 4 hX (by decide +kernel) rfl ?_
    refine J_cVi (pc := 39) (idx := 34) [.int v4] hX (by decide +kernel) (mq mt_4 191 (by decide +kernel)) mv_Rw_at hL.2.1.2.2.2.2.2.2.2.2.2.1.2.1 rfl rfl (Nat.le_of_ble_eq_true rfl) (Nat.le_of_ble_eq_true rfl) (c_Rw_at hL.2.1.2.2.2.2.2.2.2.2.2.1.2 v4 μ) (fun x3 μ2 => ?_)
    refine J_istore (pc := 42) [(5, .int x3), (0, .ref (G.1 + a)), (1, .int v1), (2, .int v2), (3, .int v3), (4, .int v4)] hX (by decide +kernel) (by decide) rfl ?_
    refine J_iload (pc := 44) 0 hX (by decide +kernel) rfl ?_
    refine J_iload_n (k0 := 3) (pc := 46) 4 hX (by decide +kernel) rfl rfl ?_
    refine J_icmp_lt (pc := 47) (off := 15) (tgt := 62) hX (by decide +kernel) (by decide +kernel) (fun _ => ?_) (fun _ => ?_)
    · exact J_sub [1, 2, 3, 4, 5, 0] _ rfl (jTh_isLit_62 hL hX v1 v2 v3 v4 x3 hk15 μ2)
    · refine J_iload (pc := 50) 0 hX (by decide +kernel) rfl ?_
      refine J_iload_n (k0 := 3) (pc := 52) 4 hX (by decide +kernel) rfl rfl ?_
      refine J_icmp_ne (pc := 53) (off := 53) (tgt := 106) hX (by decide +kernel) (by decide +kernel) (fun _ => ?_) (fun _ => ?_)
      · exact J_sub [1, 2, 3, 4, 5] _ rfl (jTh_isLit_106 hL hX v1 v2 v3 v4 hk15 μ2)
      · refine J_iload (pc := 56) 5 hX (by decide +kernel) rfl ?_
        refine J_iload_n (k0 := 2) (pc := 58) 3 hX (by decide +kernel) rfl rfl ?_
        refine J_icmp_ge (pc := 59) (off := 47) (tgt := 106) hX (by decide +kernel) (by decide +kernel) (fun _ => ?_) (fun _ => ?_)
        · exact J_sub [1, 2, 3, 4, 5] _ rfl (jTh_isLit_106 hL hX v1 v2 v3 v4 hk15 μ2)
        · exact J_sub [1, 2, 3, 4, 5, 0] _ rfl (jTh_isLit_62 hL hX v1 v2 v3 v4 x3 hk15 μ2)
set_option maxRecDepth 100000 in
set_option maxHeartbeats 4000000 in
theorem jTh_isLit_15 {X : Cx} {l : Launch} {G : Gx} {y : Ly} {a tt : Nat} (hL : LyTh y a tt) (hX : Ok X l G prog_10_method_26_code 7 (some .boolean) "SaltFigures$Thinker") (v1 : Int32) (v2 : Int32) (v3 : Int32)   : ∀ (fu : Nat) (v4 : Int32) (μ : Mu), J X G 7 2 y (emy y) rvI tpT 15 [(0, .ref (G.1 + a)), (1, .int v1), (2, .int v2), (3, .int v3), (4, .int v4)] [] (μ, y) (Th_isLit_15 a tt  v1 v2 v3 fu v4 μ) := by
  intro fu
  induction fu with
  | zero => intros; exact J_none
  | succ fu ih => intro v4 μ; exact jTh_isLit_15b hL hX v1 v2 v3  ih v4 μ
set_option maxRecDepth 100000 in
set_option maxHeartbeats 4000000 in
theorem jTh_isLit {X : Cx} {l : Launch} {G : Gx} {y : Ly} {a tt : Nat} (hL : LyTh y a tt) (hX : Ok X l G prog_10_method_26_code 7 (some .boolean) "SaltFigures$Thinker") (v1 : Int32) (v2 : Int32) (μ : Mu) : J X G 7 2 y (emy y) rvI tpT 0 [(0, .ref (G.1 + a)), (1, .int v1), (2, .int v2)] [] (μ, y) (Th_isLit a tt v1 v2 μ) := by
  unfold Th_isLit
  refine J_aload_n (k0 := 0) (pc := 0) 0 hX (by decide +kernel) rfl rfl ?_
  refine J_gr (pc := 1) hX (by decide +kernel) fl_Th_18 hL.1 rfl hL.2.1.1 ?_
  refine J_gr (pc := 4) hX (by decide +kernel) fl_Th_45 hL.2.1.2.1 rfl hL.2.1.2.2.2.2.2.2.2.2.2.1.1 ?_
  refine J_iload_n (k0 := 2) (pc := 7) 2 hX (by decide +kernel) rfl rfl ?_
  refine J_cVi (pc := 8) (idx := 34) [.int v2] hX (by decide +kernel) (mq mt_4 191 (by decide +kernel)) mv_Rw_at hL.2.1.2.2.2.2.2.2.2.2.2.1.2.1 rfl rfl (Nat.le_of_ble_eq_true rfl) (Nat.le_of_ble_eq_true rfl) (c_Rw_at hL.2.1.2.2.2.2.2.2.2.2.2.1.2 v2 μ) (fun x2 μ1 => ?_)
  refine J_istore_n (k0 := 3) (pc := 11) [(3, .int x2), (0, .ref (G.1 + a)), (1, .int v1), (2, .int v2)] hX (by decide +kernel) rfl (by decide) rfl ?_
  refine J_iconst (pc := 12) (n := 0) (v := 0) hX (by decide +kernel) (by decide +kernel) ?_
  refine J_istore (pc := 13) [(4, .int 0), (3, .int x2), (0, .ref (G.1 + a)), (1, .int v1), (2, .int v2)] hX (by decide +kernel) (by decide) rfl ?_
  exact J_sub [2, 3, 4, 1, 0] _ rfl (jTh_isLit_15 hL hX v1 v2 x2 FU 0 μ1)
set_option maxRecDepth 100000 in
set_option maxHeartbeats 4000000 in
theorem c_Th_isLit {l : Launch} {G : Gx} {y : Ly} {a tt : Nat} (hL : LyTh y a tt) (v1 : Int32) (v2 : Int32) (μ : Mu) : Cn l G ⟨"SaltFigures$Thinker", "isLit", "(II)Z"⟩ prog_10_method_26_code 7 (some .boolean) 2 [.ref (G.1 + a), .int v1, .int v2] (μ, y) (emy y) rvI tpT (Th_isLit a tt v1 v2 μ) := cn_of (by decide +kernel) (Nat.le_of_ble_eq_true rfl) (fun _ _ _ => ⟨List.prefix_refl _, trivial⟩) (fun X hX _ => jTh_isLit hL hX v1 v2 μ)

def Th_litPosts_30 (a tt : Nat) (kb4 : Int32 → Int32 → Mu → Option (Int32 × Mu))  (v1 : Int32) (v2 : Int32) (v3 : Int32)  (μ : Mu) : Option (Int32 × Mu) := kb4 v2 (v3 + 1) μ
def Th_litPosts_4b (a tt : Nat)  (kb4 : Int32 → Int32 → Mu → Option (Int32 × Mu)) (v1 : Int32) (v2 : Int32) (v3 : Int32)  (μ : Mu) : Option (Int32 × Mu) := gF μ (tt + 15) 3 (fun x1 => (if x1 ≤ v3 then some (v2, μ) else cl (Th_isLit a tt v1 v3 μ) (fun x3 μ2 => (if x3 = 0 then Th_litPosts_30 a tt kb4 v1 v2 v3 μ2 else Th_litPosts_30 a tt kb4 v1 (v2 + 1) v3 μ2))))
def Th_litPosts_4 (a tt : Nat)  (v1 : Int32) (fu : Nat) : Int32 → Int32 → Mu → Option (Int32 × Mu) := lp (fun kb => Th_litPosts_4b a tt  kb v1) (fun _ _ _ => none) fu
def Th_litPosts (a tt : Nat) (v1 : Int32) (μ : Mu) : Option (Int32 × Mu) := Th_litPosts_4 a tt v1 FU 0 0 μ
set_option maxRecDepth 100000 in
set_option maxHeartbeats 4000000 in
theorem jTh_litPosts_30 {X : Cx} {l : Launch} {G : Gx} {y : Ly} {a tt : Nat} (hL : LyTh y a tt) (hX : Ok X l G prog_10_method_25_code 4 (some .int) "SaltFigures$Thinker")  (v1 : Int32) (v2 : Int32) (v3 : Int32)  {kb4 : Int32 → Int32 → Mu → Option (Int32 × Mu)} (hk4 : ∀ (v2 : Int32) (v3 : Int32) (μ : Mu), J X G 4 3 y (emy y) rvI tpT 4 [(0, .ref (G.1 + a)), (1, .int v1), (2, .int v2), (3, .int v3)] [] (μ, y) (kb4 v2 v3 μ)) (μ : Mu) : J X G 4 3 y (emy y) rvI tpT 30 [(0, .ref (G.1 + a)), (1, .int v1), (2, .int v2), (3, .int v3)] [] (μ, y) (Th_litPosts_30 a tt kb4  v1 v2 v3  μ) := by
  unfold Th_litPosts_30
  refine J_iinc (pc := 30) (n := 1) 3 [(3, .int (v3 + 1)), (0, .ref (G.1 + a)), (1, .int v1), (2, .int v2)] hX (by decide +kernel) rfl rfl (by decide) rfl ?_
  refine J_goto (pc := 33) (off := -29) (tgt := 4) hX (by decide +kernel) (by decide +kernel) ?_
  exact J_sub [1, 2, 3, 0] _ rfl (hk4 v2 (v3 + 1) μ)
set_option maxRecDepth 100000 in
set_option maxHeartbeats 4000000 in
theorem jTh_litPosts_4b {X : Cx} {l : Launch} {G : Gx} {y : Ly} {a tt : Nat} (hL : LyTh y a tt) (hX : Ok X l G prog_10_method_25_code 4 (some .int) "SaltFigures$Thinker") (v1 : Int32)  {kb4 : Int32 → Int32 → Mu → Option (Int32 × Mu)}  (hk4 : ∀ (v2 : Int32) (v3 : Int32) (μ : Mu), J X G 4 3 y (emy y) rvI tpT 4 [(0, .ref (G.1 + a)), (1, .int v1), (2, .int v2), (3, .int v3)] [] (μ, y) (kb4 v2 v3 μ)) (v2 : Int32) (v3 : Int32)  (μ : Mu) : J X G 4 3 y (emy y) rvI tpT 4 [(0, .ref (G.1 + a)), (1, .int v1), (2, .int v2), (3, .int v3)] [] (μ, y) (Th_litPosts_4b a tt  kb4 v1 v2 v3  μ) := by
  unfold Th_litPosts_4b
  refine J_iload_n (k0 := 3) (pc := 4) 3 hX (by decide +kernel) rfl rfl ?_
  refine J_aload_n (k0 := 0) (pc := 5) 0 hX (by decide +kernel) rfl rfl ?_
  refine J_gr (pc := 6) hX (by decide +kernel) fl_Th_18 hL.1 rfl hL.2.1.1 ?_
  refine J_gr (pc := 9) hX (by decide +kernel) fl_Th_45 hL.2.1.2.1 rfl hL.2.1.2.2.2.2.2.2.2.2.2.1.1 ?_
  refine J_gF (pc := 12) hX (by decide +kernel) fl_Th_28 hL.2.1.2.2.2.2.2.2.2.2.2.1.2.1 rfl (fun x1 => ?_)
  refine J_icmp_ge (pc := 15) (off := 21) (tgt := 36) hX (by decide +kernel) (by decide +kernel) (fun _ => ?_) (fun _ => ?_)
  · refine J_iload_n (k0 := 2) (pc := 36) 2 hX (by decide +kernel) rfl rfl ?_
    exact J_iret (pc := 37) hX (by decide +kernel) rfl trivial
  · refine J_aload_n (k0 := 0) (pc := 18) 0 hX (by decide +kernel) rfl rfl ?_
    refine J_iload_n (k0 := 1) (pc := 19) 1 hX (by decide +kernel) rfl rfl ?_
    refine J_iload_n (k0 := 3) (pc := 20) 3 hX (by decide +kernel) rfl rfl ?_
    refine J_cVi (pc := 21) (idx := 131) [.int v1, .int v3] hX (by decide +kernel) (mq mt_5 173 (by decide +kernel)) mv_Th_isLit hL.1 rfl rfl (Nat.le_of_ble_eq_true rfl) (Nat.le_of_ble_eq_true rfl) (c_Th_isLit hL v1 v3 μ) (fun x3 μ2 => ?_)
    refine J_if_eq (pc := 24) (off := 6) (tgt := 30) hX (by decide +kernel) (by decide +kernel) (fun _ => ?_) (fun _ => ?_)
    · exact J_sub [0, 1, 2, 3] _ rfl (jTh_litPosts_30 hL hX v1 v2 v3 hk4 μ2)
    · refine J_iinc (pc := 27) (n := 1) 2 [(2, .int (v2 + 1)), (0, .ref (G.1 + a)), (1, .int v1), (3, .int v3)] hX (by decide +kernel) rfl rfl (by decide) rfl ?_
      exact J_sub [1, 2, 0, 3] _ rfl (jTh_litPosts_30 hL hX v1 (v2 + 1) v3 hk4 μ2)
set_option maxRecDepth 100000 in
set_option maxHeartbeats 4000000 in
theorem jTh_litPosts_4 {X : Cx} {l : Launch} {G : Gx} {y : Ly} {a tt : Nat} (hL : LyTh y a tt) (hX : Ok X l G prog_10_method_25_code 4 (some .int) "SaltFigures$Thinker") (v1 : Int32)   : ∀ (fu : Nat) (v2 : Int32) (v3 : Int32) (μ : Mu), J X G 4 3 y (emy y) rvI tpT 4 [(0, .ref (G.1 + a)), (1, .int v1), (2, .int v2), (3, .int v3)] [] (μ, y) (Th_litPosts_4 a tt  v1 fu v2 v3 μ) := by
  intro fu
  induction fu with
  | zero => intros; exact J_none
  | succ fu ih => intro v2 v3 μ; exact jTh_litPosts_4b hL hX v1  ih v2 v3 μ
set_option maxRecDepth 100000 in
set_option maxHeartbeats 4000000 in
theorem jTh_litPosts {X : Cx} {l : Launch} {G : Gx} {y : Ly} {a tt : Nat} (hL : LyTh y a tt) (hX : Ok X l G prog_10_method_25_code 4 (some .int) "SaltFigures$Thinker") (v1 : Int32) (μ : Mu) : J X G 4 3 y (emy y) rvI tpT 0 [(0, .ref (G.1 + a)), (1, .int v1)] [] (μ, y) (Th_litPosts a tt v1 μ) := by
  unfold Th_litPosts
  refine J_iconst (pc := 0) (n := 0) (v := 0) hX (by decide +kernel) (by decide +kernel) ?_
  refine J_istore_n (k0 := 2) (pc := 1) [(2, .int 0), (0, .ref (G.1 + a)), (1, .int v1)] hX (by decide +kernel) rfl (by decide) rfl ?_
  refine J_iconst (pc := 2) (n := 0) (v := 0) hX (by decide +kernel) (by decide +kernel) ?_
  refine J_istore_n (k0 := 3) (pc := 3) [(3, .int 0), (2, .int 0), (0, .ref (G.1 + a)), (1, .int v1)] hX (by decide +kernel) rfl (by decide) rfl ?_
  exact J_sub [2, 3, 1, 0] _ rfl (jTh_litPosts_4 hL hX v1 FU 0 0 μ)
set_option maxRecDepth 100000 in
set_option maxHeartbeats 4000000 in
theorem c_Th_litPosts {l : Launch} {G : Gx} {y : Ly} {a tt : Nat} (hL : LyTh y a tt) (v1 : Int32) (μ : Mu) : Cn l G ⟨"SaltFigures$Thinker", "litPosts", "(I)I"⟩ prog_10_method_25_code 4 (some .int) 3 [.ref (G.1 + a), .int v1] (μ, y) (emy y) rvI tpT (Th_litPosts a tt v1 μ) := cn_of (by decide +kernel) (Nat.le_of_ble_eq_true rfl) (fun _ _ _ => ⟨List.prefix_refl _, trivial⟩) (fun X hX _ => jTh_litPosts hL hX v1 μ)

def Rw_has (a n : Nat) (v1 : Int32) (μ : Mu) : Option (Int32 × Mu) := (if v1 < 0 then some (0, μ) else gF μ a 3 (fun x1 => (if x1 ≤ v1 then some (0, μ) else some (1, μ))))
set_option maxRecDepth 100000 in
set_option maxHeartbeats 4000000 in
theorem jRw_has {X : Cx} {l : Launch} {G : Gx} {y : Ly} {a n : Nat} (hL : LyRw y a n) (hX : Ok X l G prog_7_method_7_code 2 (some .boolean) "SaltFigures$Row") (v1 : Int32) (μ : Mu) : J X G 2 1 y (emy y) rvI tpT 0 [(0, .ref (G.1 + a)), (1, .int v1)] [] (μ, y) (Rw_has a n v1 μ) := by
  unfold Rw_has
  refine J_iload_n (k0 := 1) (pc := 0) 1 hX (by decide +kernel) rfl rfl ?_
  refine J_if_lt (pc := 1) (off := 15) (tgt := 16) hX (by decide +kernel) (by decide +kernel) (fun _ => ?_) (fun _ => ?_)
  · refine J_iconst (pc := 16) (n := 0) (v := 0) hX (by decide +kernel) (by decide +kernel) ?_
    exact J_zret (pc := 17) hX (by decide +kernel) rfl (by decide +kernel) trivial
  · refine J_iload_n (k0 := 1) (pc := 4) 1 hX (by decide +kernel) rfl rfl ?_
    refine J_aload_n (k0 := 0) (pc := 5) 0 hX (by decide +kernel) rfl rfl ?_
    refine J_gF (pc := 6) hX (by decide +kernel) fl_Rw_28 hL.1 rfl (fun x1 => ?_)
    refine J_icmp_ge (pc := 9) (off := 7) (tgt := 16) hX (by decide +kernel) (by decide +kernel) (fun _ => ?_) (fun _ => ?_)
    · refine J_iconst (pc := 16) (n := 0) (v := 0) hX (by decide +kernel) (by decide +kernel) ?_
      exact J_zret (pc := 17) hX (by decide +kernel) rfl (by decide +kernel) trivial
    · refine J_iconst (pc := 12) (n := 1) (v := 1) hX (by decide +kernel) (by decide +kernel) ?_
      refine J_goto (pc := 13) (off := 4) (tgt := 17) hX (by decide +kernel) (by decide +kernel) ?_
      exact J_zret (pc := 17) hX (by decide +kernel) rfl (by decide +kernel) trivial
set_option maxRecDepth 100000 in
set_option maxHeartbeats 4000000 in
theorem c_Rw_has {l : Launch} {G : Gx} {y : Ly} {a n : Nat} (hL : LyRw y a n) (v1 : Int32) (μ : Mu) : Cn l G ⟨"SaltFigures$Row", "has", "(I)Z"⟩ prog_7_method_7_code 2 (some .boolean) 1 [.ref (G.1 + a), .int v1] (μ, y) (emy y) rvI tpT (Rw_has a n v1 μ) := cn_of (by decide +kernel) (Nat.le_of_ble_eq_true rfl) (fun _ _ _ => ⟨List.prefix_refl _, trivial⟩) (fun X hX _ => jRw_has hL hX v1 μ)

def Th_rayEnd_56 (a tt : Nat)   (v4 : Int32) (v5 : Int32) (s0 : Int32) (μ : Mu) : Option (Int32 × Mu) := cl (Sm_measure v5 v4 μ) (fun x2 μ1 => nz (jmax 1 x2) (some (s0 / (jmax 1 x2), μ1)))
def Th_rayEnd (a tt : Nat) (v1 : Int32) (v2 : Int32) (v3 : Int32) (μ : Mu) : Option (Int32 × Mu) := cl (Rw_at (tt + 17) 8 v2 μ) (fun x2 μ1 => (if 0 < (v1 - x2) then cl (Rw_at (tt + 15) 8 v2 μ1) (fun x4 μ3 => (if v3 = 0 then Th_rayEnd_56 a tt (v1 - x2) (v1 * x4) (v1 * x4) μ3 else Th_rayEnd_56 a tt (v1 - x2) (v1 * x4) (v1 - x2) μ3)) else (if v3 = 0 then some (1, μ1) else some (0, μ1))))
set_option maxRecDepth 100000 in
set_option maxHeartbeats 4000000 in
theorem jTh_rayEnd_56 {X : Cx} {l : Launch} {G : Gx} {y : Ly} {a tt : Nat} (hL : LyTh y a tt) (hX : Ok X l G prog_10_method_24_code 6 (some .int) "SaltFigures$Thinker")  (v4 : Int32) (v5 : Int32) (s0 : Int32)   (μ : Mu) : J X G 6 3 y (emy y) rvI tpT 56 [(4, .int v4), (5, .int v5)] [.int s0] (μ, y) (Th_rayEnd_56 a tt   v4 v5 s0 μ) := by
  unfold Th_rayEnd_56
  refine J_iconst (pc := 56) (n := 1) (v := 1) hX (by decide +kernel) (by decide +kernel) ?_
  refine J_iload (pc := 57) 1 hX (by decide +kernel) rfl ?_
  refine J_iload (pc := 59) 0 hX (by decide +kernel) rfl ?_
  refine J_cSi (pc := 61) (idx := 110) [.int v5, .int v4] hX (by decide +kernel) (mq mt_5 92 (by decide +kernel)) mv_Sm_measure rfl rfl (Nat.le_of_ble_eq_true rfl) (Nat.le_of_ble_eq_true rfl) (c_Sm_measure v5 v4 μ) (fun x2 μ1 => ?_)
  refine J_mmax (pc := 64) (idx := 100) hX (by decide +kernel) (mq mt_5 95 (by decide +kernel)) (Nat.le_of_ble_eq_true rfl) (Nat.le_of_ble_eq_true rfl) ?_
  refine J_idiv (pc := 67) hX (by decide +kernel) (fun _ => ?_)
  exact J_iret (pc := 68) hX (by decide +kernel) rfl trivial
set_option maxRecDepth 100000 in
set_option maxHeartbeats 4000000 in
theorem jTh_rayEnd {X : Cx} {l : Launch} {G : Gx} {y : Ly} {a tt : Nat} (hL : LyTh y a tt) (hX : Ok X l G prog_10_method_24_code 6 (some .int) "SaltFigures$Thinker") (v1 : Int32) (v2 : Int32) (v3 : Int32) (μ : Mu) : J X G 6 3 y (emy y) rvI tpT 0 [(0, .ref (G.1 + a)), (1, .int v1), (2, .int v2), (3, .int v3)] [] (μ, y) (Th_rayEnd a tt v1 v2 v3 μ) := by
  unfold Th_rayEnd
  refine J_iload_n (k0 := 1) (pc := 0) 1 hX (by decide +kernel) rfl rfl ?_
  refine J_aload_n (k0 := 0) (pc := 1) 0 hX (by decide +kernel) rfl rfl ?_
  refine J_gr (pc := 2) hX (by decide +kernel) fl_Th_18 hL.1 rfl hL.2.1.1 ?_
  refine J_gr (pc := 5) hX (by decide +kernel) fl_Th_48 hL.2.1.2.1 rfl hL.2.1.2.2.2.2.2.2.2.2.2.2.1.1 ?_
  refine J_iload_n (k0 := 2) (pc := 8) 2 hX (by decide +kernel) rfl rfl ?_
  refine J_cVi (pc := 9) (idx := 34) [.int v2] hX (by decide +kernel) (mq mt_4 191 (by decide +kernel)) mv_Rw_at hL.2.1.2.2.2.2.2.2.2.2.2.2.1.2.1 rfl rfl (Nat.le_of_ble_eq_true rfl) (Nat.le_of_ble_eq_true rfl) (c_Rw_at hL.2.1.2.2.2.2.2.2.2.2.2.2.1.2 v2 μ) (fun x2 μ1 => ?_)
  refine J_isub (pc := 12) hX (by decide +kernel) ?_
  refine J_istore (pc := 13) [(4, .int (v1 - x2)), (0, .ref (G.1 + a)), (1, .int v1), (2, .int v2), (3, .int v3)] hX (by decide +kernel) (by decide) rfl ?_
  refine J_iload (pc := 15) 0 hX (by decide +kernel) rfl ?_
  refine J_if_gt (pc := 17) (off := 13) (tgt := 30) hX (by decide +kernel) (by decide +kernel) (fun _ => ?_) (fun _ => ?_)
  · refine J_iload_n (k0 := 1) (pc := 30) 2 hX (by decide +kernel) rfl rfl ?_
    refine J_aload_n (k0 := 0) (pc := 31) 1 hX (by decide +kernel) rfl rfl ?_
    refine J_gr (pc := 32) hX (by decide +kernel) fl_Th_18 hL.1 rfl hL.2.1.1 ?_
    refine J_gr (pc := 35) hX (by decide +kernel) fl_Th_45 hL.2.1.2.1 rfl hL.2.1.2.2.2.2.2.2.2.2.2.1.1 ?_
    refine J_iload_n (k0 := 2) (pc := 38) 3 hX (by decide +kernel) rfl rfl ?_
    refine J_cVi (pc := 39) (idx := 34) [.int v2] hX (by decide +kernel) (mq mt_4 191 (by decide +kernel)) mv_Rw_at hL.2.1.2.2.2.2.2.2.2.2.2.1.2.1 rfl rfl (Nat.le_of_ble_eq_true rfl) (Nat.le_of_ble_eq_true rfl) (c_Rw_at hL.2.1.2.2.2.2.2.2.2.2.2.1.2 v2 μ1) (fun x4 μ3 => ?_)
    refine J_imul (pc := 42) hX (by decide +kernel) ?_
    refine J_istore (pc := 43) [(5, .int (v1 * x4)), (4, .int (v1 - x2)), (0, .ref (G.1 + a)), (1, .int v1), (2, .int v2), (3, .int v3)] hX (by decide +kernel) (by decide) rfl ?_
    refine J_iload_n (k0 := 3) (pc := 45) 5 hX (by decide +kernel) rfl rfl ?_
    refine J_if_eq (pc := 46) (off := 8) (tgt := 54) hX (by decide +kernel) (by decide +kernel) (fun _ => ?_) (fun _ => ?_)
    · refine J_iload (pc := 54) 0 hX (by decide +kernel) rfl ?_
      exact J_sub [1, 0] _ rfl (jTh_rayEnd_56 hL hX (v1 - x2) (v1 * x4) (v1 * x4) μ3)
    · refine J_iload (pc := 49) 1 hX (by decide +kernel) rfl ?_
      refine J_goto (pc := 51) (off := 5) (tgt := 56) hX (by decide +kernel) (by decide +kernel) ?_
      exact J_sub [1, 0] _ rfl (jTh_rayEnd_56 hL hX (v1 - x2) (v1 * x4) (v1 - x2) μ3)
  · refine J_iload_n (k0 := 3) (pc := 20) 4 hX (by decide +kernel) rfl rfl ?_
    refine J_if_eq (pc := 21) (off := 7) (tgt := 28) hX (by decide +kernel) (by decide +kernel) (fun _ => ?_) (fun _ => ?_)
    · refine J_iconst (pc := 28) (n := 1) (v := 1) hX (by decide +kernel) (by decide +kernel) ?_
      exact J_iret (pc := 29) hX (by decide +kernel) rfl trivial
    · refine J_iconst (pc := 24) (n := 0) (v := 0) hX (by decide +kernel) (by decide +kernel) ?_
      refine J_goto (pc := 25) (off := 4) (tgt := 29) hX (by decide +kernel) (by decide +kernel) ?_
      exact J_iret (pc := 29) hX (by decide +kernel) rfl trivial
set_option maxRecDepth 100000 in
set_option maxHeartbeats 4000000 in
theorem c_Th_rayEnd {l : Launch} {G : Gx} {y : Ly} {a tt : Nat} (hL : LyTh y a tt) (v1 : Int32) (v2 : Int32) (v3 : Int32) (μ : Mu) : Cn l G ⟨"SaltFigures$Thinker", "rayEnd", "(IIZ)I"⟩ prog_10_method_24_code 6 (some .int) 3 [.ref (G.1 + a), .int v1, .int v2, .int v3] (μ, y) (emy y) rvI tpT (Th_rayEnd a tt v1 v2 v3 μ) := cn_of (by decide +kernel) (Nat.le_of_ble_eq_true rfl) (fun _ _ _ => ⟨List.prefix_refl _, trivial⟩) (fun X hX _ => jTh_rayEnd hL hX v1 v2 v3 μ)

def Sf_light_69 (a : Nat)    (s0 : Int32) (s1 : Int32) (s2 : Int32) (μ : Mu) : Option (Int32 × Mu) := cl (Th_rayEnd (a + 45) (a + 1 + 17) s2 s1 s0 μ) (fun x2 μ1 => some (x2, μ1))
def Sf_light (a : Nat) (v1 : Int32) (v2 : Int32) (v3 : Int32) (μ : Mu) : Option (Int32 × Mu) := cl (Sf_within v1 1 60 μ) (fun x2 μ1 => (if x2 = 0 then some ((-2), μ1) else cl (Sf_within v3 0 2 μ1) (fun x4 μ3 => (if x4 = 0 then some ((-2), μ3) else (if v3 = 2 then cl (Th_litPosts (a + 45) (a + 1 + 17) v1 μ3) (fun x8 μ7 => some (x8, μ7)) else cl (Rw_has (a + 1 + 17 + 15) 8 v2 μ3) (fun x6 μ5 => (if x6 = 0 then some ((-2), μ5) else (if v3 = 1 then Sf_light_69 a 1 v2 v1 μ5 else Sf_light_69 a 0 v2 v1 μ5))))))))
set_option maxRecDepth 100000 in
set_option maxHeartbeats 4000000 in
theorem jSf_light_69 {X : Cx} {l : Launch} {G : Gx} {y : Ly} {a : Nat} (hL : LySf y a ) (hX : Ok X l G prog_1_method_37_code 4 (some .int) "SaltFigures")   (s0 : Int32) (s1 : Int32) (s2 : Int32)   (μ : Mu) : J X G 4 4 y (emy y) rvI tpT 69 [] [.int s0, .int s1, .int s2, .ref (G.1 + (a + 45))] (μ, y) (Sf_light_69 a    s0 s1 s2 μ) := by
  unfold Sf_light_69
  refine J_cVi (pc := 69) (idx := 346) [.int s2, .int s1, .int s0] hX (by decide +kernel) (mq mt_5 177 (by decide +kernel)) mv_Th_rayEnd hL.2.2.2.2.1.2.1 rfl rfl (Nat.le_of_ble_eq_true rfl) (Nat.le_of_ble_eq_true rfl) (c_Th_rayEnd hL.2.2.2.2.1.2 s2 s1 s0 μ) (fun x2 μ1 => ?_)
  refine J_goto (pc := 72) (off := 5) (tgt := 77) hX (by decide +kernel) (by decide +kernel) ?_
  exact J_iret (pc := 77) hX (by decide +kernel) rfl trivial
set_option maxRecDepth 100000 in
set_option maxHeartbeats 4000000 in
theorem jSf_light {X : Cx} {l : Launch} {G : Gx} {y : Ly} {a : Nat} (hL : LySf y a ) (hX : Ok X l G prog_1_method_37_code 4 (some .int) "SaltFigures") (v1 : Int32) (v2 : Int32) (v3 : Int32) (μ : Mu) : J X G 4 4 y (emy y) rvI tpT 0 [(0, .ref (G.1 + a)), (1, .int v1), (2, .int v2), (3, .int v3)] [] (μ, y) (Sf_light a v1 v2 v3 μ) := by
  unfold Sf_light
  refine J_iload_n (k0 := 1) (pc := 0) 1 hX (by decide +kernel) rfl rfl ?_
  refine J_iconst (pc := 1) (n := 1) (v := 1) hX (by decide +kernel) (by decide +kernel) ?_
  refine J_bipush (pc := 2) (n := 60) (v := 60) hX (by decide +kernel) (by decide +kernel) ?_
  refine J_cSi (pc := 4) (idx := 68) [.int v1, .int 1, .int 60] hX (by decide +kernel) (mq mt_2 148 (by decide +kernel)) mv_Sf_within rfl rfl (Nat.le_of_ble_eq_true rfl) (Nat.le_of_ble_eq_true rfl) (c_Sf_within v1 1 60 μ) (fun x2 μ1 => ?_)
  refine J_if_eq (pc := 7) (off := 12) (tgt := 19) hX (by decide +kernel) (by decide +kernel) (fun _ => ?_) (fun _ => ?_)
  · refine J_bipush (pc := 19) (n := -2) (v := (-2)) hX (by decide +kernel) (by decide +kernel) ?_
    exact J_iret (pc := 21) hX (by decide +kernel) rfl trivial
  · refine J_iload_n (k0 := 3) (pc := 10) 3 hX (by decide +kernel) rfl rfl ?_
    refine J_iconst (pc := 11) (n := 0) (v := 0) hX (by decide +kernel) (by decide +kernel) ?_
    refine J_iconst (pc := 12) (n := 2) (v := 2) hX (by decide +kernel) (by decide +kernel) ?_
    refine J_cSi (pc := 13) (idx := 68) [.int v3, .int 0, .int 2] hX (by decide +kernel) (mq mt_2 148 (by decide +kernel)) mv_Sf_within rfl rfl (Nat.le_of_ble_eq_true rfl) (Nat.le_of_ble_eq_true rfl) (c_Sf_within v3 0 2 μ1) (fun x4 μ3 => ?_)
    refine J_if_ne (pc := 16) (off := 6) (tgt := 22) hX (by decide +kernel) (by decide +kernel) (fun _ => ?_) (fun _ => ?_)
    · refine J_iload_n (k0 := 3) (pc := 22) 3 hX (by decide +kernel) rfl rfl ?_
      refine J_iconst (pc := 23) (n := 2) (v := 2) hX (by decide +kernel) (by decide +kernel) ?_
      refine J_icmp_ne (pc := 24) (off := 12) (tgt := 36) hX (by decide +kernel) (by decide +kernel) (fun _ => ?_) (fun _ => ?_)
      · refine J_aload_n (k0 := 0) (pc := 36) 0 hX (by decide +kernel) rfl rfl ?_
        refine J_gr (pc := 37) hX (by decide +kernel) fl_Sf_12 hL.1 rfl hL.2.1.1 ?_
        refine J_gr (pc := 40) hX (by decide +kernel) fl_Sf_36 hL.2.1.2.1 rfl hL.2.1.2.2.2.2.2.1.1 ?_
        refine J_gr (pc := 43) hX (by decide +kernel) fl_Sf_334 hL.2.1.2.2.2.2.2.1.2.1 rfl hL.2.1.2.2.2.2.2.1.2.2.2.2.2.2.2.2.2.1.1 ?_
        refine J_iload_n (k0 := 2) (pc := 46) 2 hX (by decide +kernel) rfl rfl ?_
        refine J_cVi (pc := 47) (idx := 251) [.int v2] hX (by decide +kernel) (mq mt_4 210 (by decide +kernel)) mv_Rw_has hL.2.1.2.2.2.2.2.1.2.2.2.2.2.2.2.2.2.1.2.1 rfl rfl (Nat.le_of_ble_eq_true rfl) (Nat.le_of_ble_eq_true rfl) (c_Rw_has hL.2.1.2.2.2.2.2.1.2.2.2.2.2.2.2.2.2.1.2 v2 μ3) (fun x6 μ5 => ?_)
        refine J_if_eq (pc := 50) (off := 25) (tgt := 75) hX (by decide +kernel) (by decide +kernel) (fun _ => ?_) (fun _ => ?_)
        · refine J_bipush (pc := 75) (n := -2) (v := (-2)) hX (by decide +kernel) (by decide +kernel) ?_
          exact J_iret (pc := 77) hX (by decide +kernel) rfl trivial
        · refine J_aload_n (k0 := 0) (pc := 53) 0 hX (by decide +kernel) rfl rfl ?_
          refine J_gr (pc := 54) hX (by decide +kernel) fl_Sf_43 hL.1 rfl hL.2.2.2.2.1.1 ?_
          refine J_iload_n (k0 := 1) (pc := 57) 1 hX (by decide +kernel) rfl rfl ?_
          refine J_iload_n (k0 := 2) (pc := 58) 2 hX (by decide +kernel) rfl rfl ?_
          refine J_iload_n (k0 := 3) (pc := 59) 3 hX (by decide +kernel) rfl rfl ?_
          refine J_iconst (pc := 60) (n := 1) (v := 1) hX (by decide +kernel) (by decide +kernel) ?_
          refine J_icmp_ne (pc := 61) (off := 7) (tgt := 68) hX (by decide +kernel) (by decide +kernel) (fun _ => ?_) (fun _ => ?_)
          · refine J_iconst (pc := 68) (n := 0) (v := 0) hX (by decide +kernel) (by decide +kernel) ?_
            exact J_sub [] _ rfl (jSf_light_69 hL hX 0 v2 v1 μ5)
          · refine J_iconst (pc := 64) (n := 1) (v := 1) hX (by decide +kernel) (by decide +kernel) ?_
            refine J_goto (pc := 65) (off := 4) (tgt := 69) hX (by decide +kernel) (by decide +kernel) ?_
            exact J_sub [] _ rfl (jSf_light_69 hL hX 1 v2 v1 μ5)
      · refine J_aload_n (k0 := 0) (pc := 27) 0 hX (by decide +kernel) rfl rfl ?_
        refine J_gr (pc := 28) hX (by decide +kernel) fl_Sf_43 hL.1 rfl hL.2.2.2.2.1.1 ?_
        refine J_iload_n (k0 := 1) (pc := 31) 1 hX (by decide +kernel) rfl rfl ?_
        refine J_cVi (pc := 32) (idx := 343) [.int v1] hX (by decide +kernel) (mq mt_5 169 (by decide +kernel)) mv_Th_litPosts hL.2.2.2.2.1.2.1 rfl rfl (Nat.le_of_ble_eq_true rfl) (Nat.le_of_ble_eq_true rfl) (c_Th_litPosts hL.2.2.2.2.1.2 v1 μ3) (fun x8 μ7 => ?_)
        exact J_iret (pc := 35) hX (by decide +kernel) rfl trivial
    · refine J_bipush (pc := 19) (n := -2) (v := (-2)) hX (by decide +kernel) (by decide +kernel) ?_
      exact J_iret (pc := 21) hX (by decide +kernel) rfl trivial
set_option maxRecDepth 100000 in
set_option maxHeartbeats 4000000 in
theorem c_Sf_light {l : Launch} {G : Gx} {y : Ly} {a : Nat} (hL : LySf y a ) (v1 : Int32) (v2 : Int32) (v3 : Int32) (μ : Mu) : Cn l G ⟨"SaltFigures", "light", "(III)I"⟩ prog_1_method_37_code 4 (some .int) 4 [.ref (G.1 + a), .int v1, .int v2, .int v3] (μ, y) (emy y) rvI tpT (Sf_light a v1 v2 v3 μ) := cn_of (by decide +kernel) (Nat.le_of_ble_eq_true rfl) (fun _ _ _ => ⟨List.prefix_refl _, trivial⟩) (fun X hX _ => jSf_light hL hX v1 v2 v3 μ)

def Fg_aliveSet_4b (a : Nat)  (kb4 : Int32 → Int32 → Mu → Option (Int32 × Mu))  (v1 : Int32) (v2 : Int32)  (μ : Mu) : Option (Int32 × Mu) := gF μ a 3 (fun x1 => (if x1 ≤ v2 then some (v1, μ) else cl (Fg_get a v2 5 μ) (fun x3 μ2 => kb4 (v1 ||| (jshl x3 v2)) (v2 + 1) μ2)))
def Fg_aliveSet_4 (a : Nat)   (fu : Nat) : Int32 → Int32 → Mu → Option (Int32 × Mu) := lp (fun kb => Fg_aliveSet_4b a  kb ) (fun _ _ _ => none) fu
def Fg_aliveSet (a : Nat)  (μ : Mu) : Option (Int32 × Mu) := Fg_aliveSet_4 a FU 0 0 μ
set_option maxRecDepth 100000 in
set_option maxHeartbeats 4000000 in
theorem jFg_aliveSet_4b {X : Cx} {l : Launch} {G : Gx} {y : Ly} {a : Nat} (hL : LyFg y a ) (hX : Ok X l G prog_3_method_10_code 3 (some .int) "SaltFigures$Figures")   {kb4 : Int32 → Int32 → Mu → Option (Int32 × Mu)}  (hk4 : ∀ (v1 : Int32) (v2 : Int32) (μ : Mu), J X G 3 2 y (emy y) rvI tpT 4 [(0, .ref (G.1 + a)), (1, .int v1), (2, .int v2)] [] (μ, y) (kb4 v1 v2 μ)) (v1 : Int32) (v2 : Int32)  (μ : Mu) : J X G 3 2 y (emy y) rvI tpT 4 [(0, .ref (G.1 + a)), (1, .int v1), (2, .int v2)] [] (μ, y) (Fg_aliveSet_4b a  kb4  v1 v2  μ) := by
  unfold Fg_aliveSet_4b
  refine J_iload_n (k0 := 2) (pc := 4) 2 hX (by decide +kernel) rfl rfl ?_
  refine J_aload_n (k0 := 0) (pc := 5) 0 hX (by decide +kernel) rfl rfl ?_
  refine J_gF (pc := 6) hX (by decide +kernel) fl_Fg_34 hL.1 rfl (fun x1 => ?_)
  refine J_icmp_ge (pc := 9) (off := 20) (tgt := 29) hX (by decide +kernel) (by decide +kernel) (fun _ => ?_) (fun _ => ?_)
  · refine J_iload_n (k0 := 1) (pc := 29) 1 hX (by decide +kernel) rfl rfl ?_
    exact J_iret (pc := 30) hX (by decide +kernel) rfl trivial
  · refine J_iload_n (k0 := 1) (pc := 12) 1 hX (by decide +kernel) rfl rfl ?_
    refine J_aload_n (k0 := 0) (pc := 13) 0 hX (by decide +kernel) rfl rfl ?_
    refine J_iload_n (k0 := 2) (pc := 14) 2 hX (by decide +kernel) rfl rfl ?_
    refine J_iconst (pc := 15) (n := 5) (v := 5) hX (by decide +kernel) (by decide +kernel) ?_
    refine J_cVi (pc := 16) (idx := 60) [.int v2, .int 5] hX (by decide +kernel) (mq mt_2 167 (by decide +kernel)) mv_Fg_get hL.1 rfl rfl (Nat.le_of_ble_eq_true rfl) (Nat.le_of_ble_eq_true rfl) (c_Fg_get hL v2 5 μ) (fun x3 μ2 => ?_)
    refine J_iload_n (k0 := 2) (pc := 19) 2 hX (by decide +kernel) rfl rfl ?_
    refine J_ishl (pc := 20) hX (by decide +kernel) ?_
    refine J_ior (pc := 21) hX (by decide +kernel) ?_
    refine J_istore_n (k0 := 1) (pc := 22) [(1, .int (v1 ||| (jshl x3 v2))), (0, .ref (G.1 + a)), (2, .int v2)] hX (by decide +kernel) rfl (by decide) rfl ?_
    refine J_iinc (pc := 23) (n := 1) 2 [(2, .int (v2 + 1)), (1, .int (v1 ||| (jshl x3 v2))), (0, .ref (G.1 + a))] hX (by decide +kernel) rfl rfl (by decide) rfl ?_
    refine J_goto (pc := 26) (off := -22) (tgt := 4) hX (by decide +kernel) (by decide +kernel) ?_
    exact J_sub [2, 1, 0] _ rfl (hk4 (v1 ||| (jshl x3 v2)) (v2 + 1) μ2)
set_option maxRecDepth 100000 in
set_option maxHeartbeats 4000000 in
theorem jFg_aliveSet_4 {X : Cx} {l : Launch} {G : Gx} {y : Ly} {a : Nat} (hL : LyFg y a ) (hX : Ok X l G prog_3_method_10_code 3 (some .int) "SaltFigures$Figures")    : ∀ (fu : Nat) (v1 : Int32) (v2 : Int32) (μ : Mu), J X G 3 2 y (emy y) rvI tpT 4 [(0, .ref (G.1 + a)), (1, .int v1), (2, .int v2)] [] (μ, y) (Fg_aliveSet_4 a   fu v1 v2 μ) := by
  intro fu
  induction fu with
  | zero => intros; exact J_none
  | succ fu ih => intro v1 v2 μ; exact jFg_aliveSet_4b hL hX   ih v1 v2 μ
set_option maxRecDepth 100000 in
set_option maxHeartbeats 4000000 in
theorem jFg_aliveSet {X : Cx} {l : Launch} {G : Gx} {y : Ly} {a : Nat} (hL : LyFg y a ) (hX : Ok X l G prog_3_method_10_code 3 (some .int) "SaltFigures$Figures")  (μ : Mu) : J X G 3 2 y (emy y) rvI tpT 0 [(0, .ref (G.1 + a))] [] (μ, y) (Fg_aliveSet a  μ) := by
  unfold Fg_aliveSet
  refine J_iconst (pc := 0) (n := 0) (v := 0) hX (by decide +kernel) (by decide +kernel) ?_
  refine J_istore_n (k0 := 1) (pc := 1) [(1, .int 0), (0, .ref (G.1 + a))] hX (by decide +kernel) rfl (by decide) rfl ?_
  refine J_iconst (pc := 2) (n := 0) (v := 0) hX (by decide +kernel) (by decide +kernel) ?_
  refine J_istore_n (k0 := 2) (pc := 3) [(2, .int 0), (1, .int 0), (0, .ref (G.1 + a))] hX (by decide +kernel) rfl (by decide) rfl ?_
  exact J_sub [2, 1, 0] _ rfl (jFg_aliveSet_4 hL hX FU 0 0 μ)
set_option maxRecDepth 100000 in
set_option maxHeartbeats 4000000 in
theorem c_Fg_aliveSet {l : Launch} {G : Gx} {y : Ly} {a : Nat} (hL : LyFg y a )  (μ : Mu) : Cn l G ⟨"SaltFigures$Figures", "aliveSet", "()I"⟩ prog_3_method_10_code 3 (some .int) 2 [.ref (G.1 + a)] (μ, y) (emy y) rvI tpT (Fg_aliveSet a  μ) := cn_of (by decide +kernel) (Nat.le_of_ble_eq_true rfl) (fun _ _ _ => ⟨List.prefix_refl _, trivial⟩) (fun X hX _ => jFg_aliveSet hL hX  μ)

def Sf_look (a : Nat) (v1 : Int32) (μ : Mu) : Option (Int32 × Mu) := cl (Sf_within v1 20 35 μ) (fun x2 μ1 => (if x2 = 0 then (if v1 = 0 then gF μ1 (a + 1 + 1) 3 (fun x3 => some (x3, μ1)) else (if v1 = 1 then cl (Fg_aliveSet (a + 1 + 1) μ1) (fun x5 μ4 => some (x5, μ4)) else (if v1 = 2 then gF μ1 (a + 1 + 1) 4 (fun x6 => some (x6, μ1)) else (if v1 = 3 then gF μ1 (a + 1 + 1) 5 (fun x7 => some (x7, μ1)) else (if v1 = 4 then gF μ1 (a + 1 + 1) 6 (fun x8 => some (x8, μ1)) else (if v1 = 5 then gF μ1 (a + 1 + 1) 7 (fun x9 => some (x9, μ1)) else (if v1 = 6 then cl (Fg_tallest (a + 1 + 1) μ1) (fun x11 μ10 => some (x11, μ10)) else (if v1 = 7 then gF μ1 (a + 1 + 1) 9 (fun x12 => some (x12, μ1)) else (if v1 = 8 then gF μ1 (a + 1 + 1) 8 (fun x13 => some (x13, μ1)) else (if v1 = 9 then cl (Tx_linesOf (a + 1 + 5) (v1 - 9) μ1) (fun x15 μ14 => some (x15, μ14)) else (if v1 = 10 then cl (Tx_linesOf (a + 1 + 5) (v1 - 9) μ1) (fun x17 μ16 => some (x17, μ16)) else (if v1 = 11 then cl (Tx_linesOf (a + 1 + 5) (v1 - 9) μ1) (fun x19 μ18 => some (x19, μ18)) else (if v1 = 12 then cl (Tx_linesOf (a + 1 + 5) (v1 - 9) μ1) (fun x21 μ20 => some (x21, μ20)) else (if v1 = 13 then gF μ1 a 8 (fun x22 => some (x22, μ1)) else some ((-100000), μ1))))))))))))))) else cl (Fg_holder (a + 1 + 1) (v1 - 20) μ1) (fun x24 μ23 => some (x24, μ23))))
set_option maxRecDepth 100000 in
set_option maxHeartbeats 4000000 in
theorem jSf_look {X : Cx} {l : Launch} {G : Gx} {y : Ly} {a : Nat} (hL : LySf y a ) (hX : Ok X l G prog_1_method_43_code 3 (some .int) "SaltFigures") (v1 : Int32) (μ : Mu) : J X G 3 3 y (emy y) rvI tpT 0 [(0, .ref (G.1 + a)), (1, .int v1)] [] (μ, y) (Sf_look a v1 μ) := by
  unfold Sf_look
  refine J_aload_n (k0 := 0) (pc := 0) 0 hX (by decide +kernel) rfl rfl ?_
  refine J_gr (pc := 1) hX (by decide +kernel) fl_Sf_12 hL.1 rfl hL.2.1.1 ?_
  refine J_gr (pc := 4) hX (by decide +kernel) fl_Sf_58 hL.2.1.2.1 rfl hL.2.1.2.2.1.1 ?_
  refine J_astore_n (k0 := 2) (pc := 7) [(2, .ref (G.1 + (a + 1 + 1))), (0, .ref (G.1 + a)), (1, .int v1)] hX (by decide +kernel) rfl (by decide) rfl ?_
  refine J_iload_n (k0 := 1) (pc := 8) 2 hX (by decide +kernel) rfl rfl ?_
  refine J_bipush (pc := 9) (n := 20) (v := 20) hX (by decide +kernel) (by decide +kernel) ?_
  refine J_bipush (pc := 11) (n := 35) (v := 35) hX (by decide +kernel) (by decide +kernel) ?_
  refine J_cSi (pc := 13) (idx := 68) [.int v1, .int 20, .int 35] hX (by decide +kernel) (mq mt_2 148 (by decide +kernel)) mv_Sf_within rfl rfl (Nat.le_of_ble_eq_true rfl) (Nat.le_of_ble_eq_true rfl) (c_Sf_within v1 20 35 μ) (fun x2 μ1 => ?_)
  refine J_if_eq (pc := 16) (off := 12) (tgt := 28) hX (by decide +kernel) (by decide +kernel) (fun _ => ?_) (fun _ => ?_)
  · refine J_iload_n (k0 := 1) (pc := 28) 2 hX (by decide +kernel) rfl rfl ?_
    refine J_ite _ (fun hc0 => ?_) (fun hc0 => ?_)
    · refine J_tsIn (pc := 29) (dflt := 136) (lo := 0) (hi := 13) (offs := #[71, 76, 81, 86, 91, 96, 101, 106, 111, 116, 116, 116, 116, 131]) (len := 71) (off := 71) (tgt := 100) 0 hc0 hX (by decide +kernel) (by decide +kernel) (by decide +kernel) (by decide +kernel) (by decide +kernel) ?_
      refine J_aload_n (k0 := 2) (pc := 100) 0 hX (by decide +kernel) rfl rfl ?_
      refine J_gF (pc := 101) hX (by decide +kernel) fl_Sf_72 hL.2.1.2.2.1.2.1 rfl (fun x3 => ?_)
      exact J_iret (pc := 104) hX (by decide +kernel) rfl trivial
    · refine J_ite _ (fun hc1 => ?_) (fun hc1 => ?_)
      · refine J_tsIn (pc := 29) (dflt := 136) (lo := 0) (hi := 13) (offs := #[71, 76, 81, 86, 91, 96, 101, 106, 111, 116, 116, 116, 116, 131]) (len := 71) (off := 76) (tgt := 105) 1 hc1 hX (by decide +kernel) (by decide +kernel) (by decide +kernel) (by decide +kernel) (by decide +kernel) ?_
        refine J_aload_n (k0 := 2) (pc := 105) 0 hX (by decide +kernel) rfl rfl ?_
        refine J_cVi (pc := 106) (idx := 374) [] hX (by decide +kernel) (mq mt_5 233 (by decide +kernel)) mv_Fg_aliveSet hL.2.1.2.2.1.2.1 rfl rfl (Nat.le_of_ble_eq_true rfl) (Nat.le_of_ble_eq_true rfl) (c_Fg_aliveSet hL.2.1.2.2.1.2 μ1) (fun x5 μ4 => ?_)
        exact J_iret (pc := 109) hX (by decide +kernel) rfl trivial
      · refine J_ite _ (fun hc2 => ?_) (fun hc2 => ?_)
        · refine J_tsIn (pc := 29) (dflt := 136) (lo := 0) (hi := 13) (offs := #[71, 76, 81, 86, 91, 96, 101, 106, 111, 116, 116, 116, 116, 131]) (len := 71) (off := 81) (tgt := 110) 2 hc2 hX (by decide +kernel) (by decide +kernel) (by decide +kernel) (by decide +kernel) (by decide +kernel) ?_
          refine J_aload_n (k0 := 2) (pc := 110) 0 hX (by decide +kernel) rfl rfl ?_
          refine J_gF (pc := 111) hX (by decide +kernel) fl_Sf_79 hL.2.1.2.2.1.2.1 rfl (fun x6 => ?_)
          exact J_iret (pc := 114) hX (by decide +kernel) rfl trivial
        · refine J_ite _ (fun hc3 => ?_) (fun hc3 => ?_)
          · refine J_tsIn (pc := 29) (dflt := 136) (lo := 0) (hi := 13) (offs := #[71, 76, 81, 86, 91, 96, 101, 106, 111, 116, 116, 116, 116, 131]) (len := 71) (off := 86) (tgt := 115) 3 hc3 hX (by decide +kernel) (by decide +kernel) (by decide +kernel) (by decide +kernel) (by decide +kernel) ?_
            refine J_aload_n (k0 := 2) (pc := 115) 0 hX (by decide +kernel) rfl rfl ?_
            refine J_gF (pc := 116) hX (by decide +kernel) fl_Sf_203 hL.2.1.2.2.1.2.1 rfl (fun x7 => ?_)
            exact J_iret (pc := 119) hX (by decide +kernel) rfl trivial
          · refine J_ite _ (fun hc4 => ?_) (fun hc4 => ?_)
            · refine J_tsIn (pc := 29) (dflt := 136) (lo := 0) (hi := 13) (offs := #[71, 76, 81, 86, 91, 96, 101, 106, 111, 116, 116, 116, 116, 131]) (len := 71) (off := 91) (tgt := 120) 4 hc4 hX (by decide +kernel) (by decide +kernel) (by decide +kernel) (by decide +kernel) (by decide +kernel) ?_
              refine J_aload_n (k0 := 2) (pc := 120) 0 hX (by decide +kernel) rfl rfl ?_
              refine J_gF (pc := 121) hX (by decide +kernel) fl_Sf_377 hL.2.1.2.2.1.2.1 rfl (fun x8 => ?_)
              exact J_iret (pc := 124) hX (by decide +kernel) rfl trivial
            · refine J_ite _ (fun hc5 => ?_) (fun hc5 => ?_)
              · refine J_tsIn (pc := 29) (dflt := 136) (lo := 0) (hi := 13) (offs := #[71, 76, 81, 86, 91, 96, 101, 106, 111, 116, 116, 116, 116, 131]) (len := 71) (off := 96) (tgt := 125) 5 hc5 hX (by decide +kernel) (by decide +kernel) (by decide +kernel) (by decide +kernel) (by decide +kernel) ?_
                refine J_aload_n (k0 := 2) (pc := 125) 0 hX (by decide +kernel) rfl rfl ?_
                refine J_gF (pc := 126) hX (by decide +kernel) fl_Sf_121 hL.2.1.2.2.1.2.1 rfl (fun x9 => ?_)
                exact J_iret (pc := 129) hX (by decide +kernel) rfl trivial
              · refine J_ite _ (fun hc6 => ?_) (fun hc6 => ?_)
                · refine J_tsIn (pc := 29) (dflt := 136) (lo := 0) (hi := 13) (offs := #[71, 76, 81, 86, 91, 96, 101, 106, 111, 116, 116, 116, 116, 131]) (len := 71) (off := 101) (tgt := 130) 6 hc6 hX (by decide +kernel) (by decide +kernel) (by decide +kernel) (by decide +kernel) (by decide +kernel) ?_
                  refine J_aload_n (k0 := 2) (pc := 130) 0 hX (by decide +kernel) rfl rfl ?_
                  refine J_cVi (pc := 131) (idx := 380) [] hX (by decide +kernel) (mq mt_5 237 (by decide +kernel)) mv_Fg_tallest hL.2.1.2.2.1.2.1 rfl rfl (Nat.le_of_ble_eq_true rfl) (Nat.le_of_ble_eq_true rfl) (c_Fg_tallest hL.2.1.2.2.1.2 μ1) (fun x11 μ10 => ?_)
                  exact J_iret (pc := 134) hX (by decide +kernel) rfl trivial
                · refine J_ite _ (fun hc7 => ?_) (fun hc7 => ?_)
                  · refine J_tsIn (pc := 29) (dflt := 136) (lo := 0) (hi := 13) (offs := #[71, 76, 81, 86, 91, 96, 101, 106, 111, 116, 116, 116, 116, 131]) (len := 71) (off := 106) (tgt := 135) 7 hc7 hX (by decide +kernel) (by decide +kernel) (by decide +kernel) (by decide +kernel) (by decide +kernel) ?_
                    refine J_aload_n (k0 := 2) (pc := 135) 0 hX (by decide +kernel) rfl rfl ?_
                    refine J_gF (pc := 136) hX (by decide +kernel) fl_Sf_383 hL.2.1.2.2.1.2.1 rfl (fun x12 => ?_)
                    exact J_iret (pc := 139) hX (by decide +kernel) rfl trivial
                  · refine J_ite _ (fun hc8 => ?_) (fun hc8 => ?_)
                    · refine J_tsIn (pc := 29) (dflt := 136) (lo := 0) (hi := 13) (offs := #[71, 76, 81, 86, 91, 96, 101, 106, 111, 116, 116, 116, 116, 131]) (len := 71) (off := 111) (tgt := 140) 8 hc8 hX (by decide +kernel) (by decide +kernel) (by decide +kernel) (by decide +kernel) (by decide +kernel) ?_
                      refine J_aload_n (k0 := 2) (pc := 140) 0 hX (by decide +kernel) rfl rfl ?_
                      refine J_gF (pc := 141) hX (by decide +kernel) fl_Sf_61 hL.2.1.2.2.1.2.1 rfl (fun x13 => ?_)
                      exact J_iret (pc := 144) hX (by decide +kernel) rfl trivial
                    · refine J_ite _ (fun hc9 => ?_) (fun hc9 => ?_)
                      · refine J_tsIn (pc := 29) (dflt := 136) (lo := 0) (hi := 13) (offs := #[71, 76, 81, 86, 91, 96, 101, 106, 111, 116, 116, 116, 116, 131]) (len := 71) (off := 116) (tgt := 145) 9 hc9 hX (by decide +kernel) (by decide +kernel) (by decide +kernel) (by decide +kernel) (by decide +kernel) ?_
                        refine J_aload_n (k0 := 0) (pc := 145) 1 hX (by decide +kernel) rfl rfl ?_
                        refine J_gr (pc := 146) hX (by decide +kernel) fl_Sf_12 hL.1 rfl hL.2.1.1 ?_
                        refine J_gr (pc := 149) hX (by decide +kernel) fl_Sf_162 hL.2.1.2.1 rfl hL.2.1.2.2.2.2.1.1 ?_
                        refine J_iload_n (k0 := 1) (pc := 152) 2 hX (by decide +kernel) rfl rfl ?_
                        refine J_bipush (pc := 153) (n := 9) (v := 9) hX (by decide +kernel) (by decide +kernel) ?_
                        refine J_isub (pc := 155) hX (by decide +kernel) ?_
                        refine J_cVi (pc := 156) (idx := 384) [.int (v1 - 9)] hX (by decide +kernel) (mq mt_5 238 (by decide +kernel)) mv_Tx_linesOf hL.2.1.2.2.2.2.1.2.1 rfl rfl (Nat.le_of_ble_eq_true rfl) (Nat.le_of_ble_eq_true rfl) (c_Tx_linesOf hL.2.1.2.2.2.2.1.2 (v1 - 9) μ1) (fun x15 μ14 => ?_)
                        exact J_iret (pc := 159) hX (by decide +kernel) rfl trivial
                      · refine J_ite _ (fun hc10 => ?_) (fun hc10 => ?_)
                        · refine J_tsIn (pc := 29) (dflt := 136) (lo := 0) (hi := 13) (offs := #[71, 76, 81, 86, 91, 96, 101, 106, 111, 116, 116, 116, 116, 131]) (len := 71) (off := 116) (tgt := 145) 10 hc10 hX (by decide +kernel) (by decide +kernel) (by decide +kernel) (by decide +kernel) (by decide +kernel) ?_
                          refine J_aload_n (k0 := 0) (pc := 145) 1 hX (by decide +kernel) rfl rfl ?_
                          refine J_gr (pc := 146) hX (by decide +kernel) fl_Sf_12 hL.1 rfl hL.2.1.1 ?_
                          refine J_gr (pc := 149) hX (by decide +kernel) fl_Sf_162 hL.2.1.2.1 rfl hL.2.1.2.2.2.2.1.1 ?_
                          refine J_iload_n (k0 := 1) (pc := 152) 2 hX (by decide +kernel) rfl rfl ?_
                          refine J_bipush (pc := 153) (n := 9) (v := 9) hX (by decide +kernel) (by decide +kernel) ?_
                          refine J_isub (pc := 155) hX (by decide +kernel) ?_
                          refine J_cVi (pc := 156) (idx := 384) [.int (v1 - 9)] hX (by decide +kernel) (mq mt_5 238 (by decide +kernel)) mv_Tx_linesOf hL.2.1.2.2.2.2.1.2.1 rfl rfl (Nat.le_of_ble_eq_true rfl) (Nat.le_of_ble_eq_true rfl) (c_Tx_linesOf hL.2.1.2.2.2.2.1.2 (v1 - 9) μ1) (fun x17 μ16 => ?_)
                          exact J_iret (pc := 159) hX (by decide +kernel) rfl trivial
                        · refine J_ite _ (fun hc11 => ?_) (fun hc11 => ?_)
                          · refine J_tsIn (pc := 29) (dflt := 136) (lo := 0) (hi := 13) (offs := #[71, 76, 81, 86, 91, 96, 101, 106, 111, 116, 116, 116, 116, 131]) (len := 71) (off := 116) (tgt := 145) 11 hc11 hX (by decide +kernel) (by decide +kernel) (by decide +kernel) (by decide +kernel) (by decide +kernel) ?_
                            refine J_aload_n (k0 := 0) (pc := 145) 1 hX (by decide +kernel) rfl rfl ?_
                            refine J_gr (pc := 146) hX (by decide +kernel) fl_Sf_12 hL.1 rfl hL.2.1.1 ?_
                            refine J_gr (pc := 149) hX (by decide +kernel) fl_Sf_162 hL.2.1.2.1 rfl hL.2.1.2.2.2.2.1.1 ?_
                            refine J_iload_n (k0 := 1) (pc := 152) 2 hX (by decide +kernel) rfl rfl ?_
                            refine J_bipush (pc := 153) (n := 9) (v := 9) hX (by decide +kernel) (by decide +kernel) ?_
                            refine J_isub (pc := 155) hX (by decide +kernel) ?_
                            refine J_cVi (pc := 156) (idx := 384) [.int (v1 - 9)] hX (by decide +kernel) (mq mt_5 238 (by decide +kernel)) mv_Tx_linesOf hL.2.1.2.2.2.2.1.2.1 rfl rfl (Nat.le_of_ble_eq_true rfl) (Nat.le_of_ble_eq_true rfl) (c_Tx_linesOf hL.2.1.2.2.2.2.1.2 (v1 - 9) μ1) (fun x19 μ18 => ?_)
                            exact J_iret (pc := 159) hX (by decide +kernel) rfl trivial
                          · refine J_ite _ (fun hc12 => ?_) (fun hc12 => ?_)
                            · refine J_tsIn (pc := 29) (dflt := 136) (lo := 0) (hi := 13) (offs := #[71, 76, 81, 86, 91, 96, 101, 106, 111, 116, 116, 116, 116, 131]) (len := 71) (off := 116) (tgt := 145) 12 hc12 hX (by decide +kernel) (by decide +kernel) (by decide +kernel) (by decide +kernel) (by decide +kernel) ?_
                              refine J_aload_n (k0 := 0) (pc := 145) 1 hX (by decide +kernel) rfl rfl ?_
                              refine J_gr (pc := 146) hX (by decide +kernel) fl_Sf_12 hL.1 rfl hL.2.1.1 ?_
                              refine J_gr (pc := 149) hX (by decide +kernel) fl_Sf_162 hL.2.1.2.1 rfl hL.2.1.2.2.2.2.1.1 ?_
                              refine J_iload_n (k0 := 1) (pc := 152) 2 hX (by decide +kernel) rfl rfl ?_
                              refine J_bipush (pc := 153) (n := 9) (v := 9) hX (by decide +kernel) (by decide +kernel) ?_
                              refine J_isub (pc := 155) hX (by decide +kernel) ?_
                              refine J_cVi (pc := 156) (idx := 384) [.int (v1 - 9)] hX (by decide +kernel) (mq mt_5 238 (by decide +kernel)) mv_Tx_linesOf hL.2.1.2.2.2.2.1.2.1 rfl rfl (Nat.le_of_ble_eq_true rfl) (Nat.le_of_ble_eq_true rfl) (c_Tx_linesOf hL.2.1.2.2.2.2.1.2 (v1 - 9) μ1) (fun x21 μ20 => ?_)
                              exact J_iret (pc := 159) hX (by decide +kernel) rfl trivial
                            · refine J_ite _ (fun hc13 => ?_) (fun hc13 => ?_)
                              · refine J_tsIn (pc := 29) (dflt := 136) (lo := 0) (hi := 13) (offs := #[71, 76, 81, 86, 91, 96, 101, 106, 111, 116, 116, 116, 116, 131]) (len := 71) (off := 131) (tgt := 160) 13 hc13 hX (by decide +kernel) (by decide +kernel) (by decide +kernel) (by decide +kernel) (by decide +kernel) ?_
                                refine J_aload_n (k0 := 0) (pc := 160) 1 hX (by decide +kernel) rfl rfl ?_
                                refine J_gF (pc := 161) hX (by decide +kernel) fl_Sf_359 hL.1 rfl (fun x22 => ?_)
                                exact J_iret (pc := 164) hX (by decide +kernel) rfl trivial
                              · refine J_tsOut (pc := 29) (dflt := 136) (lo := 0) (hi := 13) (offs := #[71, 76, 81, 86, 91, 96, 101, 106, 111, 116, 116, 116, 116, 131]) (len := 71) (tgt := 165) hX (by decide +kernel) (by simp only [i32_eq] at hc0 hc1 hc2 hc3 hc4 hc5 hc6 hc7 hc8 hc9 hc10 hc11 hc12 hc13; have q0 : ((0 : Int32)).toInt = 0 := (by decide +kernel) ; have q1 : ((1 : Int32)).toInt = 1 := (by decide +kernel) ; have q2 : ((2 : Int32)).toInt = 2 := (by decide +kernel) ; have q3 : ((3 : Int32)).toInt = 3 := (by decide +kernel) ; have q4 : ((4 : Int32)).toInt = 4 := (by decide +kernel) ; have q5 : ((5 : Int32)).toInt = 5 := (by decide +kernel) ; have q6 : ((6 : Int32)).toInt = 6 := (by decide +kernel) ; have q7 : ((7 : Int32)).toInt = 7 := (by decide +kernel) ; have q8 : ((8 : Int32)).toInt = 8 := (by decide +kernel) ; have q9 : ((9 : Int32)).toInt = 9 := (by decide +kernel) ; have q10 : ((10 : Int32)).toInt = 10 := (by decide +kernel) ; have q11 : ((11 : Int32)).toInt = 11 := (by decide +kernel) ; have q12 : ((12 : Int32)).toInt = 12 := (by decide +kernel) ; have q13 : ((13 : Int32)).toInt = 13 := (by decide +kernel); omega) (by decide +kernel) ?_
                                refine J_ldcw (pc := 165) (idx := 387) (v := (-100000)) hX (by decide +kernel) (mq mt_5 239 (by decide +kernel)) ?_
                                exact J_iret (pc := 168) hX (by decide +kernel) rfl trivial
  · refine J_aload_n (k0 := 2) (pc := 19) 0 hX (by decide +kernel) rfl rfl ?_
    refine J_iload_n (k0 := 1) (pc := 20) 2 hX (by decide +kernel) rfl rfl ?_
    refine J_bipush (pc := 21) (n := 20) (v := 20) hX (by decide +kernel) (by decide +kernel) ?_
    refine J_isub (pc := 23) hX (by decide +kernel) ?_
    refine J_cVi (pc := 24) (idx := 118) [.int (v1 - 20)] hX (by decide +kernel) (mq mt_2 181 (by decide +kernel)) mv_Fg_holder hL.2.1.2.2.1.2.1 rfl rfl (Nat.le_of_ble_eq_true rfl) (Nat.le_of_ble_eq_true rfl) (c_Fg_holder hL.2.1.2.2.1.2 (v1 - 20) μ1) (fun x24 μ23 => ?_)
    exact J_iret (pc := 27) hX (by decide +kernel) rfl trivial
set_option maxRecDepth 100000 in
set_option maxHeartbeats 4000000 in
theorem c_Sf_look {l : Launch} {G : Gx} {y : Ly} {a : Nat} (hL : LySf y a ) (v1 : Int32) (μ : Mu) : Cn l G ⟨"SaltFigures", "look", "(I)I"⟩ prog_1_method_43_code 3 (some .int) 3 [.ref (G.1 + a), .int v1] (μ, y) (emy y) rvI tpT (Sf_look a v1 μ) := cn_of (by decide +kernel) (Nat.le_of_ble_eq_true rfl) (fun _ _ _ => ⟨List.prefix_refl _, trivial⟩) (fun X hX _ => jSf_look hL hX v1 μ)

def Fg_isPerson (a : Nat) (v1 : Int32) (μ : Mu) : Option (Int32 × Mu) := (if v1 < 0 then some (0, μ) else gF μ a 3 (fun x1 => (if x1 ≤ v1 then some (0, μ) else some (1, μ))))
set_option maxRecDepth 100000 in
set_option maxHeartbeats 4000000 in
theorem jFg_isPerson {X : Cx} {l : Launch} {G : Gx} {y : Ly} {a : Nat} (hL : LyFg y a ) (hX : Ok X l G prog_3_method_4_code 2 (some .boolean) "SaltFigures$Figures") (v1 : Int32) (μ : Mu) : J X G 2 1 y (emy y) rvI tpT 0 [(0, .ref (G.1 + a)), (1, .int v1)] [] (μ, y) (Fg_isPerson a v1 μ) := by
  unfold Fg_isPerson
  refine J_iload_n (k0 := 1) (pc := 0) 1 hX (by decide +kernel) rfl rfl ?_
  refine J_if_lt (pc := 1) (off := 15) (tgt := 16) hX (by decide +kernel) (by decide +kernel) (fun _ => ?_) (fun _ => ?_)
  · refine J_iconst (pc := 16) (n := 0) (v := 0) hX (by decide +kernel) (by decide +kernel) ?_
    exact J_zret (pc := 17) hX (by decide +kernel) rfl (by decide +kernel) trivial
  · refine J_iload_n (k0 := 1) (pc := 4) 1 hX (by decide +kernel) rfl rfl ?_
    refine J_aload_n (k0 := 0) (pc := 5) 0 hX (by decide +kernel) rfl rfl ?_
    refine J_gF (pc := 6) hX (by decide +kernel) fl_Fg_34 hL.1 rfl (fun x1 => ?_)
    refine J_icmp_ge (pc := 9) (off := 7) (tgt := 16) hX (by decide +kernel) (by decide +kernel) (fun _ => ?_) (fun _ => ?_)
    · refine J_iconst (pc := 16) (n := 0) (v := 0) hX (by decide +kernel) (by decide +kernel) ?_
      exact J_zret (pc := 17) hX (by decide +kernel) rfl (by decide +kernel) trivial
    · refine J_iconst (pc := 12) (n := 1) (v := 1) hX (by decide +kernel) (by decide +kernel) ?_
      refine J_goto (pc := 13) (off := 4) (tgt := 17) hX (by decide +kernel) (by decide +kernel) ?_
      exact J_zret (pc := 17) hX (by decide +kernel) rfl (by decide +kernel) trivial
set_option maxRecDepth 100000 in
set_option maxHeartbeats 4000000 in
theorem c_Fg_isPerson {l : Launch} {G : Gx} {y : Ly} {a : Nat} (hL : LyFg y a ) (v1 : Int32) (μ : Mu) : Cn l G ⟨"SaltFigures$Figures", "isPerson", "(I)Z"⟩ prog_3_method_4_code 2 (some .boolean) 1 [.ref (G.1 + a), .int v1] (μ, y) (emy y) rvI tpT (Fg_isPerson a v1 μ) := cn_of (by decide +kernel) (Nat.le_of_ble_eq_true rfl) (fun _ _ _ => ⟨List.prefix_refl _, trivial⟩) (fun X hX _ => jFg_isPerson hL hX v1 μ)
