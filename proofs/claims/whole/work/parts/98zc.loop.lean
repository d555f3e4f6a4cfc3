/-! L3: THE LAW'S LOOP -/
def EndQ (r : Int32) (_ : Mu) (y : Ly) : Prop := r = 1 ∧ mmN y ≤ 600000 ∧ mmS y ≤ 7302250
theorem eva_ite {ρ : Type} {c : Prop} {d : Decidable c} {A B : Option (ρ × Mm)} {Q : ρ → Mu → Ly → Prop} (h1 : c → EvA A Q) (h2 : ¬ c → EvA B Q) : EvA (@ite _ c d A B) Q := by
  by_cases h : c
  · rw [if_pos h]; exact h1 h
  · rw [if_neg h]; exact h2 h
theorem eva_eq {ρ : Type} {r : Int32} {A B : Option (ρ × Mm)} {Q : ρ → Mu → Ly → Prop} (h : EvA A Q) : EvA (if r = r then A else B) Q := by
  rw [if_pos rfl]; exact h
theorem ld_at {ρ : Type} {xs : Nat → Int32} {Ln k j : Nat} {v : Int32} {f : Int32 → Option (ρ × Mm)} {Q : ρ → Mu → Ly → Prop} (hv : v = nI j) (hj : 6 * k + j < Ln) (hL : Ln ≤ 3072) (h : EvA (f (xs (6 * k + j))) Q) : EvA (ldS xs Ln (nI (6 * k) + v) f) Q := by
  have h1 : inB (nI (6 * k + j)) Ln = true := by
    unfold inB
    rw [nI_clamp (by omega)]
    simp only [Bool.not_eq_true', Bool.or_eq_false_iff, decide_eq_false_iff_not]
    exact ⟨nI_pos (by omega), by omega⟩
  unfold ldS
  rw [hv, nI_add, if_pos h1, nI_clamp (by omega)]; exact h
theorem ld_0 {ρ : Type} {xs : Nat → Int32} {Ln k : Nat} {f : Int32 → Option (ρ × Mm)} {Q : ρ → Mu → Ly → Prop} (hj : 6 * k < Ln) (hL : Ln ≤ 3072) (h : EvA (f (xs (6 * k))) Q) : EvA (ldS xs Ln (nI (6 * k)) f) Q := by
  have h1 : inB (nI (6 * k)) Ln = true := by
    unfold inB
    rw [nI_clamp (by omega)]
    simp only [Bool.not_eq_true', Bool.or_eq_false_iff, decide_eq_false_iff_not]
    exact ⟨nI_pos (by omega), by omega⟩
  unfold ldS
  rw [if_pos h1, nI_clamp (by omega)]; exact h
set_option maxHeartbeats 4000000 in
set_option maxRecDepth 100000 in
theorem lx_body {b Ln k : Nat} {xs : Nat → Int32} {A : Int32 → Mu → Ly → Option (Int32 × Mm)} {μ : Mu} {y : Ly} {z : Zt} (hL : Ln ≤ 3072) (hk : 6 * k + 6 ≤ Ln) (hR : Rep μ y z) (hN : mmN y ≤ 99 + 220 * k) (hS : mmS y ≤ 20000 + 9000 * k) (ih : ∀ μ2 y2 z2, Rep μ2 y2 z2 → mmN y2 ≤ 99 + 220 * (k + 1) → mmS y2 ≤ 20000 + 9000 * (k + 1) → EvA (A (nI (6 * (k + 1))) μ2 y2) EndQ) : EvA (Lx_law_18b b Ln xs 0 59 A (nI (6 * k)) μ y) EndQ := by
  have fin : ∀ μ2 y2 z2, Rep μ2 y2 z2 → mmN y2 ≤ mmN y + 220 → mmS y2 ≤ mmS y + 9000 → EvA (Lx_law_1424 b Ln xs 0 59 A (nI (6 * k)) μ2 y2) EndQ := by
    intro μ2 y2 z2 h1 h2 h3
    unfold Lx_law_1424
    rw [show nI (6 * k) + 6 = nI (6 * (k + 1)) by rw [show (6 : Int32) = nI 6 from rfl, nI_add]; congr 1]
    exact ih μ2 y2 z2 h1 (by omega) (by omega)
  have n0 : mmN y ≤ mmN y + 220 := by omega
  have s0 : mmS y ≤ mmS y + 9000 := by omega
  have hSf := hR.2.2.2.1
  have hMo := hR.2.2.2.2.1
  have h6 : ¬ (Int32.ofNat Ln - 6) < nI (6 * k) := by
    show ¬ (nI Ln - nI 6) < nI (6 * k)
    rw [fa_lt, pk_sub_toInt (by omega) (by omega), nI_toInt (by omega)]
    omega
  unfold Lx_law_18b
  rw [if_neg h6]
  refine ld_0 (by omega) hL ?_
  refine eva_ite (fun _ => ?_) (fun _ => ?_)
  · refine ld_at (j := 1) (by rfl) (by omega) hL ?_
    obtain ⟨r, μ1, μ2, z', e1, e2, h'⟩ := sn_state (xs (6 * k + 1)) μ y z hR
    refine eva_ckP hSf (eva_cl ⟨_, _, e1, ?_⟩)
    refine ld_at (j := 1) (by rfl) (by omega) hL ?_
    refine eva_ckP hMo (eva_cl ⟨_, _, e2, ?_⟩)
    exact eva_eq (fin μ2 y z' h' n0 s0)
  refine eva_ite (fun _ => ?_) (fun _ => ?_)
  · refine ld_at (j := 1) (by rfl) (by omega) hL ?_
    obtain ⟨r, μ1, μ2, z', e1, e2, h'⟩ := sn_person (xs (6 * k + 1)) μ y z hR
    refine eva_ckP hSf (eva_cl ⟨_, _, e1, ?_⟩)
    refine ld_at (j := 1) (by rfl) (by omega) hL ?_
    refine eva_ckP hMo (eva_cl ⟨_, _, e2, ?_⟩)
    exact eva_eq (fin μ2 y z' h' n0 s0)
  refine eva_ite (fun _ => ?_) (fun _ => ?_)
  · refine ld_at (j := 1) (by rfl) (by omega) hL ?_
    refine ld_at (j := 2) (by rfl) (by omega) hL ?_
    refine ld_at (j := 3) (by rfl) (by omega) hL ?_
    obtain ⟨r, μ1, μ2, z', e1, e2, h'⟩ := sn_set (xs (6 * k + 1)) (xs (6 * k + 2)) (xs (6 * k + 3)) μ y z hR
    refine eva_ckP hSf (eva_cl ⟨_, _, e1, ?_⟩)
    refine ld_at (j := 1) (by rfl) (by omega) hL ?_
    refine ld_at (j := 2) (by rfl) (by omega) hL ?_
    refine ld_at (j := 3) (by rfl) (by omega) hL ?_
    refine eva_ckP hMo (eva_cl ⟨_, _, e2, ?_⟩)
    exact eva_eq (fin μ2 y z' h' n0 s0)
  refine eva_ite (fun _ => ?_) (fun _ => ?_)
  · refine ld_at (j := 1) (by rfl) (by omega) hL ?_
    refine ld_at (j := 2) (by rfl) (by omega) hL ?_
    refine ld_at (j := 3) (by rfl) (by omega) hL ?_
    obtain ⟨r, μ1, y1, μ2, z', e1, p1, n1, s1, e2, h'⟩ := sa_act (xs (6 * k + 1)) (xs (6 * k + 2)) (xs (6 * k + 3)) μ y z hR
    refine eva_ckP hSf.1 (eva_clm ⟨_, _, _, e1, p1, ?_⟩)
    refine ld_at (j := 1) (by rfl) (by omega) hL ?_
    refine ld_at (j := 2) (by rfl) (by omega) hL ?_
    refine ld_at (j := 3) (by rfl) (by omega) hL ?_
    refine eva_ckP h'.2.2.2.2.1 (eva_cl ⟨_, _, e2, ?_⟩)
    exact eva_eq (fin μ2 y1 z' h' n1 s1)
  refine eva_ite (fun _ => ?_) (fun _ => ?_)
  · refine ld_at (j := 1) (by rfl) (by omega) hL ?_
    obtain ⟨r, μ1, y1, μ2, z', e1, p1, n1, s1, e2, h'⟩ := sa_days (xs (6 * k + 1)) μ y z hR
    refine eva_ckP hSf.1 (eva_clm ⟨_, _, _, e1, p1, ?_⟩)
    refine ld_at (j := 1) (by rfl) (by omega) hL ?_
    refine eva_ckP h'.2.2.2.2.1 (eva_cl ⟨_, _, e2, ?_⟩)
    exact eva_eq (fin μ2 y1 z' h' n1 s1)
  refine eva_ite (fun _ => ?_) (fun _ => ?_)
  · refine ld_at (j := 1) (by rfl) (by omega) hL ?_
    refine ld_at (j := 2) (by rfl) (by omega) hL ?_
    refine ld_at (j := 3) (by rfl) (by omega) hL ?_
    refine ld_at (j := 4) (by rfl) (by omega) hL ?_
    refine ld_at (j := 5) (by rfl) (by omega) hL ?_
    obtain ⟨r, μ1, μ2, z', e1, e2, h'⟩ := sn_feed (xs (6 * k + 1)) (xs (6 * k + 2)) (xs (6 * k + 3)) (xs (6 * k + 4)) (xs (6 * k + 5)) μ y z hR
    refine eva_ckP hSf (eva_cl ⟨_, _, e1, ?_⟩)
    refine ld_at (j := 1) (by rfl) (by omega) hL ?_
    refine ld_at (j := 2) (by rfl) (by omega) hL ?_
    refine ld_at (j := 3) (by rfl) (by omega) hL ?_
    refine ld_at (j := 4) (by rfl) (by omega) hL ?_
    refine ld_at (j := 5) (by rfl) (by omega) hL ?_
    refine eva_ckP hMo (eva_cl ⟨_, _, e2, ?_⟩)
    exact eva_eq (fin μ2 y z' h' n0 s0)
  refine eva_ite (fun _ => ?_) (fun _ => ?_)
  · refine ld_at (j := 1) (by rfl) (by omega) hL ?_
    obtain ⟨r, μ1, μ2, z', e1, e2, h'⟩ := sn_end (xs (6 * k + 1)) μ y z hR
    refine eva_ckP hSf (eva_cl ⟨_, _, e1, ?_⟩)
    refine ld_at (j := 1) (by rfl) (by omega) hL ?_
    refine eva_ckP hMo (eva_cl ⟨_, _, e2, ?_⟩)
    exact eva_eq (fin μ2 y z' h' n0 s0)
  refine eva_ite (fun _ => ?_) (fun _ => ?_)
  · refine ld_at (j := 1) (by rfl) (by omega) hL ?_
    obtain ⟨r, μ1, μ2, z', e1, e2, h'⟩ := sn_text (xs (6 * k + 1)) μ y z hR
    refine eva_ckP hSf (eva_cl ⟨_, _, e1, ?_⟩)
    refine ld_at (j := 1) (by rfl) (by omega) hL ?_
    refine eva_ckP hMo (eva_cl ⟨_, _, e2, ?_⟩)
    exact eva_eq (fin μ2 y z' h' n0 s0)
  refine eva_ite (fun _ => ?_) (fun _ => ?_)
  · refine ld_at (j := 1) (by rfl) (by omega) hL ?_
    obtain ⟨r, μ1, μ2, z', e1, e2, h'⟩ := sn_fault (xs (6 * k + 1)) μ y z hR
    refine eva_ckP hSf (eva_cl ⟨_, _, e1, ?_⟩)
    refine ld_at (j := 1) (by rfl) (by omega) hL ?_
    refine eva_ckP hMo (eva_cl ⟨_, _, e2, ?_⟩)
    exact eva_eq (fin μ2 y z' h' n0 s0)
  refine eva_ite (fun _ => ?_) (fun _ => ?_)
  · refine ld_at (j := 1) (by rfl) (by omega) hL ?_
    refine ld_at (j := 2) (by rfl) (by omega) hL ?_
    obtain ⟨r, μ1, μ2, z', e1, e2, h'⟩ := sn_of (xs (6 * k + 1)) (xs (6 * k + 2)) μ y z hR
    refine eva_ckP hSf (eva_cl ⟨_, _, e1, ?_⟩)
    refine ld_at (j := 1) (by rfl) (by omega) hL ?_
    refine ld_at (j := 2) (by rfl) (by omega) hL ?_
    refine eva_ckP hMo (eva_cl ⟨_, _, e2, ?_⟩)
    exact eva_eq (fin μ2 y z' h' n0 s0)
  refine eva_ite (fun _ => ?_) (fun _ => ?_)
  · refine ld_at (j := 1) (by rfl) (by omega) hL ?_
    refine ld_at (j := 2) (by rfl) (by omega) hL ?_
    obtain ⟨r, μ1, μ2, z', e1, e2, h'⟩ := sn_book (xs (6 * k + 1)) (xs (6 * k + 2)) μ y z hR
    refine eva_ckP hSf (eva_cl ⟨_, _, e1, ?_⟩)
    refine ld_at (j := 1) (by rfl) (by omega) hL ?_
    refine ld_at (j := 2) (by rfl) (by omega) hL ?_
    refine eva_ckP hMo (eva_cl ⟨_, _, e2, ?_⟩)
    exact eva_eq (fin μ2 y z' h' n0 s0)
  refine eva_ite (fun _ => ?_) (fun _ => ?_)
  · refine ld_at (j := 1) (by rfl) (by omega) hL ?_
    refine ld_at (j := 2) (by rfl) (by omega) hL ?_
    obtain ⟨r, μ1, μ2, z', e1, e2, h'⟩ := sn_goes (xs (6 * k + 1)) (xs (6 * k + 2)) μ y z hR
    refine eva_ckP hSf (eva_cl ⟨_, _, e1, ?_⟩)
    refine ld_at (j := 1) (by rfl) (by omega) hL ?_
    refine ld_at (j := 2) (by rfl) (by omega) hL ?_
    refine eva_ckP hMo (eva_cl ⟨_, _, e2, ?_⟩)
    exact eva_eq (fin μ2 y z' h' n0 s0)
  refine eva_ite (fun _ => ?_) (fun _ => ?_)
  · refine ld_at (j := 1) (by rfl) (by omega) hL ?_
    refine ld_at (j := 2) (by rfl) (by omega) hL ?_
    obtain ⟨r, μ1, μ2, z', e1, e2, h'⟩ := sn_high (xs (6 * k + 1)) (xs (6 * k + 2)) μ y z hR
    refine eva_ckP hSf (eva_cl ⟨_, _, e1, ?_⟩)
    refine ld_at (j := 1) (by rfl) (by omega) hL ?_
    refine ld_at (j := 2) (by rfl) (by omega) hL ?_
    refine eva_ckP hMo (eva_cl ⟨_, _, e2, ?_⟩)
    exact eva_eq (fin μ2 y z' h' n0 s0)
  refine eva_ite (fun _ => ?_) (fun _ => ?_)
  · refine ld_at (j := 1) (by rfl) (by omega) hL ?_
    obtain ⟨r, μ1, μ2, z', e1, e2, h'⟩ := sn_door (xs (6 * k + 1)) μ y z hR
    refine eva_ckP hSf (eva_cl ⟨_, _, e1, ?_⟩)
    refine ld_at (j := 1) (by rfl) (by omega) hL ?_
    refine eva_ckP hMo (eva_cl ⟨_, _, e2, ?_⟩)
    exact eva_eq (fin μ2 y z' h' n0 s0)
  refine eva_ite (fun _ => ?_) (fun _ => ?_)
  · refine ld_at (j := 1) (by rfl) (by omega) hL ?_
    refine ld_at (j := 2) (by rfl) (by omega) hL ?_
    refine ld_at (j := 3) (by rfl) (by omega) hL ?_
    obtain ⟨r, μ1, μ2, z', e1, e2, h'⟩ := sn_date (xs (6 * k + 1)) (xs (6 * k + 2)) (xs (6 * k + 3)) μ y z hR
    refine eva_ckP hSf (eva_cl ⟨_, _, e1, ?_⟩)
    refine ld_at (j := 1) (by rfl) (by omega) hL ?_
    refine ld_at (j := 2) (by rfl) (by omega) hL ?_
    refine ld_at (j := 3) (by rfl) (by omega) hL ?_
    refine eva_ckP hMo (eva_cl ⟨_, _, e2, ?_⟩)
    exact eva_eq (fin μ2 y z' h' n0 s0)
  refine eva_ite (fun _ => ?_) (fun _ => ?_)
  · refine ld_at (j := 1) (by rfl) (by omega) hL ?_
    refine ld_at (j := 2) (by rfl) (by omega) hL ?_
    refine ld_at (j := 3) (by rfl) (by omega) hL ?_
    refine ld_at (j := 4) (by rfl) (by omega) hL ?_
    obtain ⟨r, μ1, μ2, z', e1, e2, h'⟩ := sn_week (xs (6 * k + 1)) (xs (6 * k + 2)) (xs (6 * k + 3)) (xs (6 * k + 4)) μ y z hR
    refine eva_ckP hSf (eva_cl ⟨_, _, e1, ?_⟩)
    refine ld_at (j := 1) (by rfl) (by omega) hL ?_
    refine ld_at (j := 2) (by rfl) (by omega) hL ?_
    refine ld_at (j := 3) (by rfl) (by omega) hL ?_
    refine ld_at (j := 4) (by rfl) (by omega) hL ?_
    refine eva_ckP hMo (eva_cl ⟨_, _, e2, ?_⟩)
    exact eva_eq (fin μ2 y z' h' n0 s0)
  refine eva_ite (fun _ => ?_) (fun _ => ?_)
  · refine ld_at (j := 1) (by rfl) (by omega) hL ?_
    refine ld_at (j := 2) (by rfl) (by omega) hL ?_
    obtain ⟨r, μ1, μ2, z', e1, e2, h'⟩ := sn_point (xs (6 * k + 1)) (xs (6 * k + 2)) μ y z hR
    refine eva_ckP hSf (eva_cl ⟨_, _, e1, ?_⟩)
    refine ld_at (j := 1) (by rfl) (by omega) hL ?_
    refine ld_at (j := 2) (by rfl) (by omega) hL ?_
    refine eva_ckP hMo (eva_cl ⟨_, _, e2, ?_⟩)
    exact eva_eq (fin μ2 y z' h' n0 s0)
  refine eva_ite (fun _ => ?_) (fun _ => ?_)
  · refine ld_at (j := 1) (by rfl) (by omega) hL ?_
    refine ld_at (j := 2) (by rfl) (by omega) hL ?_
    refine ld_at (j := 3) (by rfl) (by omega) hL ?_
    obtain ⟨r, μ1, μ2, z', e1, e2, h'⟩ := sn_side (xs (6 * k + 1)) (xs (6 * k + 2)) (xs (6 * k + 3)) μ y z hR
    refine eva_ckP hSf (eva_cl ⟨_, _, e1, ?_⟩)
    refine ld_at (j := 1) (by rfl) (by omega) hL ?_
    refine ld_at (j := 2) (by rfl) (by omega) hL ?_
    refine ld_at (j := 3) (by rfl) (by omega) hL ?_
    refine eva_ckP hMo (eva_cl ⟨_, _, e2, ?_⟩)
    exact eva_eq (fin μ2 y z' h' n0 s0)
  refine eva_ite (fun _ => ?_) (fun _ => ?_)
  · refine ld_at (j := 1) (by rfl) (by omega) hL ?_
    obtain ⟨r, μ1, μ2, z', e1, e2, h'⟩ := sn_hull (xs (6 * k + 1)) μ y z hR
    refine eva_ckP hSf (eva_cl ⟨_, _, e1, ?_⟩)
    refine ld_at (j := 1) (by rfl) (by omega) hL ?_
    refine eva_ckP hMo (eva_cl ⟨_, _, e2, ?_⟩)
    exact eva_eq (fin μ2 y z' h' n0 s0)
  refine eva_ite (fun _ => ?_) (fun _ => ?_)
  · refine ld_at (j := 1) (by rfl) (by omega) hL ?_
    refine ld_at (j := 2) (by rfl) (by omega) hL ?_
    obtain ⟨r, μ1, μ2, z', e1, e2, h'⟩ := sn_turned (xs (6 * k + 1)) (xs (6 * k + 2)) μ y z hR
    refine eva_ckP hSf (eva_cl ⟨_, _, e1, ?_⟩)
    refine ld_at (j := 1) (by rfl) (by omega) hL ?_
    refine ld_at (j := 2) (by rfl) (by omega) hL ?_
    refine eva_ckP hMo (eva_cl ⟨_, _, e2, ?_⟩)
    exact eva_eq (fin μ2 y z' h' n0 s0)
  refine eva_ite (fun _ => ?_) (fun _ => ?_)
  · refine ld_at (j := 1) (by rfl) (by omega) hL ?_
    obtain ⟨r, μ1, μ2, z', e1, e2, h'⟩ := sn_weight (xs (6 * k + 1)) μ y z hR
    refine eva_ckP hSf (eva_cl ⟨_, _, e1, ?_⟩)
    refine ld_at (j := 1) (by rfl) (by omega) hL ?_
    refine eva_ckP hMo (eva_cl ⟨_, _, e2, ?_⟩)
    exact eva_eq (fin μ2 y z' h' n0 s0)
  refine eva_ite (fun _ => ?_) (fun _ => ?_)
  · refine ld_at (j := 1) (by rfl) (by omega) hL ?_
    obtain ⟨r, μ1, μ2, z', e1, e2, h'⟩ := sn_weighs (xs (6 * k + 1)) μ y z hR
    refine eva_ckP hSf (eva_cl ⟨_, _, e1, ?_⟩)
    refine ld_at (j := 1) (by rfl) (by omega) hL ?_
    refine eva_ckP hMo (eva_cl ⟨_, _, e2, ?_⟩)
    exact eva_eq (fin μ2 y z' h' n0 s0)
  refine eva_ite (fun _ => ?_) (fun _ => ?_)
  · refine ld_at (j := 1) (by rfl) (by omega) hL ?_
    refine ld_at (j := 2) (by rfl) (by omega) hL ?_
    obtain ⟨r, μ1, μ2, z', e1, e2, h'⟩ := sn_coins (xs (6 * k + 1)) (xs (6 * k + 2)) μ y z hR
    refine eva_ckP hSf (eva_cl ⟨_, _, e1, ?_⟩)
    refine ld_at (j := 1) (by rfl) (by omega) hL ?_
    refine ld_at (j := 2) (by rfl) (by omega) hL ?_
    refine eva_ckP hMo (eva_cl ⟨_, _, e2, ?_⟩)
    exact eva_eq (fin μ2 y z' h' n0 s0)
  refine eva_ite (fun _ => ?_) (fun _ => ?_)
  · refine ld_at (j := 1) (by rfl) (by omega) hL ?_
    obtain ⟨r, μ1, μ2, z', e1, e2, h'⟩ := sn_slabs (xs (6 * k + 1)) μ y z hR
    refine eva_ckP hSf (eva_cl ⟨_, _, e1, ?_⟩)
    refine ld_at (j := 1) (by rfl) (by omega) hL ?_
    refine eva_ckP hMo (eva_cl ⟨_, _, e2, ?_⟩)
    exact eva_eq (fin μ2 y z' h' n0 s0)
  refine eva_ite (fun _ => ?_) (fun _ => ?_)
  · refine ld_at (j := 1) (by rfl) (by omega) hL ?_
    refine ld_at (j := 2) (by rfl) (by omega) hL ?_
    obtain ⟨r, μ1, μ2, z', e1, e2, h'⟩ := sn_row (xs (6 * k + 1)) (xs (6 * k + 2)) μ y z hR
    refine eva_ckP hSf (eva_cl ⟨_, _, e1, ?_⟩)
    refine ld_at (j := 1) (by rfl) (by omega) hL ?_
    refine ld_at (j := 2) (by rfl) (by omega) hL ?_
    refine eva_ckP hMo (eva_cl ⟨_, _, e2, ?_⟩)
    exact eva_eq (fin μ2 y z' h' n0 s0)
  refine eva_ite (fun _ => ?_) (fun _ => ?_)
  · refine ld_at (j := 1) (by rfl) (by omega) hL ?_
    obtain ⟨r, μ1, μ2, z', e1, e2, h'⟩ := sn_shadow (xs (6 * k + 1)) μ y z hR
    refine eva_ckP hSf (eva_cl ⟨_, _, e1, ?_⟩)
    refine ld_at (j := 1) (by rfl) (by omega) hL ?_
    refine eva_ckP hMo (eva_cl ⟨_, _, e2, ?_⟩)
    exact eva_eq (fin μ2 y z' h' n0 s0)
  refine eva_ite (fun _ => ?_) (fun _ => ?_)
  · refine ld_at (j := 1) (by rfl) (by omega) hL ?_
    obtain ⟨r, μ1, μ2, z', e1, e2, h'⟩ := sn_drip (xs (6 * k + 1)) μ y z hR
    refine eva_ckP hSf (eva_cl ⟨_, _, e1, ?_⟩)
    refine ld_at (j := 1) (by rfl) (by omega) hL ?_
    refine eva_ckP hMo (eva_cl ⟨_, _, e2, ?_⟩)
    exact eva_eq (fin μ2 y z' h' n0 s0)
  refine eva_ite (fun _ => ?_) (fun _ => ?_)
  · refine ld_at (j := 1) (by rfl) (by omega) hL ?_
    obtain ⟨r, μ1, μ2, z', e1, e2, h'⟩ := sn_drips (xs (6 * k + 1)) μ y z hR
    refine eva_ckP hSf (eva_cl ⟨_, _, e1, ?_⟩)
    refine ld_at (j := 1) (by rfl) (by omega) hL ?_
    refine eva_ckP hMo (eva_cl ⟨_, _, e2, ?_⟩)
    exact eva_eq (fin μ2 y z' h' n0 s0)
  refine eva_ite (fun _ => ?_) (fun _ => ?_)
  · refine ld_at (j := 1) (by rfl) (by omega) hL ?_
    obtain ⟨r, μ1, μ2, z', e1, e2, h'⟩ := sn_told (xs (6 * k + 1)) μ y z hR
    refine eva_ckP hSf (eva_cl ⟨_, _, e1, ?_⟩)
    refine ld_at (j := 1) (by rfl) (by omega) hL ?_
    refine eva_ckP hMo (eva_cl ⟨_, _, e2, ?_⟩)
    exact eva_eq (fin μ2 y z' h' n0 s0)
  refine eva_ite (fun _ => ?_) (fun _ => ?_)
  · refine ld_at (j := 1) (by rfl) (by omega) hL ?_
    refine ld_at (j := 2) (by rfl) (by omega) hL ?_
    obtain ⟨r, μ1, μ2, z', e1, e2, h'⟩ := sn_switches (xs (6 * k + 1)) (xs (6 * k + 2)) μ y z hR
    refine eva_ckP hSf (eva_cl ⟨_, _, e1, ?_⟩)
    refine ld_at (j := 1) (by rfl) (by omega) hL ?_
    refine ld_at (j := 2) (by rfl) (by omega) hL ?_
    refine eva_ckP hMo (eva_cl ⟨_, _, e2, ?_⟩)
    exact eva_eq (fin μ2 y z' h' n0 s0)
  refine eva_ite (fun _ => ?_) (fun _ => ?_)
  · refine ld_at (j := 1) (by rfl) (by omega) hL ?_
    obtain ⟨r, μ1, μ2, z', e1, e2, h'⟩ := sn_stage (xs (6 * k + 1)) μ y z hR
    refine eva_ckP hSf (eva_cl ⟨_, _, e1, ?_⟩)
    refine ld_at (j := 1) (by rfl) (by omega) hL ?_
    refine eva_ckP hMo (eva_cl ⟨_, _, e2, ?_⟩)
    exact eva_eq (fin μ2 y z' h' n0 s0)
  refine eva_ite (fun _ => ?_) (fun _ => ?_)
  · refine ld_at (j := 1) (by rfl) (by omega) hL ?_
    refine ld_at (j := 2) (by rfl) (by omega) hL ?_
    obtain ⟨r, μ1, μ2, z', e1, e2, h'⟩ := sn_voyage (xs (6 * k + 1)) (xs (6 * k + 2)) μ y z hR
    refine eva_ckP hSf (eva_cl ⟨_, _, e1, ?_⟩)
    refine ld_at (j := 1) (by rfl) (by omega) hL ?_
    refine ld_at (j := 2) (by rfl) (by omega) hL ?_
    refine eva_ckP hMo (eva_cl ⟨_, _, e2, ?_⟩)
    exact eva_eq (fin μ2 y z' h' n0 s0)
  refine eva_ite (fun _ => ?_) (fun _ => ?_)
  · refine ld_at (j := 1) (by rfl) (by omega) hL ?_
    refine ld_at (j := 2) (by rfl) (by omega) hL ?_
    obtain ⟨r, μ1, μ2, z', e1, e2, h'⟩ := sn_post (xs (6 * k + 1)) (xs (6 * k + 2)) μ y z hR
    refine eva_ckP hSf (eva_cl ⟨_, _, e1, ?_⟩)
    refine ld_at (j := 1) (by rfl) (by omega) hL ?_
    refine ld_at (j := 2) (by rfl) (by omega) hL ?_
    refine eva_ckP hMo (eva_cl ⟨_, _, e2, ?_⟩)
    exact eva_eq (fin μ2 y z' h' n0 s0)
  refine eva_ite (fun _ => ?_) (fun _ => ?_)
  · refine ld_at (j := 1) (by rfl) (by omega) hL ?_
    refine ld_at (j := 2) (by rfl) (by omega) hL ?_
    refine ld_at (j := 3) (by rfl) (by omega) hL ?_
    obtain ⟨r, μ1, μ2, z', e1, e2, h'⟩ := sn_light (xs (6 * k + 1)) (xs (6 * k + 2)) (xs (6 * k + 3)) μ y z hR
    refine eva_ckP hSf (eva_cl ⟨_, _, e1, ?_⟩)
    refine ld_at (j := 1) (by rfl) (by omega) hL ?_
    refine ld_at (j := 2) (by rfl) (by omega) hL ?_
    refine ld_at (j := 3) (by rfl) (by omega) hL ?_
    refine eva_ckP hMo (eva_cl ⟨_, _, e2, ?_⟩)
    exact eva_eq (fin μ2 y z' h' n0 s0)
  refine eva_ite (fun _ => ?_) (fun _ => ?_)
  · refine ld_at (j := 1) (by rfl) (by omega) hL ?_
    obtain ⟨r, μ1, μ2, z', e1, e2, h'⟩ := sn_heap (xs (6 * k + 1)) μ y z hR
    refine eva_ckP hSf (eva_cl ⟨_, _, e1, ?_⟩)
    refine ld_at (j := 1) (by rfl) (by omega) hL ?_
    refine eva_ckP hMo (eva_cl ⟨_, _, e2, ?_⟩)
    exact eva_eq (fin μ2 y z' h' n0 s0)
  refine eva_ite (fun _ => ?_) (fun _ => ?_)
  · refine ld_at (j := 1) (by rfl) (by omega) hL ?_
    obtain ⟨r, μ1, μ2, z', e1, e2, h'⟩ := sn_heaped (xs (6 * k + 1)) μ y z hR
    refine eva_ckP hSf (eva_cl ⟨_, _, e1, ?_⟩)
    refine ld_at (j := 1) (by rfl) (by omega) hL ?_
    refine eva_ckP hMo (eva_cl ⟨_, _, e2, ?_⟩)
    exact eva_eq (fin μ2 y z' h' n0 s0)
  refine eva_ite (fun _ => ?_) (fun _ => ?_)
  · refine ld_at (j := 1) (by rfl) (by omega) hL ?_
    refine ld_at (j := 2) (by rfl) (by omega) hL ?_
    obtain ⟨r, μ1, μ2, z', e1, e2, h'⟩ := sn_game (xs (6 * k + 1)) (xs (6 * k + 2)) μ y z hR
    refine eva_ckP hSf (eva_cl ⟨_, _, e1, ?_⟩)
    refine ld_at (j := 1) (by rfl) (by omega) hL ?_
    refine ld_at (j := 2) (by rfl) (by omega) hL ?_
    refine eva_ckP hMo (eva_cl ⟨_, _, e2, ?_⟩)
    exact eva_eq (fin μ2 y z' h' n0 s0)
  refine eva_ite (fun _ => ?_) (fun _ => ?_)
  · obtain ⟨r, μ1, y1, μ2, z', e1, p1, n1, s1, e2, h'⟩ := sa_undo μ y z hR
    refine eva_ckP hSf.1 (eva_clm ⟨_, _, _, e1, p1, ?_⟩)
    refine eva_ckP h'.2.2.2.2.1 (eva_cl ⟨_, _, e2, ?_⟩)
    exact eva_eq (fin μ2 y1 z' h' n1 s1)
  refine eva_ite (fun _ => ?_) (fun _ => ?_)
  · refine ld_at (j := 1) (by rfl) (by omega) hL ?_
    unfold Lx_law_1376 Lx_law_1393
    refine eva_ite (fun hx => ?_) (fun hx => ?_)
    · obtain ⟨r, μ1, y1, μ2, z', e1, p1, n1, s1, e2, h'⟩ := sa_image0 μ y z hR
      refine eva_ckP hSf.1 (eva_clm ⟨_, _, _, e1, p1, ld_at (j := 1) (by rfl) (by omega) hL ?_⟩)
      rw [if_pos hx]
      refine eva_ckP h'.2.2.2.2.1 (eva_cl ⟨_, _, e2, ?_⟩)
      exact eva_eq (fin μ2 y1 z' h' n1 s1)
    · obtain ⟨r, μ1, y1, μ2, z', e1, p1, n1, s1, e2, h'⟩ := sa_image1 μ y z hR
      refine eva_ckP hSf.1 (eva_clm ⟨_, _, _, e1, p1, ld_at (j := 1) (by rfl) (by omega) hL ?_⟩)
      rw [if_neg hx]
      refine eva_ckP h'.2.2.2.2.1 (eva_cl ⟨_, _, e2, ?_⟩)
      exact eva_eq (fin μ2 y1 z' h' n1 s1)
  refine eva_ite (fun _ => ?_) (fun _ => ?_)
  · refine ld_at (j := 1) (by rfl) (by omega) hL ?_
    obtain ⟨r, μ1, μ2, z', e1, e2, h'⟩ := sn_look (xs (6 * k + 1)) μ y z hR
    refine eva_ckP hSf (eva_cl ⟨_, _, e1, ?_⟩)
    refine ld_at (j := 1) (by rfl) (by omega) hL ?_
    refine eva_ckP hMo (eva_cl ⟨_, _, e2, ?_⟩)
    exact eva_eq (fin μ2 y z' h' n0 s0)
  exact fin μ y z hR n0 s0
theorem lx_loop18 {b Ln : Nat} {xs : Nat → Int32} (hL : Ln ≤ 3072) {μ : Mu} {y : Ly} {z : Zt} (hR : Rep μ y z) (hN : mmN y ≤ 99) (hS : mmS y ≤ 20000) : EvA (Lx_law_18 b Ln xs 0 59 FU 0 μ y) EndQ := by
  suffices K : ∀ μ1 y1 z1, Rep μ1 y1 z1 → mmN y1 ≤ 99 + 220 * 0 → mmS y1 ≤ 20000 + 9000 * 0 → EvA (Lx_law_18 b Ln xs 0 59 FU (nI (6 * 0)) μ1 y1) EndQ from K μ y z hR (by omega) (by omega)
  unfold Lx_law_18
  refine lp_fu (F := fun kb => Lx_law_18b b Ln xs 0 59 kb) (z := fun _ _ _ => none) (Ln / 6) (fun k A => ∀ μ1 y1 z1, Rep μ1 y1 z1 → mmN y1 ≤ 99 + 220 * k → mmS y1 ≤ 20000 + 9000 * k → EvA (A (nI (6 * k)) μ1 y1) EndQ) (by omega) ?_ ?_ 0 (by omega)
  · intro A μ1 y1 z1 h1 h2 h3
    show EvA (Lx_law_18b b Ln xs 0 59 A _ μ1 y1) EndQ
    have h6 : (Int32.ofNat Ln - 6) < nI (6 * (Ln / 6)) := by
      show (nI Ln - nI 6) < nI (6 * (Ln / 6))
      rw [fa_lt, pk_sub_toInt (by omega) (by omega), nI_toInt (by omega)]
      omega
    unfold Lx_law_18b
    rw [if_pos h6]
    exact eva_some ⟨rfl, by omega, by omega⟩
  · intro k A hk ih μ1 y1 z1 h1 h2 h3
    exact lx_body hL (by omega) h1 h2 h3 ih
theorem pure_law : PureLaw := by
  intro b Ln xs hL
  have h : EvA (Lx_law b Ln xs μ00 y00) EndQ := by
    unfold Lx_law
    exact start_k (F := fun q1 q6 μ9 y10 => Lx_law_18 b Ln xs q1 q6 FU 0 μ9 y10) (fun μ y h1 h2 h3 => lx_loop18 hL h3 (by omega) h2)
  obtain ⟨r, μ', y', e, rfl, h1, h2⟩ := h
  exact ⟨(μ', y'), e, h1, h2⟩
