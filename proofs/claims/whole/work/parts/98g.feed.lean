/-! L3: FEED -/
theorem m255 : ∀ i, i < 32 → 8 ≤ i → (255 : Int32).toBitVec.getLsbD i = false := by decide +kernel
theorem by_eq (v s : Int32) (k : Nat) (hk : k ≤ 24) (h1 : ((s &&& 31).toBitVec.smod 32).toNat = k) (h2 : ((s.toUInt32 &&& Int32.toUInt32 31).toBitVec % 32).toNat = k) : jushr v s &&& 255 = jshr v s &&& 255 := by
  refine Int32.toBitVec_inj.mp (BitVec.eq_of_getLsbD_eq (fun i hi => ?_))
  rw [Int32.toBitVec_and, Int32.toBitVec_and, BitVec.getLsbD_and, BitVec.getLsbD_and]
  by_cases c : i < 8
  · congr 1
    unfold jshr jushr
    rw [Int32.toBitVec_shiftRight]
    show (v.toUInt32 >>> (s.toUInt32 &&& Int32.toUInt32 31)).toBitVec.getLsbD i = (v.toBitVec.sshiftRight ((s &&& 31).toBitVec.smod 32).toNat).getLsbD i
    rw [UInt32.toBitVec_shiftRight]
    show (v.toUInt32.toBitVec >>> ((s.toUInt32 &&& Int32.toUInt32 31).toBitVec % 32).toNat).getLsbD i = _
    rw [h1, h2, BitVec.getLsbD_ushiftRight, BitVec.getLsbD_sshiftRight, if_pos (by omega)]
    have : decide (32 ≤ i) = false := decide_eq_false (by omega)
    rw [this]
    simp
  · rw [m255 i hi (by omega), Bool.and_false, Bool.and_false]
def byN (v s : Int32) : Nat := (jshr v s &&& 255).toNatClampNeg
theorem byN_eq (v s : Int32) : jshr v s &&& 255 = nI (byN v s) ∧ byN v s < 256 := by
  obtain ⟨j, hj, e⟩ := pk_andE (jshr v s) (m := 255) 8 (by decide)
  unfold byN
  rw [e, nI_clamp (by omega)]; exact ⟨rfl, by omega⟩
def byL (v : Int32) : List Nat := [byN v 24, byN v 16, byN v 8, byN v 0]
theorem byL_lt {v : Int32} {b : Nat} (h : b ∈ byL v) : b < 256 := by
  simp only [byL, List.mem_cons, List.not_mem_nil, or_false] at h
  rcases h with rfl | rfl | rfl | rfl <;> exact (byN_eq v _).2
def TapX (a t f : Nat) (μ : Mu) (B : List Nat) : Prop := μ a f = nI B.length ∧ ∀ i, i < B.length → μ t i = nI (B.getD i 0)
def OffT (a t f : Nat) (μ μ' : Mu) : Prop := (∀ k, k ≠ a → k ≠ t → μ' k = μ k) ∧ ∀ j, j ≠ f → μ' a j = μ a j
theorem offT_refl (a t f : Nat) (μ : Mu) : OffT a t f μ μ := ⟨fun _ _ _ => rfl, fun _ _ => rfl⟩
theorem offT_trans {a t f : Nat} {μ μ1 μ2 : Mu} (h : OffT a t f μ μ1) (g : OffT a t f μ1 μ2) : OffT a t f μ μ2 := ⟨fun k x y => (g.1 k x y).trans (h.1 k x y), fun j x => (g.2 j x).trans (h.2 j x)⟩
theorem tapX_add {a t f : Nat} {μ : Mu} {B : List Nat} (hat : a ≠ t) (h : TapX a t f μ B) (b : Nat) : TapX a t f (up2 (up2 μ t B.length (nI b)) a f (nI (B.length + 1))) (B ++ [b]) := by
  refine ⟨by rw [up2_same, List.length_append]; rfl, fun i hi => ?_⟩
  rw [List.length_append] at hi
  rw [up2_ne (Ne.symm hat)]
  by_cases c : i = B.length
  · rw [c, up2_same]; congr 1
    rw [List.getD_eq_getElem?_getD, List.getElem?_append_right (Nat.le_refl _), Nat.sub_self]; rfl
  · have hi2 : i < B.length := by simp only [List.length_cons, List.length_nil] at hi; omega
    rw [up2_off (Or.inr c), h.2 i hi2]; congr 1
    rw [List.getD_eq_getElem?_getD, List.getD_eq_getElem?_getD, List.getElem?_append_left hi2]
theorem offT_add {a t f : Nat} {μ μ1 : Mu} {n b v : _} (hat : a ≠ t) (h : OffT a t f μ μ1) : OffT a t f μ (up2 (up2 μ1 t n b) a f v) := ⟨fun k x y => by rw [up2_ne x, up2_ne y, h.1 k x y], fun j x => by rw [up2_off (Or.inr x), up2_ne hat, h.2 j x]⟩
def shI : Nat → Int32
  | 0 => 24
  | 1 => 16
  | 2 => 8
  | 3 => 0
  | _ => -8
theorem byL_take (v : Int32) (k : Nat) (hk : k < 4) : (byL v).take (k + 1) = (byL v).take k ++ [byN v (shI k)] := by
  rcases (show k = 0 ∨ k = 1 ∨ k = 2 ∨ k = 3 by omega) with rfl | rfl | rfl | rfl <;> rfl
theorem shI_ok (k : Nat) (hk : k < 4) : ¬ shI k < 0 ∧ shI k + (-8) = shI (k + 1) ∧ ∀ v, jushr v (shI k) &&& 255 = jshr v (shI k) &&& 255 := by
  rcases (show k = 0 ∨ k = 1 ∨ k = 2 ∨ k = 3 by omega) with rfl | rfl | rfl | rfl
  · exact ⟨by decide, by decide, fun v => by_eq v 24 24 (by omega) (by decide +kernel) (by decide +kernel)⟩
  · exact ⟨by decide, by decide, fun v => by_eq v 16 16 (by omega) (by decide +kernel) (by decide +kernel)⟩
  · exact ⟨by decide, by decide, fun v => by_eq v 8 8 (by omega) (by decide +kernel) (by decide +kernel)⟩
  · exact ⟨by decide, by decide, fun v => by_eq v 0 0 (by omega) (by decide +kernel) (by decide +kernel)⟩
theorem rd_append {μ : Mu} {B : List Nat} (h : TapX 48 49 1 μ B) (hl : B.length + 4 ≤ 400) (v : Int32) : Ev (Rd_append 48 v μ) (fun r μ' => r = nI (B ++ byL v).length ∧ TapX 48 49 1 μ' (B ++ byL v) ∧ OffT 48 49 1 μ μ') := by
  suffices K : ∀ μ1, OffT 48 49 1 μ μ1 → TapX 48 49 1 μ1 (B ++ (byL v).take 0) → Ev (Rd_append_3 48 v FU (shI 0) μ1) (fun r μ' => r = nI (B ++ byL v).length ∧ TapX 48 49 1 μ' (B ++ byL v) ∧ OffT 48 49 1 μ μ') from K μ (offT_refl _ _ _ _) (by rw [List.take_zero, List.append_nil]; exact h)
  unfold Rd_append_3
  refine lp_fu (F := fun kb => Rd_append_3b 48 kb v) (z := fun _ _ => none) 4 (fun k A => ∀ μ1, OffT 48 49 1 μ μ1 → TapX 48 49 1 μ1 (B ++ (byL v).take k) → Ev (A (shI k) μ1) (fun r μ' => r = nI (B ++ byL v).length ∧ TapX 48 49 1 μ' (B ++ byL v) ∧ OffT 48 49 1 μ μ')) (by omega) ?_ ?_ 0 (by omega)
  · intro A μ1 hO hT
    show Ev (Rd_append_3b 48 A v _ μ1) _
    unfold Rd_append_3b Rd_append_49
    rw [if_pos (by decide), gF_eq, hT.1]
    exact ev_some ⟨rfl, hT, hO⟩
  · intro k A hk ih μ1 hO hT
    show Ev (Rd_append_3b 48 A v _ μ1) _
    obtain ⟨s1, s2, s3⟩ := shI_ok k hk
    have hn : (B ++ (byL v).take k).length = B.length + k := by
      rw [List.length_append, List.length_take]
      simp only [byL, List.length_cons, List.length_nil]; omega
    unfold Rd_append_3b
    simp only [Nat.reduceAdd]
    rw [if_neg s1, gF_eq, hT.1, hn, if_neg (show ¬ (400 : Int32) ≤ nI (B.length + k) from nI_ge (b := 400) (by omega) (by omega)), gF_eq, hT.1, hn, s3, (byN_eq v (shI k)).1, stA_nI (by omega) (by omega), gF_eq, up2_ne (by decide), hT.1, hn, pF_eq, nI_1, s2]
    have hadd := tapX_add (by decide) hT (byN v (shI k))
    rw [hn] at hadd
    refine ih _ (offT_add (by decide) hO) ?_
    rw [byL_take v k hk, ← List.append_assoc]; exact hadd
theorem mo_types {μ : Mu} {B : List Nat} (h : TapX 59 64 9 μ B) (hl : B.length + 4 ≤ 400) (v : Int32) : Ev (Mo_types 59 v μ) (fun _ μ' => TapX 59 64 9 μ' (B ++ byL v) ∧ OffT 59 64 9 μ μ') := by
  suffices K : ∀ μ1, OffT 59 64 9 μ μ1 → TapX 59 64 9 μ1 (B ++ (byL v).take 0) → Ev (Mo_types_3 59 v FU (shI 0) μ1) (fun _ μ' => TapX 59 64 9 μ' (B ++ byL v) ∧ OffT 59 64 9 μ μ') from K μ (offT_refl _ _ _ _) (by rw [List.take_zero, List.append_nil]; exact h)
  unfold Mo_types_3
  refine lp_fu (F := fun kb => Mo_types_3b 59 kb v) (z := fun _ _ => none) 4 (fun k A => ∀ μ1, OffT 59 64 9 μ μ1 → TapX 59 64 9 μ1 (B ++ (byL v).take k) → Ev (A (shI k) μ1) (fun _ μ' => TapX 59 64 9 μ' (B ++ byL v) ∧ OffT 59 64 9 μ μ')) (by omega) ?_ ?_ 0 (by omega)
  · intro A μ1 hO hT
    show Ev (Mo_types_3b 59 A v _ μ1) _
    unfold Mo_types_3b
    rw [if_pos (by decide)]
    exact ev_some ⟨hT, hO⟩
  · intro k A hk ih μ1 hO hT
    show Ev (Mo_types_3b 59 A v _ μ1) _
    obtain ⟨s1, s2, s3⟩ := shI_ok k hk
    have hn : (B ++ (byL v).take k).length = B.length + k := by
      rw [List.length_append, List.length_take]
      simp only [byL, List.length_cons, List.length_nil]; omega
    unfold Mo_types_3b
    simp only [Nat.reduceAdd]
    rw [if_neg s1, gF_eq, hT.1, hn, (byN_eq v (shI k)).1, stA_nI (by omega) (by omega), gF_eq, up2_ne (by decide), hT.1, hn, pF_eq, nI_1, s2]
    have hadd := tapX_add (by decide) hT (byN v (shI k))
    rw [hn] at hadd
    refine ih _ (offT_add (by decide) hO) ?_
    rw [byL_take v k hk, ← List.append_assoc]; exact hadd
theorem byL_len (v : Int32) : (byL v).length = 4 := rfl
theorem sn_feed (v1 v2 v3 v4 v5 : Int32) : StepN (Sf_feed 0 v1 v2 v3 v4 v5) (Mo_feed 59 v1 v2 v3 v4 v5) := by
  refine stepN_of (fun z hA => ?_)
  have hl4 := hA.2.2.2.1
  by_cases c : 380 < (zB z).length
  · refine ⟨-1, z, hA, fun μ y hy hR => ?_, fun ν hR => ?_⟩
    · unfold Sf_feed Rd_hasRoom
      simp only [Nat.reduceAdd]
      rw [gF_eq, hR.2.2.1, show nI (zB z).length + 20 = nI ((zB z).length + 20) from nI_add _ 20, if_pos (show (400 : Int32) < nI ((zB z).length + 20) from nI_lt (a := 400) (by omega) (by omega)), cl_eq, if_pos rfl]
      exact ev_some ⟨rfl, hR, inC_refl μ⟩
    · obtain ⟨h1, i1⟩ := mo_t hR
      unfold Mo_feed
      rw [pF_eq, gF_eq, h1.2.2.2.2.2.1, if_neg (show ¬ nI (zB z).length ≤ (380 : Int32) from nI_ge (a := 380) (by omega) (by omega))]
      exact ev_some ⟨rfl, h1, i1⟩
  · have a5 : ((((zB z ++ byL v1) ++ byL v2) ++ byL v3) ++ byL v4 ++ byL v5).length = (zB z).length + 20 := by simp only [List.length_append, byL_len]
    refine ⟨nI ((((zB z ++ byL v1) ++ byL v2) ++ byL v3) ++ byL v4 ++ byL v5).length, mvB z ((((zB z ++ byL v1) ++ byL v2) ++ byL v3) ++ byL v4 ++ byL v5), ⟨hA.1, hA.2.1, hA.2.2.1, ?_, fun b hb => ?_, hA.2.2.2.2.2⟩, fun μ y hy hR => ?_, fun ν hR => ?_⟩
    · show (((zB z ++ byL v1) ++ byL v2 ++ byL v3) ++ byL v4 ++ byL v5).length ≤ 400
      rw [a5]; omega
    · have hb' : b ∈ ((((zB z ++ byL v1) ++ byL v2) ++ byL v3) ++ byL v4 ++ byL v5) := hb
      simp only [List.mem_append] at hb'
      rcases hb' with ((((q | q) | q) | q) | q) | q
      · exact hA.2.2.2.2.1 b q
      all_goals exact byL_lt q
    · unfold Sf_feed Rd_hasRoom
      simp only [Nat.reduceAdd]
      rw [gF_eq, hR.2.2.1, show nI (zB z).length + 20 = nI ((zB z).length + 20) from nI_add _ 20, if_neg (show ¬ (400 : Int32) < nI ((zB z).length + 20) from nI_nlt (a := 400) (by omega) (by omega)), cl_eq, if_neg (show ¬ (1 : Int32) = 0 by decide)]
      have t0 : TapX 48 49 1 μ (zB z) := ⟨hR.2.2.1, hR.2.2.2.1⟩
      refine ev_cl (ev_mono (rd_append t0 (by omega) v1) (fun _ μ1 g1 => ?_))
      refine ev_cl (ev_mono (rd_append g1.2.1 (by simp only [List.length_append, byL_len]; omega) v2) (fun _ μ2 g2 => ?_))
      refine ev_cl (ev_mono (rd_append g2.2.1 (by simp only [List.length_append, byL_len]; omega) v3) (fun _ μ3 g3 => ?_))
      refine ev_cl (ev_mono (rd_append g3.2.1 (by simp only [List.length_append, byL_len]; omega) v4) (fun _ μ4 g4 => ?_))
      refine ev_cl (ev_mono (rd_append g4.2.1 (by simp only [List.length_append, byL_len]; omega) v5) (fun _ μ5 g5 => ?_))
      have hO := offT_trans g1.2.2 (offT_trans g2.2.2 (offT_trans g3.2.2 (offT_trans g4.2.2 g5.2.2)))
      exact ev_some ⟨g5.1, repC_tape hy hR hO.1 g5.2.1.1 g5.2.1.2 (hO.2 8 (by decide)) (hO.2 9 (by decide)), fun k a b => hO.1 k (by omega) (by omega)⟩
    · obtain ⟨h1, i1⟩ := mo_t hR
      unfold Mo_feed
      rw [pF_eq, gF_eq, h1.2.2.2.2.2.1, if_pos (show nI (zB z).length ≤ (380 : Int32) from nI_le (b := 380) (by omega) (by omega))]
      have t0 : TapX 59 64 9 (up2 ν 59 0 0) (zB z) := ⟨h1.2.2.2.2.2.1, h1.2.2.2.2.2.2.1⟩
      refine ev_cl (ev_mono (mo_types t0 (by omega) v1) (fun _ μ1 g1 => ?_))
      refine ev_cl (ev_mono (mo_types g1.1 (by simp only [List.length_append, byL_len]; omega) v2) (fun _ μ2 g2 => ?_))
      refine ev_cl (ev_mono (mo_types g2.1 (by simp only [List.length_append, byL_len]; omega) v3) (fun _ μ3 g3 => ?_))
      refine ev_cl (ev_mono (mo_types g3.1 (by simp only [List.length_append, byL_len]; omega) v4) (fun _ μ4 g4 => ?_))
      refine ev_cl (ev_mono (mo_types g4.1 (by simp only [List.length_append, byL_len]; omega) v5) (fun _ μ5 g5 => ?_))
      have hO := offT_trans g1.2 (offT_trans g2.2 (offT_trans g3.2 (offT_trans g4.2 g5.2)))
      rw [gF_eq, g5.1.1]
      exact ev_some ⟨rfl, repM_tape h1 hO.1 (fun j _ b => hO.2 j b) g5.1.1 g5.1.2, fun k a => (hO.1 k (by omega) (by omega)).trans (i1 k a)⟩
