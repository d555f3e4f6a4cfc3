/-! L3: A PORT COPIED -/
theorem lw_copy {s d : Nat} {μ : Mu} (hd : s + 6 ≤ d ∨ d + 6 ≤ s) : Ev (Lw_copyFrom d s μ) (fun _ μ' => (∀ j, j < 2 → μ' d j = μ s j) ∧ (∀ j, j < 16 → μ' (d + 1) j = μ (s + 1) j) ∧ (∀ j, j < 16 → μ' (d + 2) j = μ (s + 2) j) ∧ (∀ j, j < 16 → μ' (d + 3) j = μ (s + 3) j) ∧ (∀ j, j < 16 → μ' (d + 4) j = μ (s + 4) j) ∧ (∀ j, j < 400 → μ' (d + 5) j = μ (s + 5) j) ∧ ∀ k, (k < d ∨ d + 6 ≤ k) → μ' k = μ k) := by
  unfold Lw_copyFrom
  rw [gF_eq, pF_eq, gF_eq, pF_eq, cpA_m (v := 16) 16 rfl (by omega) (by omega) (by omega), cpA_m (v := 16) 16 rfl (by omega) (by omega) (by omega), cpA_m (v := 16) 16 rfl (by omega) (by omega) (by omega), cpA_m (v := 16) 16 rfl (by omega) (by omega) (by omega), cpA_m (v := 400) 400 rfl (by omega) (by omega) (by omega)]
  refine ev_some ⟨fun j hj => ?_, fun j hj => ?_, fun j hj => ?_, fun j hj => ?_, fun j hj => ?_, fun j hj => ?_, fun k hk => ?_⟩
  · rw [cp2_ne (by omega), cp2_ne (by omega), cp2_ne (by omega), cp2_ne (by omega), cp2_ne (by omega)]
    rcases (show j = 0 ∨ j = 1 by omega) with rfl | rfl
    · rw [up2_off (Or.inr (by decide)), up2_same]
    · rw [up2_same, up2_ne (by omega)]
  · rw [cp2_ne (by omega), cp2_ne (by omega), cp2_ne (by omega), cp2_ne (by omega), cp2_in hj, up2_ne (by omega), up2_ne (by omega)]
  · rw [cp2_ne (by omega), cp2_ne (by omega), cp2_ne (by omega), cp2_in hj, cp2_ne (by omega), up2_ne (by omega), up2_ne (by omega)]
  · rw [cp2_ne (by omega), cp2_ne (by omega), cp2_in hj, cp2_ne (by omega), cp2_ne (by omega), up2_ne (by omega), up2_ne (by omega)]
  · rw [cp2_ne (by omega), cp2_in hj, cp2_ne (by omega), cp2_ne (by omega), cp2_ne (by omega), up2_ne (by omega), up2_ne (by omega)]
  · rw [cp2_in hj, cp2_ne (by omega), cp2_ne (by omega), cp2_ne (by omega), cp2_ne (by omega), up2_ne (by omega), up2_ne (by omega)]
  · rw [cp2_ne (by omega), cp2_ne (by omega), cp2_ne (by omega), cp2_ne (by omega), cp2_ne (by omega), up2_ne (by omega), up2_ne (by omega)]
theorem lawC_copy {s d : Nat} {μ μ' : Mu} {L : LawL} (hL : LawC s μ L) (h16 : L.length ≤ 16) (g0 : ∀ j, j < 2 → μ' d j = μ s j) (g1 : ∀ j, j < 16 → μ' (d + 1) j = μ (s + 1) j) (g2 : ∀ j, j < 16 → μ' (d + 2) j = μ (s + 2) j) (g3 : ∀ j, j < 16 → μ' (d + 3) j = μ (s + 3) j) (g4 : ∀ j, j < 16 → μ' (d + 4) j = μ (s + 4) j) (g5 : ∀ j, j < 400 → μ' (d + 5) j = μ (s + 5) j) : LawC d μ' L := by
  obtain ⟨f, size, h1, h2, h3, h4⟩ := hL
  refine ⟨f, size, h1, by rw [g0 0 (by omega)]; exact h2, by rw [g0 1 (by omega)]; exact h3, fun l hl => ?_⟩
  obtain ⟨a1, a2, a3, a4, a5, a6, a7⟩ := h4 l hl
  exact ⟨by rw [g1 l (by omega)]; exact a1, by rw [g2 l (by omega)]; exact a2, by rw [g3 l (by omega)]; exact a3, by rw [g4 l (by omega)]; exact a4, a5, fun i hi => by rw [g5 _ (by omega)]; exact a6 i hi, fun i hi => by rw [g5 _ (by omega)]; exact a7 i hi⟩
theorem rw_copy {s d n : Nat} {μ : Mu} {lo hi : Int32} {l : List Int32} (hd : s + 2 ≤ d ∨ d + 2 ≤ s) (h : RwC μ s n lo hi l) (h0 : μ d 0 = lo) (h1 : μ d 1 = hi) : Ev (Rw_copyFrom d n s n μ) (fun _ μ' => RwC μ' d n lo hi l ∧ ∀ k, (k < d ∨ d + 2 ≤ k) → μ' k = μ k) := by
  obtain ⟨a1, a2, a3, a4, a5, a6⟩ := h
  unfold Rw_copyFrom
  rw [gF_eq, pF_eq, cpA_m (v := jmin (Int32.ofNat n) (Int32.ofNat n)) n (by
    show jmin (nI n) (nI n) = nI n
    rw [jmin_nI (by omega) (by omega), Nat.min_self]) (Nat.le_refl _) (Nat.le_refl _) (by omega), a3]
  have e : jmin (nI l.length) (Int32.ofNat n) = nI l.length := by
    show jmin (nI l.length) (nI n) = _
    rw [jmin_nI (by omega) (by omega), Nat.min_eq_left a4]
  rw [e]
  refine ev_some ⟨⟨?_, ?_, ?_, a4, a5, fun j hj => ?_⟩, fun k hk => ?_⟩
  · rw [cp2_ne (by omega), up2_off (Or.inr (by decide))]; exact h0
  · rw [cp2_ne (by omega), up2_off (Or.inr (by decide))]; exact h1
  · rw [cp2_ne (by omega), up2_same]
  · rw [cp2_in (by omega), up2_ne (by omega)]; exact a6 j hj
  · rw [cp2_ne (by omega), up2_ne (by omega)]
/-- the told rows' bounds -/
def tdB (μ : Mu) (e : Nat) : Prop := (μ (e + 1) 0 = -99 ∧ μ (e + 1) 1 = 99) ∧ (μ (e + 3) 0 = -99 ∧ μ (e + 3) 1 = 99) ∧ (μ (e + 5) 0 = 1 ∧ μ (e + 5) 1 = 60) ∧ (μ (e + 7) 0 = 0 ∧ μ (e + 7) 1 = 9) ∧ (μ (e + 9) 0 = 0 ∧ μ (e + 9) 1 = 9) ∧ (μ (e + 11) 0 = 2 ∧ μ (e + 11) 1 = 30) ∧ (μ (e + 13) 0 = 1 ∧ μ (e + 13) 1 = 20) ∧ (μ (e + 15) 0 = 1 ∧ μ (e + 15) 1 = 99) ∧ (μ (e + 17) 0 = 1 ∧ μ (e + 17) 1 = 60) ∧ (μ (e + 19) 0 = 0 ∧ μ (e + 19) 1 = 99)
def ToldX (μ : Mu) (e : Nat) (t : Int32) (K : Nat → List Int32) : Prop := μ e 0 = t ∧ RwC μ (e + 1) 8 (-99) 99 (K 0) ∧ RwC μ (e + 3) 8 (-99) 99 (K 1) ∧ RwC μ (e + 5) 6 1 60 (K 2) ∧ RwC μ (e + 7) 10 0 9 (K 3) ∧ RwC μ (e + 9) 10 0 9 (K 4) ∧ RwC μ (e + 11) 6 2 30 (K 5) ∧ RwC μ (e + 13) 6 1 20 (K 6) ∧ RwC μ (e + 15) 8 1 99 (K 7) ∧ RwC μ (e + 17) 8 1 60 (K 8) ∧ RwC μ (e + 19) 8 0 99 (K 9)
theorem rwC_row {μ μ' : Mu} {r n : Nat} {lo hi : Int32} {l : List Int32} (h0 : μ' r = μ r) (h1 : μ' (r + 1) = μ (r + 1)) (h : RwC μ r n lo hi l) : RwC μ' r n lo hi l := by
  unfold RwC at *
  rw [h0, h1]; exact h
theorem td_copy {s d : Nat} {μ : Mu} {t : Int32} {K : Nat → List Int32} (hd : s + 21 ≤ d ∨ d + 21 ≤ s) (h : ToldX μ s t K) (hb : tdB μ d) : Ev (Td_copyFrom d s μ) (fun _ μ' => ToldX μ' d t K ∧ ∀ k, (k < d ∨ d + 21 ≤ k) → μ' k = μ k) := by
  obtain ⟨ht, k0, k1, k2, k3, k4, k5, k6, k7, k8, k9⟩ := h
  obtain ⟨b0, b1, b2, b3, b4, b5, b6, b7, b8, b9⟩ := hb
  unfold Td_copyFrom
  rw [gF_eq, pF_eq, ht]
  have u0 : ∀ k, k ≠ d → (up2 μ d 0 t) k = μ k := fun k hk => up2_ne hk
  have ut : (up2 μ d 0 t) d 0 = t := up2_same _ _ _ _
  generalize up2 μ d 0 t = m0 at u0 ut
  -- a row after another: what lies outside stays
  have src : ∀ (m : Mu) (i n : Nat) (lo hi : Int32) (l : List Int32), (∀ k, (k < d ∨ d + 21 ≤ k) → m k = μ k) → i < 20 → RwC μ (s + i) n lo hi l → RwC m (s + i) n lo hi l := fun m i n lo hi l hm hi2 hr => rwC_row (hm _ (by omega)) (hm _ (by omega)) hr
  have f0 : ∀ k, (k < d ∨ d + 21 ≤ k) → m0 k = μ k := fun k hk => u0 k (by omega)
  refine ev_cl (ev_mono (rw_copy (by omega) (src m0 1 8 _ _ _ f0 (by omega) k0) (by rw [u0 _ (by omega)]; exact b0.1) (by rw [u0 _ (by omega)]; exact b0.2)) (fun _ m1 g1 => ?_))
  have e1 : ∀ k, (k ≤ d ∨ d + 3 ≤ k) → m1 k = m0 k := fun k hk => g1.2 k (by omega)
  have f1 : ∀ k, (k < d ∨ d + 21 ≤ k) → m1 k = μ k := fun k hk => (e1 k (by omega)).trans (f0 k hk)
  refine ev_cl (ev_mono (rw_copy (by omega) (src m1 3 8 _ _ _ f1 (by omega) k1) (by rw [e1 _ (by omega), u0 _ (by omega)]; exact b1.1) (by rw [e1 _ (by omega), u0 _ (by omega)]; exact b1.2)) (fun _ m2 g2 => ?_))
  have e2 : ∀ k, (k ≤ d ∨ d + 5 ≤ k) → m2 k = m0 k := fun k hk => (g2.2 k (by omega)).trans (e1 k (by omega))
  have f2 : ∀ k, (k < d ∨ d + 21 ≤ k) → m2 k = μ k := fun k hk => (e2 k (by omega)).trans (f0 k hk)
  refine ev_cl (ev_mono (rw_copy (by omega) (src m2 5 6 _ _ _ f2 (by omega) k2) (by rw [e2 _ (by omega), u0 _ (by omega)]; exact b2.1) (by rw [e2 _ (by omega), u0 _ (by omega)]; exact b2.2)) (fun _ m3 g3 => ?_))
  have e3 : ∀ k, (k ≤ d ∨ d + 7 ≤ k) → m3 k = m0 k := fun k hk => (g3.2 k (by omega)).trans (e2 k (by omega))
  have f3 : ∀ k, (k < d ∨ d + 21 ≤ k) → m3 k = μ k := fun k hk => (e3 k (by omega)).trans (f0 k hk)
  refine ev_cl (ev_mono (rw_copy (by omega) (src m3 7 10 _ _ _ f3 (by omega) k3) (by rw [e3 _ (by omega), u0 _ (by omega)]; exact b3.1) (by rw [e3 _ (by omega), u0 _ (by omega)]; exact b3.2)) (fun _ m4 g4 => ?_))
  have e4 : ∀ k, (k ≤ d ∨ d + 9 ≤ k) → m4 k = m0 k := fun k hk => (g4.2 k (by omega)).trans (e3 k (by omega))
  have f4 : ∀ k, (k < d ∨ d + 21 ≤ k) → m4 k = μ k := fun k hk => (e4 k (by omega)).trans (f0 k hk)
  refine ev_cl (ev_mono (rw_copy (by omega) (src m4 9 10 _ _ _ f4 (by omega) k4) (by rw [e4 _ (by omega), u0 _ (by omega)]; exact b4.1) (by rw [e4 _ (by omega), u0 _ (by omega)]; exact b4.2)) (fun _ m5 g5 => ?_))
  have e5 : ∀ k, (k ≤ d ∨ d + 11 ≤ k) → m5 k = m0 k := fun k hk => (g5.2 k (by omega)).trans (e4 k (by omega))
  have f5 : ∀ k, (k < d ∨ d + 21 ≤ k) → m5 k = μ k := fun k hk => (e5 k (by omega)).trans (f0 k hk)
  refine ev_cl (ev_mono (rw_copy (by omega) (src m5 11 6 _ _ _ f5 (by omega) k5) (by rw [e5 _ (by omega), u0 _ (by omega)]; exact b5.1) (by rw [e5 _ (by omega), u0 _ (by omega)]; exact b5.2)) (fun _ m6 g6 => ?_))
  have e6 : ∀ k, (k ≤ d ∨ d + 13 ≤ k) → m6 k = m0 k := fun k hk => (g6.2 k (by omega)).trans (e5 k (by omega))
  have f6 : ∀ k, (k < d ∨ d + 21 ≤ k) → m6 k = μ k := fun k hk => (e6 k (by omega)).trans (f0 k hk)
  refine ev_cl (ev_mono (rw_copy (by omega) (src m6 13 6 _ _ _ f6 (by omega) k6) (by rw [e6 _ (by omega), u0 _ (by omega)]; exact b6.1) (by rw [e6 _ (by omega), u0 _ (by omega)]; exact b6.2)) (fun _ m7 g7 => ?_))
  have e7 : ∀ k, (k ≤ d ∨ d + 15 ≤ k) → m7 k = m0 k := fun k hk => (g7.2 k (by omega)).trans (e6 k (by omega))
  have f7 : ∀ k, (k < d ∨ d + 21 ≤ k) → m7 k = μ k := fun k hk => (e7 k (by omega)).trans (f0 k hk)
  refine ev_cl (ev_mono (rw_copy (by omega) (src m7 15 8 _ _ _ f7 (by omega) k7) (by rw [e7 _ (by omega), u0 _ (by omega)]; exact b7.1) (by rw [e7 _ (by omega), u0 _ (by omega)]; exact b7.2)) (fun _ m8 g8 => ?_))
  have e8 : ∀ k, (k ≤ d ∨ d + 17 ≤ k) → m8 k = m0 k := fun k hk => (g8.2 k (by omega)).trans (e7 k (by omega))
  have f8 : ∀ k, (k < d ∨ d + 21 ≤ k) → m8 k = μ k := fun k hk => (e8 k (by omega)).trans (f0 k hk)
  refine ev_cl (ev_mono (rw_copy (by omega) (src m8 17 8 _ _ _ f8 (by omega) k8) (by rw [e8 _ (by omega), u0 _ (by omega)]; exact b8.1) (by rw [e8 _ (by omega), u0 _ (by omega)]; exact b8.2)) (fun _ m9 g9 => ?_))
  have e9 : ∀ k, (k ≤ d ∨ d + 19 ≤ k) → m9 k = m0 k := fun k hk => (g9.2 k (by omega)).trans (e8 k (by omega))
  have f9 : ∀ k, (k < d ∨ d + 21 ≤ k) → m9 k = μ k := fun k hk => (e9 k (by omega)).trans (f0 k hk)
  refine ev_cl (ev_mono (rw_copy (by omega) (src m9 19 8 _ _ _ f9 (by omega) k9) (by rw [e9 _ (by omega), u0 _ (by omega)]; exact b9.1) (by rw [e9 _ (by omega), u0 _ (by omega)]; exact b9.2)) (fun _ mA gA => ?_))
  have lA : ∀ k, k < d + 19 → mA k = m9 k := fun k hk => gA.2 k (by omega)
  have l9 : ∀ k, k < d + 17 → mA k = m8 k := fun k hk => (lA k (by omega)).trans (g9.2 k (by omega))
  have l8 : ∀ k, k < d + 15 → mA k = m7 k := fun k hk => (l9 k (by omega)).trans (g8.2 k (by omega))
  have l7 : ∀ k, k < d + 13 → mA k = m6 k := fun k hk => (l8 k (by omega)).trans (g7.2 k (by omega))
  have l6 : ∀ k, k < d + 11 → mA k = m5 k := fun k hk => (l7 k (by omega)).trans (g6.2 k (by omega))
  have l5 : ∀ k, k < d + 9 → mA k = m4 k := fun k hk => (l6 k (by omega)).trans (g5.2 k (by omega))
  have l4 : ∀ k, k < d + 7 → mA k = m3 k := fun k hk => (l5 k (by omega)).trans (g4.2 k (by omega))
  have l3 : ∀ k, k < d + 5 → mA k = m2 k := fun k hk => (l4 k (by omega)).trans (g3.2 k (by omega))
  have l2 : ∀ k, k < d + 3 → mA k = m1 k := fun k hk => (l3 k (by omega)).trans (g2.2 k (by omega))
  have l1 : ∀ k, k < d + 1 → mA k = m0 k := fun k hk => (l2 k (by omega)).trans (g1.2 k (by omega))
  refine ev_some ⟨⟨by rw [l1 d (by omega)]; exact ut, rwC_row (l2 _ (by omega)) (l2 _ (by omega)) g1.1, rwC_row (l3 _ (by omega)) (l3 _ (by omega)) g2.1, rwC_row (l4 _ (by omega)) (l4 _ (by omega)) g3.1, rwC_row (l5 _ (by omega)) (l5 _ (by omega)) g4.1, rwC_row (l6 _ (by omega)) (l6 _ (by omega)) g5.1, rwC_row (l7 _ (by omega)) (l7 _ (by omega)) g6.1, rwC_row (l8 _ (by omega)) (l8 _ (by omega)) g7.1, rwC_row (l9 _ (by omega)) (l9 _ (by omega)) g8.1, rwC_row (lA _ (by omega)) (lA _ (by omega)) g9.1, gA.1⟩, fun k hk => ?_⟩
  rw [gA.2 k (by omega), e9 k (by omega), f0 k hk]
/-! a port at another place -/
def PortX (μ : Mu) (e : Nat) (z : PoS) : Prop := FigC (poP z) (e + 1) 0 μ (poN z).1 ∧ (∀ k, k < 600 → μ (e + 4) k = (poN z).2 k) ∧ LawC (e + 6) μ (poL z) ∧ (∀ q, q < 16 → μ (e + 14) q = poH z q - 1 ∧ μ (e + 15) q = nI (hcS (poH z) 16 q)) ∧ (μ (e + 16) 2 = nI (poW z).length ∧ ∀ l, l < (poW z).length → μ (e + 13) (4 * l) = nI ((poW z).getD l w0).1 ∧ μ (e + 13) (4 * l + 1) = nI (kT ((poW z).getD l w0).2.1) ∧ μ (e + 13) (4 * l + 2) = (if 3 ≤ ((poW z).getD l w0).2.1 then nI ((poW z).getD l w0).2.2.1 else -1) ∧ μ (e + 13) (4 * l + 3) = (if ((poW z).getD l w0).2.1 ≤ 1 then nI ((poW z).getD l w0).2.2.1 else if ((poW z).getD l w0).2.1 = 3 then nI ((poW z).getD l w0).2.2.2 else -1)) ∧ μ (e + 16) 0 = nI (poL z).length ∧ μ (e + 16) 1 = poA z ∧ μ (e + 16) 3 = poB z ∧ ToldX μ (e + 17) (poT z) (poK z)
theorem portX_1 {μ : Mu} {z : PoS} : PortX μ 1 z ↔ PortC μ z := Iff.rfl
theorem portX_s {μ : Mu} {e : Nat} {z : PoS} (he : 1 ≤ e) : PortX μ e z ↔ PortC (shf (e - 1) μ) z := by
  obtain ⟨d, rfl⟩ : ∃ d, e = d + 1 := ⟨e - 1, by omega⟩
  rw [show d + 1 - 1 = d by omega, ← portX_1]
  have h : ∀ k, shf d μ (1 + k) = μ (d + 1 + k) := fun k => by
    show μ (1 + k + d) = _
    congr 1; omega
  have h2 : ∀ k i, shf d μ (1 + k + i) = μ (d + 1 + k + i) := fun k i => by
    show μ (1 + k + i + d) = _
    congr 1; omega
  unfold PortX ToldX FigC LawC RwC
  simp only [h, h2]
  have h3 : ∀ k i j, shf d μ (1 + k + i + j) = μ (d + 1 + k + i + j) := fun k i j => by
    show μ (1 + k + i + j + d) = _
    congr 1; omega
  simp only [h3]
theorem pt_copy {s d : Nat} {μ : Mu} {z : PoS} (hd : s + 38 ≤ d ∨ d + 38 ≤ s) (h : PortX μ s z) (hz : PortOk z) (h0 : μ (d + 1) 0 = 0) (hb : tdB μ (d + 17)) : Ev (Pt_copyFrom d s μ) (fun _ μ' => PortX μ' d z ∧ ∀ k, (k < d ∨ d + 38 ≤ k) → μ' k = μ k) := by
  obtain ⟨h1, h2, h3, h4, h5, h6, h7, h8, h9⟩ := h
  have hL16 : (poL z).length ≤ 16 := hz.1.2.1.1
  have hW16 : (poW z).length ≤ 16 := hz.2.1.1
  unfold Pt_copyFrom Tx_copyFrom
  refine ev_cl (ev_mono (fg_copy h1 h0 (by omega)) (fun _ m1 g1 => ?_))
  have o1 : ∀ k, (k < d + 1 ∨ d + 4 ≤ k) → m1 k = μ k := fun k hk => g1.2 k (fun z => by
    simp only [List.mem_cons, List.not_mem_nil, or_false] at z; omega)
  rw [cpA_m (v := 600) 600 rfl (by omega) (by omega) (by omega)]
  have b2 : ∀ j, j < 600 → (cp2 m1 (s + 4) 0 (d + 4) 0 600) (d + 4) j = μ (s + 4) j := fun j hj => by rw [cp2_in hj, o1 _ (by omega)]
  have o2 : ∀ k, k ≠ d + 4 → (cp2 m1 (s + 4) 0 (d + 4) 0 600) k = m1 k := fun k hk => cp2_ne hk
  generalize cp2 m1 (s + 4) 0 (d + 4) 0 600 = m2 at b2 o2
  refine ev_cl (ev_cl (ev_mono (lw_copy (s := s + 5 + 1) (d := d + 5 + 1) (by omega)) (fun _ m3 g3 => ?_)))
  obtain ⟨l0, l1, l2, l3, l4, l5, l6⟩ := g3
  have sm2 : ∀ k, s ≤ k → k < s + 38 → m2 k = μ k := fun k a b => (o2 k (by omega)).trans (o1 k (by omega))
  have sm3 : ∀ k, s ≤ k → k < s + 38 → m3 k = μ k := fun k a b => (l6 k (by omega)).trans (sm2 k a b)
  have hL : LawC (d + 6) m3 (poL z) := by
    refine lawC_copy (s := s + 6) (μ := m2) (lawC_off (fun k a b => sm2 k (by omega) (by omega)) h3) hL16 ?_ ?_ ?_ ?_ ?_ ?_
    · exact l0
    · exact l1
    · exact l2
    · exact l3
    · exact l4
    · exact l5
  rw [cpA_m (v := 64) 64 rfl (by omega) (by omega) (by omega), cpA_m (v := 16) 16 rfl (by omega) (by omega) (by omega), cpA_m (v := 16) 16 rfl (by omega) (by omega) (by omega), cpA_m (v := 4) 4 rfl (by omega) (by omega) (by omega)]
  have c13 : ∀ j, j < 64 → (cp2 (cp2 (cp2 (cp2 m3 (s + 5 + 8) 0 (d + 5 + 8) 0 64) (s + 5 + 9) 0 (d + 5 + 9) 0 16) (s + 5 + 10) 0 (d + 5 + 10) 0 16) (s + 5 + 11) 0 (d + 5 + 11) 0 4) (d + 13) j = μ (s + 13) j := fun j hj => by
    rw [cp2_ne (by omega), cp2_ne (by omega), cp2_ne (by omega), show d + 13 = d + 5 + 8 by omega, cp2_in hj, sm3 _ (by omega) (by omega)]
  have c14 : ∀ j, j < 16 → (cp2 (cp2 (cp2 (cp2 m3 (s + 5 + 8) 0 (d + 5 + 8) 0 64) (s + 5 + 9) 0 (d + 5 + 9) 0 16) (s + 5 + 10) 0 (d + 5 + 10) 0 16) (s + 5 + 11) 0 (d + 5 + 11) 0 4) (d + 14) j = μ (s + 14) j := fun j hj => by
    rw [cp2_ne (by omega), cp2_ne (by omega), show d + 14 = d + 5 + 9 by omega, cp2_in hj, cp2_ne (by omega), sm3 _ (by omega) (by omega)]
  have c15 : ∀ j, j < 16 → (cp2 (cp2 (cp2 (cp2 m3 (s + 5 + 8) 0 (d + 5 + 8) 0 64) (s + 5 + 9) 0 (d + 5 + 9) 0 16) (s + 5 + 10) 0 (d + 5 + 10) 0 16) (s + 5 + 11) 0 (d + 5 + 11) 0 4) (d + 15) j = μ (s + 15) j := fun j hj => by
    rw [cp2_ne (by omega), show d + 15 = d + 5 + 10 by omega, cp2_in hj, cp2_ne (by omega), cp2_ne (by omega), sm3 _ (by omega) (by omega)]
  have c16 : ∀ j, j < 4 → (cp2 (cp2 (cp2 (cp2 m3 (s + 5 + 8) 0 (d + 5 + 8) 0 64) (s + 5 + 9) 0 (d + 5 + 9) 0 16) (s + 5 + 10) 0 (d + 5 + 10) 0 16) (s + 5 + 11) 0 (d + 5 + 11) 0 4) (d + 16) j = μ (s + 16) j := fun j hj => by
    rw [show d + 16 = d + 5 + 11 by omega, cp2_in hj, cp2_ne (by omega), cp2_ne (by omega), cp2_ne (by omega), sm3 _ (by omega) (by omega)]
  have co : ∀ k, (k < d + 13 ∨ d + 17 ≤ k) → (cp2 (cp2 (cp2 (cp2 m3 (s + 5 + 8) 0 (d + 5 + 8) 0 64) (s + 5 + 9) 0 (d + 5 + 9) 0 16) (s + 5 + 10) 0 (d + 5 + 10) 0 16) (s + 5 + 11) 0 (d + 5 + 11) 0 4) k = m3 k := fun k hk => by
    rw [cp2_ne (by omega), cp2_ne (by omega), cp2_ne (by omega), cp2_ne (by omega)]
  generalize cp2 (cp2 (cp2 (cp2 m3 (s + 5 + 8) 0 (d + 5 + 8) 0 64) (s + 5 + 9) 0 (d + 5 + 9) 0 16) (s + 5 + 10) 0 (d + 5 + 10) 0 16) (s + 5 + 11) 0 (d + 5 + 11) 0 4 = m4 at c13 c14 c15 c16 co
  refine ev_some ?_
  have dm : ∀ k, (k < d ∨ d + 17 ≤ k) → m4 k = μ k := fun k hk => by rw [co k (by omega), l6 k (by omega), o2 k (by omega), o1 k (by omega)]
  have hT : ToldX m4 (s + 17) (poT z) (poK z) := by
    obtain ⟨x, x0, x1, x2, x3, x4, x5, x6, x7, x8, x9⟩ := h9
    exact ⟨by rw [dm _ (by omega)]; exact x, rwC_row (dm _ (by omega)) (dm _ (by omega)) x0, rwC_row (dm _ (by omega)) (dm _ (by omega)) x1, rwC_row (dm _ (by omega)) (dm _ (by omega)) x2, rwC_row (dm _ (by omega)) (dm _ (by omega)) x3, rwC_row (dm _ (by omega)) (dm _ (by omega)) x4, rwC_row (dm _ (by omega)) (dm _ (by omega)) x5, rwC_row (dm _ (by omega)) (dm _ (by omega)) x6, rwC_row (dm _ (by omega)) (dm _ (by omega)) x7, rwC_row (dm _ (by omega)) (dm _ (by omega)) x8, rwC_row (dm _ (by omega)) (dm _ (by omega)) x9⟩
  have hB : tdB m4 (d + 17) := by
    unfold tdB at hb ⊢
    rw [dm _ (by omega), dm _ (by omega), dm _ (by omega), dm _ (by omega), dm _ (by omega), dm _ (by omega), dm _ (by omega), dm _ (by omega), dm _ (by omega), dm _ (by omega)]; exact hb
  refine ev_cl (ev_mono (td_copy (by omega) hT hB) (fun _ m5 g5 => ev_some ⟨⟨?_, fun k hk => ?_, ?_, fun q hq => ?_, ⟨?_, fun l hl => ?_⟩, ?_, ?_, ?_, g5.1⟩, fun k hk => ?_⟩))
  · have e : ∀ k, d + 1 ≤ k → k < d + 4 → m5 k = m1 k := fun k a b => by rw [g5.2 k (by omega), co k (by omega), l6 k (by omega), o2 k (by omega)]
    exact figC_congr (e _ (by omega) (by omega)) (e _ (by omega) (by omega)) (e _ (by omega) (by omega)) g1.1
  · rw [g5.2 _ (by omega), co _ (by omega), l6 _ (by omega), b2 k hk]; exact h2 k hk
  · exact lawC_off (fun k a b => by rw [g5.2 k (by omega), co k (by omega)]) hL
  · rw [g5.2 _ (by omega), g5.2 _ (by omega), c14 q hq, c15 q hq]; exact h4 q hq
  · rw [g5.2 _ (by omega), c16 2 (by omega)]; exact h5.1
  · rw [g5.2 (d + 13) (by omega), c13 _ (by omega), c13 _ (by omega), c13 _ (by omega), c13 _ (by omega)]; exact h5.2 l hl
  · rw [g5.2 _ (by omega), c16 0 (by omega)]; exact h6
  · rw [g5.2 _ (by omega), c16 1 (by omega)]; exact h7
  · rw [g5.2 _ (by omega), c16 3 (by omega)]; exact h8
  · rw [g5.2 k (by omega), dm k (by omega)]
