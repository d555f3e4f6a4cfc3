/-! L3: A NEW PORT -/
theorem tx_init {a : Nat} {μ : Mu} {y : Ly} (hN : mmN y = a + 1) (ha : y.2[a]? = some (8, 5)) : EvA (Tx_init a μ y) (fun _ μ' y' => y.2 <+: y'.2 ∧ mmN y' = a + 12 ∧ mmS y' = mmS y + 604 ∧ (∀ k, k < a → y'.1 k = y.1 k) ∧ (∀ k, k < a → μ' k = μ k) ∧ LyTx y' a ∧ LawC (a + 1) μ' [] ∧ (∀ j, j < 16 → μ' (a + 9) j = -1) ∧ (∀ j, μ' (a + 10) j = 0) ∧ ∀ j, μ' (a + 11) j = 0) := by
  unfold Tx_init
  refine st_obj (P := fun μ2 y2 => LyLw y2 (a + 1) ∧ LawC (a + 1) μ2 []) (len := 7) (s := 496) hN ha (fun μ1 y1 b1 b2 _ _ b3 => eva_mono (lw_init b1 b2 b3) (fun _ μ2 y2 g => ⟨g.1, by rw [g.2.1], g.2.2.1, g.2.2.2.1, g.2.2.2.2.1, g.2.2.2.2.2.1, g.2.2.2.2.2.2⟩)) (fun μ1 y1 y1' g1 n1 s1 h1 f1 x1 x2 l1 => ?_)
  refine st_arr n1 h1 (fun μ2 y2 g2 n2 s2 h2 f2 l2 _ => ?_)
  refine st_arr n2 h2 (fun μ3 y3 g3 n3 s3 h3 f3 l3 _ => ?_)
  refine st_arr n3 h3 (fun μ4 y4 g4 n4 s4 h4 f4 l4 z4 => ?_)
  refine st_arr n4 h4 (fun μ5 y5 g5 n5 s5 h5 f5 l5 z5 => ?_)
  have t4 := g5
  have t3 := gw_trans (by omega) g4 t4
  have t2 := gw_trans (by omega) g3 t3
  have t1 := gw_trans (by omega) g2 t2
  have t0 := gw_trans (by omega) g1 t1
  have hLw : LyLw y1 (a + 1) := lyLw_ext (by rw [← eq_N x2]; omega) (fun k hk => by rw [x2]) (fun k u v => x1 k (by omega)) l1.1
  have hr9 : y5.1 a 2 = some (a + 9) := fld_gw t3 (by decide) l3
  have hs9 : y5.2[a + 9]? = some (0, 16) := at_gw t3 (by omega) f3
  refine eva_ckP h5 (eva_gR hr9 (eva_ckP hs9 (eva_cl (ev_mono (ja_fill (r := a + 9) (n := 16) (by omega) (by omega) (-1) _) (fun _ μ6 w => eva_some ⟨t0.1, by omega, by omega, fun k hk => t0.2.2.1 k (by omega) (by omega), fun k hk => ?_, ⟨h5, ⟨fld_gw t1 (by decide) f1, lyLw_ext (by omega) (pre_get t1.1) (fun k u v => t1.2.2.1 k (by omega) (by omega)) hLw⟩, ⟨fld_gw t2 (by decide) l2, at_gw t2 (by omega) f2⟩, ⟨hr9, hs9⟩, ⟨fld_gw t4 (by decide) l4, at_gw t4 (by omega) f4⟩, ⟨l5, f5⟩, trivial⟩, ?_, w.1, fun j => ?_, fun j => ?_⟩)))))
  · rw [w.2 k (fun z => by
      simp only [List.mem_cons, List.not_mem_nil, or_false] at z; omega), t0.2.2.2.2 k (by omega)]
  · refine lawC_off (fun k u v => ?_) l1.2
    rw [w.2 k (fun z => by
      simp only [List.mem_cons, List.not_mem_nil, or_false] at z; omega), t1.2.2.2.2 k (by omega)]
  · rw [w.2 (a + 10) (fun z => by
      simp only [List.mem_cons, List.not_mem_nil, or_false] at z; omega), t4.2.2.2.2 (a + 10) (by omega)]
    exact z4 j
  · rw [w.2 (a + 11) (fun z => by
      simp only [List.mem_cons, List.not_mem_nil, or_false] at z; omega)]
    exact z5 j
def zPE : PoS := (0, (N0, N0), [], N0, [], 0, 0, 0, fun _ => [])
theorem figC_new {c : Nat} {μ : Mu} {th : Int32} (h0 : μ c 0 = th) (h1 : ∀ j, j ≠ 0 → μ c j = 0) (h2 : ∀ j, μ (c + 1) j = 0) (h3 : ∀ j, j < 16 → μ (c + 2) j = -1) : FigC 0 c th μ N0 := by
  refine ⟨by omega, h0, (h1 3 (by omega)).trans rfl, fun j a b => (h1 j (by omega)).trans rfl, fun p f hp => absurd hp (by omega), fun p hp => absurd hp (by omega), fun p hp => absurd hp (by omega), fun s hs => (h3 s hs).trans (whoN_no (fun p hp => absurd hp (by omega))).symm, fun p f _ _ _ _ => h2 _⟩
theorem hcS_0 (n q : Nat) (hq : q < 16) : hcS N0 n q = 0 := by
  unfold hcS
  induction n with
  | zero => rfl
  | succ n ih =>
    rw [fb_ct_succ, ih, decide_eq_false (show ¬ N0 n = nI (q + 1) from fun z => ?_)]
    · rfl
    · exact nI_ne0 (n := q + 1) (by omega) (by omega) z.symm
theorem pt_init {a : Nat} {μ : Mu} {y : Ly} (hN : mmN y = a + 1) (ha : y.2[a]? = some (5, 4)) : EvA (Pt_init a μ y) (fun _ μ' y' => y.2 <+: y'.2 ∧ mmN y' = a + 38 ∧ mmS y' = mmS y + 1476 ∧ (∀ k, k < a → y'.1 k = y.1 k) ∧ (∀ k, k < a → μ' k = μ k) ∧ LyPt y' a ∧ PortX μ' a zPE) := by
  unfold Pt_init
  refine st_obj (P := fun μ2 y2 => LyFg y2 (a + 1) ∧ FigC 0 (a + 1) 0 μ2 N0) (len := 3) (s := 128) hN ha (fun μ1 y1 b1 b2 _ _ b3 => eva_mono (fg_init b1 b2 (Or.inl rfl)) (fun _ μ2 y2 g => ⟨g.1, g.2.1, g.2.2.1, g.2.2.2.2.1, g.2.2.2.2.2.1, g.2.2.2.1, figC_new g.2.2.2.2.2.2.1 (fun j hj => (g.2.2.2.2.2.2.2.1 j hj).trans (b3 j)) g.2.2.2.2.2.2.2.2.1 g.2.2.2.2.2.2.2.2.2⟩)) (fun μ1 y1 y1' g1 n1 s1 h1 f1 x1 x2 l1 => ?_)
  refine st_arr n1 h1 (fun μ2 y2 g2 n2 s2 h2 f2 l2 z2 => ?_)
  refine st_obj (P := fun μ3 y3 => LyTx y3 (a + 5) ∧ LawC (a + 6) μ3 [] ∧ (∀ j, j < 16 → μ3 (a + 14) j = -1) ∧ (∀ j, μ3 (a + 15) j = 0) ∧ ∀ j, μ3 (a + 16) j = 0) (len := 12) (s := 604) n2 h2 (fun μ3 y3 b1 b2 _ _ b3 => eva_mono (tx_init b1 b2) (fun _ μ4 y4 g => ⟨g.1, g.2.1, g.2.2.1, g.2.2.2.1, g.2.2.2.2.1, g.2.2.2.2.2⟩)) (fun μ3 y3 y3' g3 n3 s3 h3 f3 v1 v2 l3 => ?_)
  refine st_obj (P := fun μ4 y4 => LyTd y4 (a + 17) ∧ ToldX μ4 (a + 17) 0 (fun _ => [])) (len := 21) (s := 118) n3 h3 (fun μ4 y4 b1 b2 _ _ b3 => eva_mono (td_init b1 b2 b3) (fun _ μ5 y5 g => ⟨g.1, g.2.1, g.2.2.1, g.2.2.2.1, g.2.2.2.2.1, g.2.2.2.2.2⟩)) (fun μ4 y4 y4' g4 n4 s4 h4 f4 w1 w2 l4 => ?_)
  have t3 := g4
  have t2 := gw_trans (by omega) g3 t3
  have t1 := gw_trans (by omega) g2 t2
  have t0 := gw_trans (by omega) g1 t1
  have hFg : LyFg y1 (a + 1) := lyFg_ext (by rw [← eq_N x2]; omega) (fun k hk => by rw [x2]) (x1 _ (by omega)) l1.1
  have hTx : LyTx y3 (a + 5) := lyTx_ext (by rw [← eq_N v2]; omega) (fun k hk => by rw [v2]) (fun k u v => v1 k (by omega)) l3.1
  have hTd : LyTd y4 (a + 17) := lyTd_ext (by rw [← eq_N w2]; omega) (fun k hk => by rw [w2]) (fun k u v => w1 k (by omega)) l4.1
  have q1 : ∀ k, k < a + 4 → μ4 k = μ1 k := fun k hk => t1.2.2.2.2 k (by omega)
  have q3 : ∀ k, k < a + 17 → μ4 k = μ3 k := fun k hk => t3.2.2.2.2 k (by omega)
  refine eva_some ⟨t0.1, by omega, by omega, fun k hk => t0.2.2.1 k (by omega) (by omega), fun k hk => t0.2.2.2.2 k (by omega), ⟨h4, ⟨fld_gw t1 (by decide) f1, lyFg_ext (by omega) (pre_get t1.1) (t1.2.2.1 _ (by omega) (by omega)) hFg⟩, ⟨fld_gw t2 (by decide) l2, at_gw t2 (by omega) f2⟩, ⟨fld_gw t3 (by decide) f3, lyTx_ext (by omega) (pre_get t3.1) (fun k u v => t3.2.2.1 k (by omega) (by omega)) hTx⟩, ⟨f4, hTd⟩, trivial⟩, figC_congr (q1 _ (by omega)) (q1 _ (by omega)) (q1 _ (by omega)) l1.2, fun k hk => ?_, lawC_off (fun k u v => q3 k (by omega)) l3.2.1, fun q hq => ?_, ⟨?_, fun l hl => absurd hl (by show ¬ l < 0; omega)⟩, ?_, ?_, ?_, l4.2⟩
  · rw [t2.2.2.2.2 _ (by omega)]; exact z2 k
  · rw [q3 _ (by omega), q3 _ (by omega), l3.2.2.1 q hq, l3.2.2.2.1 q]
    show (-1 : Int32) = N0 q - 1 ∧ (0 : Int32) = nI (hcS N0 16 q)
    rw [hcS_0 16 q hq]; exact ⟨by unfold N0; decide, rfl⟩
  · rw [q3 _ (by omega), l3.2.2.2.2]; rfl
  · rw [q3 _ (by omega), l3.2.2.2.2]; rfl
  · rw [q3 _ (by omega), l3.2.2.2.2]; rfl
  · rw [q3 _ (by omega), l3.2.2.2.2]; rfl
