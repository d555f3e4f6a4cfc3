/-! L3: THE BEGINNING: the class -/
theorem st_tail {ρ : Type} {a q f kd sz kd' sz' len s : Nat} {μ μ1 : Mu} {y y1 : Ly} {oc : Option (Unit × Mm)} {P : Mu → Ly → Prop} {F : Mu → Ly → Option (ρ × Mm)} {Q : ρ → Mu → Ly → Prop} (hN : mmN y = q) (ha : y.2[a]? = some (kd, sz)) (a1 : y1.2 = y.2 ++ [(kd', sz')]) (a2 : ∀ k, k ≠ q → y1.1 k = y.1 k) (a4 : ∀ k, k ≠ q → μ1 k = μ k) (hI : EvA oc (fun _ μ2 y2 => y1.2 <+: y2.2 ∧ mmN y2 = q + len ∧ mmS y2 = mmS y1 + s ∧ (∀ k, k < q → y2.1 k = y1.1 k) ∧ (∀ k, k < q → μ2 k = μ1 k) ∧ P μ2 y2)) (h : ∀ μ1 y1 y2, Gw a q [f] μ μ1 y y1 → mmN y1 = q + len → mmS y1 = mmS y + sz' + s → y1.2[a]? = some (kd, sz) → y1.1 a f = some q → (∀ k, k ≠ a → y1.1 k = y2.1 k) → y1.2 = y2.2 → P μ1 y2 → EvA (F μ1 y1) Q) : EvA (clm y1 oc (fun _ μ4 y5 => ckP (y5.2[a]? = some (kd, sz)) (pR y5 a f q (fun y7 => F μ4 y7)))) Q := by
  have haq := lt_of_get ha
  have h1 : y1.2[a]? = some (kd, sz) := (pre_get (app_pre a1) a haq).trans ha
  have n1 : mmN y1 = q + 1 := by rw [app_N a1, hN]
  refine eva_clm (eva_mono hI (fun _ μ2 y2 g => ⟨g.1, ?_⟩))
  obtain ⟨g1, g2, g3, g4, g5, g6⟩ := g
  have h2 : y2.2[a]? = some (kd, sz) := (pre_get g1 a (by omega)).trans h1
  refine eva_ckP h2 (eva_pR (fun y3 b1 b2 b3 b4 => ?_))
  refine h μ2 y3 y2 ⟨by rw [b1]; exact (app_pre a1).trans g1, hN, fun k hk hka => by rw [b2 k hka, g4 k hk, a2 k (by omega)], fun j hj => ?_, fun k hk => by rw [g5 k hk, a4 k (by omega)]⟩ (by rw [eq_N b1, g2]) (by rw [eq_S b1, g3, app_S a1]) (by rw [b1]; exact h2) b4 b2 b1 g6
  have hj' : j ≠ f := fun z => hj (by rw [z]; exact List.mem_singleton_self _)
  rw [b3 j hj', g4 a (by omega), a2 a (by omega)]
theorem dy_init {a : Nat} {μ : Mu} {y : Ly} (hN : mmN y = a + 1) (ha : y.2[a]? = some (2, 4)) (h1 : y.2[1]? = some (5, 4)) (h12 : y.1 1 2 = some 6) (ha1 : 1 < a) : EvA (Dy_init a 1 μ y) (fun _ μ' y' => y.2 <+: y'.2 ∧ mmN y' = a + 3 ∧ mmS y' = mmS y + 26 ∧ (∀ k, k < a → y'.1 k = y.1 k) ∧ (∀ k, k < a → μ' k = μ k) ∧ (y'.2[a]? = some (2, 4) ∧ y'.1 a 0 = some 1 ∧ y'.1 a 1 = some 6 ∧ (y'.1 a 2 = some (a + 1) ∧ y'.2[a + 1]? = some (0, 10)) ∧ (y'.1 a 3 = some (a + 2) ∧ y'.2[a + 2]? = some (0, 16)))) := by
  unfold Dy_init
  refine st_arr hN ha (fun μ1 y1 g1 n1 s1 e1 e2 e3 _ => ?_)
  refine st_arr n1 e1 (fun μ2 y2 g2 n2 s2 f1 f2 f3 _ => ?_)
  refine eva_ckP f1 (eva_pR (fun y3 b1 b2 b3 b4 => ?_))
  have t0 := gw_trans (by omega) g1 g2
  have h1' : y3.2[1]? = some (5, 4) := by rw [b1]; exact at_gw t0 (by omega) h1
  have h12' : y3.1 1 2 = some 6 := by rw [b2 1 (by omega), t0.2.2.1 1 (by omega) (by omega)]; exact h12
  have f1' : y3.2[a]? = some (2, 4) := by rw [b1]; exact f1
  refine eva_ckP h1' (eva_gR h12' (eva_ckP f1' (eva_pR (fun y4 c1 c2 c3 c4 => eva_some ⟨?_, by rw [eq_N c1, eq_N b1, n2], by rw [eq_S c1, eq_S b1, s2, s1], fun k hk => ?_, fun k hk => t0.2.2.2.2 k (by omega), by rw [c1]; exact f1', ?_, c4, ⟨?_, ?_⟩, ?_, ?_⟩))))
  · rw [c1, b1]; exact t0.1
  · rw [c2 k (by omega), b2 k (by omega), t0.2.2.1 k (by omega) (by omega)]
  · rw [c3 0 (by decide)]; exact b4
  · rw [c3 2 (by decide), b3 2 (by decide)]; exact fld_gw g2 (by decide) e3
  · rw [c1, b1]; exact at_gw g2 (by omega) e2
  · rw [c3 3 (by decide), b3 3 (by decide)]; exact f3
  · rw [c1, b1]; exact f2
theorem th_init {a x : Nat} {μ : Mu} {y : Ly} (hN : mmN y = a + 1) (ha : y.2[a]? = some (9, 3)) : EvA (Th_init a x μ y) (fun _ μ' y' => y.2 <+: y'.2 ∧ mmN y' = a + 3 ∧ mmS y' = mmS y + 393 ∧ (∀ k, k < a → y'.1 k = y.1 k) ∧ (∀ k, k < a → μ' k = μ k) ∧ (y'.2[a]? = some (9, 3) ∧ y'.1 a 0 = some x ∧ (y'.1 a 1 = some (a + 1) ∧ y'.2[a + 1]? = some (0, 361)) ∧ (y'.1 a 2 = some (a + 2) ∧ y'.2[a + 2]? = some (0, 32)))) := by
  unfold Th_init
  refine st_arr hN ha (fun μ1 y1 g1 n1 s1 e1 e2 e3 _ => ?_)
  refine st_arr n1 e1 (fun μ2 y2 g2 n2 s2 f1 f2 f3 _ => ?_)
  have t0 := gw_trans (by omega) g1 g2
  refine eva_ckP f1 (eva_pR (fun y3 b1 b2 b3 b4 => eva_some ⟨by rw [b1]; exact t0.1, by rw [eq_N b1, n2], by rw [eq_S b1, s2, s1], fun k hk => ?_, fun k hk => t0.2.2.2.2 k (by omega), by rw [b1]; exact f1, b4, ⟨?_, ?_⟩, ?_, ?_⟩))
  · rw [b2 k (by omega), t0.2.2.1 k (by omega) (by omega)]
  · rw [b3 1 (by decide)]; exact fld_gw g2 (by decide) e3
  · rw [b1]; exact at_gw g2 (by omega) e2
  · rw [b3 2 (by decide)]; exact f3
  · rw [b1]; exact f2
theorem rd_init {a : Nat} {μ : Mu} {y : Ly} (hN : mmN y = a + 1) (ha : y.2[a]? = some (6, 13)) (h0 : ∀ j, μ a j = 0) : EvA (Rd_init a μ y) (fun _ μ' y' => y.2 <+: y'.2 ∧ mmN y' = a + 10 ∧ mmS y' = mmS y + 968 ∧ (∀ k, k < a → y'.1 k = y.1 k) ∧ (∀ k, k < a → μ' k = μ k) ∧ LyRd y' a ∧ μ' a 9 = -1 ∧ ∀ j, j ≠ 9 → μ' a j = 0) := by
  unfold Rd_init
  refine st_arr hN ha (fun μ1 y1 g1 n1 s1 e1 e2 e3 _ => ?_)
  refine eva_ckP e1 (eva_pF ?_)
  refine st_obj (P := fun μ2 y2 => LyLw y2 (a + 2)) (len := 7) (s := 496) n1 e1 (fun μ2 y2 b1 b2 _ _ b3 => eva_mono (lw_init b1 b2 b3) (fun _ μ3 y3 g => ⟨g.1, g.2.1, g.2.2.1, g.2.2.2.1, g.2.2.2.2.1, g.2.2.2.2.2.1⟩)) (fun μ2 y2 y2' g2 n2 s2 f1 f2 x1 x2 l2 => ?_)
  refine st_arr n2 f1 (fun μ3 y3 g3 n3 s3 k1 k2 k3 _ => ?_)
  have hLw : LyLw y2 (a + 2) := lyLw_ext (by rw [← eq_N x2]; omega) (fun k hk => by rw [x2]) (fun k u v => x1 k (by omega)) l2
  have t2 := gw_trans (by omega) g2 g3
  refine eva_some ⟨g1.1.trans t2.1, by omega, by omega, fun k hk => ?_, fun k hk => ?_, ⟨k1, ⟨fld_gw t2 (by decide) e3, at_gw t2 (by omega) e2⟩, ⟨fld_gw g3 (by decide) f2, lyLw_ext (by omega) (pre_get g3.1) (fun k u v => g3.2.2.1 k (by omega) (by omega)) hLw⟩, ⟨k3, k2⟩, trivial⟩, ?_, fun j hj => ?_⟩
  · rw [t2.2.2.1 k (by omega) (by omega), g1.2.2.1 k (by omega) (by omega)]
  · rw [t2.2.2.2.2 k (by omega), up2_ne (by omega), g1.2.2.2.2 k (by omega)]
  · rw [t2.2.2.2.2 a (by omega), up2_same]
  · rw [t2.2.2.2.2 a (by omega), up2_off (Or.inr hj), g1.2.2.2.2 a (by omega)]; exact h0 j
theorem sf_init {μ : Mu} {y : Ly} (hN : mmN y = 1) (ha : y.2[0]? = some (11, 9)) (h0 : ∀ j, μ 0 j = 0) (hn : ∀ j, y.1 0 j = none) : EvA (Sf_init 0 μ y) (fun _ μ' y' => y.2 <+: y'.2 ∧ mmN y' = 59 ∧ mmS y' ≤ mmS y + 4000 ∧ LySf y' 0 ∧ (∀ j, y'.1 58 j = none) ∧ y'.1 0 1 = none ∧ (∀ j, μ' 0 j = 0) ∧ PortX μ' 1 zPE ∧ μ' 42 0 = 1 ∧ μ' 48 9 = -1 ∧ ∀ j, j ≠ 9 → μ' 48 j = 0) := by
  unfold Sf_init
  -- the port
  refine st_obj (P := fun μ2 y2 => LyPt y2 1 ∧ PortX μ2 1 zPE) (len := 38) (s := 1476) hN ha (fun μ1 y1 b1 b2 _ _ b3 => eva_mono (pt_init b1 b2) (fun _ μ2 y2 g => ⟨g.1, g.2.1, g.2.2.1, g.2.2.2.1, g.2.2.2.2.1, g.2.2.2.2.2⟩)) (fun μ1 y1 y1' g1 n1 s1 e1 f1 x1 x2 l1 => ?_)
  have hPt : LyPt y1 1 := lyPt_ext (by rw [← eq_N x2]; omega) (fun k hk => by rw [x2]) (fun k u v => x1 k (by omega)) l1.1
  -- the days
  refine eva_nw (q := 39) (by omega) (fun μ2 y2 a1 a2 a3 a4 a5 => ?_)
  have e2 : y2.2[0]? = some (11, 9) := (pre_get (app_pre a1) 0 (by omega)).trans e1
  have r2 : y2.1 0 0 = some 1 := by rw [a2 0 (by omega)]; exact f1
  refine eva_ckP e2 (eva_gR r2 ?_)
  have h51 : y2.2[1]? = some (5, 4) := (pre_get (app_pre a1) 1 (by omega)).trans hPt.1
  have h12 : y2.1 1 2 = some 6 := by rw [a2 1 (by omega)]; exact hPt.2.2.2.1.1
  refine st_tail (len := 3) (s := 26) (P := fun μ' y' => (y'.2[39]? = some (2, 4) ∧ y'.1 39 0 = some 1 ∧ y'.1 39 1 = some 6 ∧ (y'.1 39 2 = some 40 ∧ y'.2[40]? = some (0, 10)) ∧ (y'.1 39 3 = some 41 ∧ y'.2[41]? = some (0, 16)))) (by omega) e1 a1 a2 a4 (eva_mono (dy_init (by rw [app_N a1]; omega) (app_at a1 (by omega)) h51 h12 (by omega)) (fun _ μ3 y3 g => g)) (fun μ3 y3 y3' g3 n3 s3 e3 f3 v1 v2 l3 => ?_)
  -- the thought
  refine st_obj (P := fun μ2 y2 => LyFg y2 42 ∧ μ2 42 0 = 1) (len := 3) (s := 128) n3 e3 (fun μ4 y4 b1 b2 _ _ b3 => eva_mono (fg_init b1 b2 (Or.inr rfl)) (fun _ μ5 y5 g => ⟨g.1, g.2.1, g.2.2.1, g.2.2.2.2.1, g.2.2.2.2.2.1, g.2.2.2.1, g.2.2.2.2.2.2.1⟩)) (fun μ4 y4 y4' g4 n4 s4 e4 f4 w1 w2 l4 => ?_)
  have hFg : LyFg y4 42 := lyFg_ext (by rw [← eq_N w2]; omega) (fun k hk => by rw [w2]) (w1 42 (by omega)) l4.1
  -- the thinker
  have t13 := gw_trans (by omega) g3 g4
  refine eva_nw (q := 45) n4 (fun μ5 y5 c1 c2 c3 c4 c5 => ?_)
  have e5 : y5.2[0]? = some (11, 9) := (pre_get (app_pre c1) 0 (by omega)).trans e4
  have r5 : y5.1 0 0 = some 1 := by rw [c2 0 (by omega)]; exact fld_gw t13 (by decide) f1
  have h51' : y5.2[1]? = some (5, 4) := (pre_get (app_pre c1) 1 (by omega)).trans (at_gw t13 (by omega) hPt.1)
  have h13 : y5.1 1 3 = some 18 := by rw [c2 1 (by omega), t13.2.2.1 1 (by omega) (by omega)]; exact hPt.2.2.2.2.1.1
  refine eva_ckP e5 (eva_gR r5 (eva_ckP h51' (eva_gR h13 ?_)))
  refine st_tail (len := 3) (s := 393) (P := fun μ' y' => (y'.2[45]? = some (9, 3) ∧ y'.1 45 0 = some 18 ∧ (y'.1 45 1 = some 46 ∧ y'.2[46]? = some (0, 361)) ∧ (y'.1 45 2 = some 47 ∧ y'.2[47]? = some (0, 32)))) n4 e4 c1 c2 c4 (eva_mono (th_init (by rw [app_N c1]; omega) (app_at c1 n4)) (fun _ μ6 y6 g => g)) (fun μ6 y6 y6' g6 n6 s6 e6 f6 k1 k2 l6 => ?_)
  -- the reader
  refine st_obj (P := fun μ2 y2 => LyRd y2 48 ∧ μ2 48 9 = -1 ∧ ∀ j, j ≠ 9 → μ2 48 j = 0) (len := 10) (s := 968) n6 e6 (fun μ7 y7 b1 b2 _ _ b3 => eva_mono (rd_init b1 b2 b3) (fun _ μ8 y8 g => g)) (fun μ7 y7 y7' g7 n7 s7 e7 f7 m1 m2 l7 => ?_)
  -- what is kept
  refine eva_nw (q := 58) n7 (fun μ8 y8 d1 d2 d3 d4 d5 => ?_)
  have e8 : y8.2[0]? = some (11, 9) := (pre_get (app_pre d1) 0 (by omega)).trans e7
  refine eva_ckP e8 (eva_pR (fun y9 p1 p2 p3 p4 => ?_))
  have g9 : Gw 0 58 [6] μ7 μ8 y7 y9 := ⟨by rw [p1]; exact app_pre d1, n7, fun k hk h0 => by rw [p2 k h0, d2 k (by omega)], fun j hj => by rw [p3 j (fun z => hj (by rw [z]; decide)), d2 0 (by omega)], fun k hk => d4 k (by omega)⟩
  have t7 := gw_trans (by omega) g7 g9
  have t6 := gw_trans (by omega) g6 t7
  have t4 := gw_trans (by omega) g4 t6
  have t3 := gw_trans (by omega) g3 t4
  have t0 := gw_trans (by omega) g1 t3
  have n9 : mmN y9 = 59 := by rw [eq_N p1, app_N d1, n7]
  have hPt9 : LyPt y9 1 := lyPt_ext (by omega) (pre_get t3.1) (fun k u v => t3.2.2.1 k (by omega) (by omega)) hPt
  have y3e : ∀ k, 39 ≤ k → k < 42 → y9.1 k = y3'.1 k := fun k u v => by rw [t4.2.2.1 k (by omega) (by omega), v1 k (by omega)]
  have y3s : ∀ k, k < 42 → y9.2[k]? = y3'.2[k]? := fun k hk => by rw [pre_get t4.1 k (by omega), v2]
  have y6e : ∀ k, 45 ≤ k → k < 48 → y9.1 k = y6'.1 k := fun k u v => by rw [t7.2.2.1 k (by omega) (by omega), k1 k (by omega)]
  have y6s : ∀ k, k < 48 → y9.2[k]? = y6'.2[k]? := fun k hk => by rw [pre_get t7.1 k (by omega), k2]
  obtain ⟨q1, q2, q3, ⟨q4, q5⟩, q6, q7⟩ := l3
  obtain ⟨u1, u2, ⟨u3, u4⟩, u5, u6⟩ := l6
  refine eva_some ⟨t0.1, n9, ?_, ⟨?_, ⟨fld_gw t3 (by decide) f1, hPt9⟩, ⟨fld_gw t4 (by decide) f3, ?_⟩, ⟨fld_gw t6 (by decide) f4, lyFg_ext (by omega) (pre_get t6.1) (t6.2.2.1 _ (by omega) (by omega)) hFg⟩, ⟨fld_gw t7 (by decide) f6, ?_⟩, ⟨fld_gw g9 (by decide) f7, ?_⟩, ⟨p4, by rw [p1]; exact app_at d1 n7⟩, trivial⟩, fun j => by rw [p2 58 (by decide)]; exact d3 j, ?_, fun j => ?_, ?_, ?_, ?_, fun j hj => ?_⟩
  · rw [eq_S p1, app_S d1, s7, s6, s4, s3, s1]; omega
  · rw [p1]; exact e8
  · refine ⟨by rw [y3s 39 (by omega)]; exact q1, ⟨by rw [y3e 39 (by omega) (by omega)]; exact q2, hPt9⟩, ⟨by rw [y3e 39 (by omega) (by omega)]; exact q3, hPt9.2.2.2.1.2⟩, ⟨by rw [y3e 39 (by omega) (by omega)]; exact q4, by rw [y3s 40 (by omega)]; exact q5⟩, ⟨by rw [y3e 39 (by omega) (by omega)]; exact q6, by rw [y3s 41 (by omega)]; exact q7⟩, trivial⟩
  · refine ⟨by rw [y6s 45 (by omega)]; exact u1, ⟨by rw [y6e 45 (by omega) (by omega)]; exact u2, hPt9.2.2.2.2.1.2⟩, ⟨by rw [y6e 45 (by omega) (by omega)]; exact u3, by rw [y6s 46 (by omega)]; exact u4⟩, ⟨by rw [y6e 45 (by omega) (by omega)]; exact u5, by rw [y6s 47 (by omega)]; exact u6⟩, trivial⟩
  · have hr : LyRd y7 48 := by
      have h := l7.1
      simp only [LyRd, LyLw] at h ⊢
      simp (disch := omega) only [m1, m2]
      exact h
    have h := hr
    simp only [LyRd, LyLw] at h ⊢
    have h1 : ∀ k, 0 < k → k < 58 → y9.1 k = y7.1 k := fun k a b => g9.2.2.1 k b (by omega)
    have h2 : ∀ k, k < 58 → y9.2[k]? = y7.2[k]? := fun k hk => pre_get g9.1 k (by omega)
    simp (disch := omega) only [h1, h2]
    exact h
  · rw [t0.2.2.2.1 1 (by decide)]; exact hn 1
  · rw [t0.2.2.2.2 0 (by omega)]; exact h0 j
  · have hp := (portX_1.mp l1.2)
    exact portX_1.mpr (portC_of (fun k a b _ => t3.2.2.2.2 k (by omega)) hp)
  · rw [t6.2.2.2.2 42 (by omega)]; exact l4.2
  · rw [g9.2.2.2.2 48 (by omega)]; exact l7.2.1
  · rw [g9.2.2.2.2 48 (by omega)]; exact l7.2.2 j hj
def zE0 : Zt := (zPE, [], [], 0, -1, none)
theorem start_k {ρ : Type} {F : Nat → Nat → Mu → Ly → Option (ρ × Mm)} {Q : ρ → Mu → Ly → Prop} (hF : ∀ μ y, mmN y = 99 → mmS y ≤ 20000 → Rep μ y zE0 → EvA (F 0 59 μ y) Q) : EvA (nwK μ00 y00 11 9 (fun q1 μ2 y3 => clm y3 (Sf_init q1 μ2 y3) (fun _ μ4 y5 => nwK μ4 y5 12 69 (fun q6 μ7 y8 => clm y8 (Mo_init q6 μ7 y8) (fun _ μ9 y10 => F q1 q6 μ9 y10))))) Q := by
  refine eva_nw (q := 0) rfl (fun μ1 y1 a1 a2 a3 a4 a5 => ?_)
  refine eva_clm (eva_mono (sf_init (app_N a1) (app_at a1 rfl) a5 a3) (fun _ μ2 y2 g => ⟨g.1, ?_⟩))
  obtain ⟨g1, g2, g3, g4, g5, g6, g7, g8, g9, gA, gB⟩ := g
  refine eva_nw (q := 59) g2 (fun μ3 y3 b1 b2 b3 b4 b5 => ?_)
  have n3 : mmN y3 = 60 := by rw [app_N b1, g2]
  refine eva_clm (eva_mono (mo_init n3 (app_at b1 g2) b5) (fun _ μ4 y4 h => ⟨h.1, hF μ4 y4 h.2.1 ?_ ?_⟩))
  · have : mmS y1 = 9 := by rw [app_S a1]; rfl
    rw [h.2.2.1, app_S b1]; omega
  obtain ⟨h1, h2, h3, h4, h5, h6, h7, h8, h9, hA⟩ := h
  have lo : ∀ k, k < 59 → μ4 k = μ2 k := fun k hk => by rw [h6 k hk, b4 k (by omega)]
  have ly : ∀ k, k < 59 → y4.1 k = y2.1 k := fun k hk => by rw [h5 k hk, b2 k (by omega)]
  have hS : LySf y4 0 := lySf_ext (by omega) (pre_get ((app_pre b1).trans h1)) (fun k j a _ => by rw [ly k (by omega)]) g4
  have k58 : ∀ j, y4.1 58 j = none := fun j => by rw [ly 58 (by omega)]; exact g5 j
  have k01 : y4.1 0 1 = none := by rw [ly 0 (by omega)]; exact g6
  have nn : ∀ {α : Type} {x : α}, none = some x → False := fun z => by cases z
  refine ⟨⟨portC_of (fun k a b _ => lo k (by omega)) (portX_1.mp g8), by rw [lo 42 (by omega)]; exact g9, by rw [lo 48 (by omega)]; exact gB 1 (by decide), fun i hi => absurd hi (by show ¬ i < 0; omega), by rw [lo 48 (by omega)]; exact gB 8 (by decide), by rw [lo 48 (by omega)]; exact gA, ⟨0, by omega, by rw [lo 0 (by omega)]; exact g7 7, by rw [lo 0 (by omega)]; exact g7 8, fun i q _ hq => (nn ((k58 i).symm.trans hq)).elim, fun j hj => absurd hj (by show ¬ j < 0; omega)⟩, Or.inl ⟨k01, rfl⟩⟩, ⟨⟨fun k _ => h9 60 (by omega) (by omega) (by omega) k, fun k _ => h9 63 (by omega) (by omega) (by omega) k, h7 6 (by decide), ⟨fun _ => 0, h9 66 (by omega) (by omega) (by omega) 0, fun l hl => absurd hl (by show ¬ l < 0; omega)⟩, fun k _ => h9 77 (by omega) (by omega) (by omega) k, ⟨h7 34 (by decide), fun l hl => absurd hl (by show ¬ l < 0; omega)⟩, h7 31 (by decide), h7 36 (by decide), ?_⟩, ⟨funext fun k => h9 60 (by omega) (by omega) (by omega) k, funext fun k => h9 63 (by omega) (by omega) (by omega) k⟩, h7 5 (by decide), h7 3 (by decide), fun i k hi => absurd hi (by show ¬ i < 0; omega), h7 9 (by decide), fun i hi => absurd hi (by show ¬ i < 0; omega), hA, h7 29 (by decide), h8, Or.inl ⟨h7 66 (by decide), rfl⟩⟩, ⟨⟨⟨⟨by decide, fun p hp => absurd hp (by show ¬ p < 0; omega), fun p hp => absurd hp (by show ¬ p < 0; omega), fun p hp => absurd hp (by show ¬ p < 0; omega), fun p q hp => absurd hp (by show ¬ p < 0; omega), 0, by omega, rfl⟩, ⟨by decide, fun l hl => absurd hl (by show ¬ l < 0; omega)⟩, fun q hq => Or.inl rfl⟩, ⟨by decide, fun l hl => absurd hl (by show ¬ l < 0; omega)⟩, ?_⟩, Nat.zero_le 6, fun N hN => absurd hN List.not_mem_nil, Nat.zero_le _, fun b hb => absurd hb List.not_mem_nil, fun zi hz => (nn hz).elim⟩, hS, h4, fun i q _ hq => (nn ((k58 i).symm.trans hq)).elim, fun i j q r _ _ _ hq => (nn ((k58 i).symm.trans hq)).elim, fun r hr => (nn (k01.symm.trans hr)).elim, fun i q r _ hq => (nn ((k58 i).symm.trans hq)).elim⟩
  · have e : ∀ {a kf g n : Nat}, n ≤ 10 → μ4 a kf = 0 → RwM μ4 a kf g n [] := fun hn hk => ⟨hk, Nat.zero_le _, hn, fun j hj => absurd hj (by show ¬ j < 0; omega)⟩
    exact ⟨h7 41 (by decide), e (by omega) (h7 42 (by decide)), e (by omega) (h7 42 (by decide)), e (by omega) (h7 45 (by decide)), ⟨e (by omega) (h9 85 (by omega) (by omega) (by omega) 0), h9 85 (by omega) (by omega) (by omega) 1, Nat.zero_le _, fun j hj => absurd hj (by show ¬ j < 0; omega)⟩, e (by omega) (h7 51 (by decide)), e (by omega) (h7 55 (by decide)), e (by omega) (h7 58 (by decide)), e (by omega) (h7 58 (by decide)), e (by omega) (h7 61 (by decide))⟩
  · have e : ∀ lo hi : Int32, RwOk lo hi [] := fun lo hi v hv => absurd hv List.not_mem_nil
    exact ⟨e _ _, e _ _, rfl, fun i j hi => absurd hi (by show ¬ i < 0; omega), e _ _, e _ _, e _ _, e _ _, e _ _, e _ _, e _ _, rfl, e _ _⟩
