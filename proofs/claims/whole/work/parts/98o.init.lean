/-! L3: THE MAKERS -/
theorem lyRw_ext {y y' : Ly} {a n : Nat} (hN : a + 2 ≤ mmN y) (h2 : ∀ k, k < mmN y → y'.2[k]? = y.2[k]?) (h1 : ∀ k, a ≤ k → k < a + 2 → y'.1 k = y.1 k) (h : LyRw y a n) : LyRw y' a n := by
  simp only [LyRw] at h ⊢
  simp (disch := omega) only [h1, h2]
  exact h
theorem lyLw_ext {y y' : Ly} {a : Nat} (hN : a + 7 ≤ mmN y) (h2 : ∀ k, k < mmN y → y'.2[k]? = y.2[k]?) (h1 : ∀ k, a ≤ k → k < a + 7 → y'.1 k = y.1 k) (h : LyLw y a) : LyLw y' a := by
  simp only [LyLw] at h ⊢
  simp (disch := omega) only [h1, h2]
  exact h
theorem lyTd_ext {y y' : Ly} {a : Nat} (hN : a + 21 ≤ mmN y) (h2 : ∀ k, k < mmN y → y'.2[k]? = y.2[k]?) (h1 : ∀ k, a ≤ k → k < a + 21 → y'.1 k = y.1 k) (h : LyTd y a) : LyTd y' a := by
  simp only [LyTd, LyRw] at h ⊢
  simp (disch := omega) only [h1, h2]
  exact h
theorem lyTx_ext {y y' : Ly} {a : Nat} (hN : a + 12 ≤ mmN y) (h2 : ∀ k, k < mmN y → y'.2[k]? = y.2[k]?) (h1 : ∀ k, a ≤ k → k < a + 12 → y'.1 k = y.1 k) (h : LyTx y a) : LyTx y' a := by
  simp only [LyTx, LyLw] at h ⊢
  simp (disch := omega) only [h1, h2]
  exact h
/-- from a stage at q on -/
def Gw (a q : Nat) (F : List Nat) (μ μ' : Mu) (y y' : Ly) : Prop := y.2 <+: y'.2 ∧ mmN y = q ∧ (∀ k, k < q → k ≠ a → y'.1 k = y.1 k) ∧ (∀ j, j ∉ F → y'.1 a j = y.1 a j) ∧ ∀ k, k < q → μ' k = μ k
theorem gw_trans {a q q1 : Nat} {F F' : List Nat} {μ μ1 μ2 : Mu} {y y1 y2 : Ly} (hq : q ≤ q1) (h : Gw a q F μ μ1 y y1) (g : Gw a q1 F' μ1 μ2 y1 y2) : Gw a q (F ++ F') μ μ2 y y2 := ⟨h.1.trans g.1, h.2.1, fun k hk ha => (g.2.2.1 k (by omega) ha).trans (h.2.2.1 k hk ha), fun j hj => (g.2.2.2.1 j (fun z => hj (List.mem_append_right _ z))).trans (h.2.2.2.1 j (fun z => hj (List.mem_append_left _ z))), fun k hk => (g.2.2.2.2 k (by omega)).trans (h.2.2.2.2 k hk)⟩
theorem gw_refl {a : Nat} {μ : Mu} {y : Ly} : Gw a (mmN y) [] μ μ y y := ⟨List.prefix_refl _, rfl, fun _ _ _ => rfl, fun _ _ => rfl, fun _ _ => rfl⟩
/-- a row made and put -/
theorem st_arr {ρ : Type} {a q f n kd sz : Nat} {μ : Mu} {y : Ly} {F : Nat → Mu → Ly → Option (ρ × Mm)} {Q : ρ → Mu → Ly → Prop} (hN : mmN y = q) (ha : y.2[a]? = some (kd, sz)) (h : ∀ μ1 y1, Gw a q [f] μ μ1 y y1 → mmN y1 = q + 1 → mmS y1 = mmS y + n → y1.2[a]? = some (kd, sz) → y1.2[q]? = some (0, n) → y1.1 a f = some q → (∀ j, μ1 q j = 0) → EvA (F q μ1 y1) Q) : EvA (nwK μ y 0 n (fun q1 μ2 y3 => ckP (y3.2[a]? = some (kd, sz)) (pR y3 a f q1 (fun y5 => F q1 μ2 y5)))) Q := by
  have haq := lt_of_get ha
  refine eva_nw hN (fun μ1 y1 a1 a2 a3 a4 a5 => ?_)
  have h1 : y1.2[a]? = some (kd, sz) := (pre_get (app_pre a1) a haq).trans ha
  refine eva_ckP h1 (eva_pR (fun y2 b1 b2 b3 b4 => ?_))
  refine h μ1 y2 ⟨by rw [b1]; exact app_pre a1, hN, fun k hk hka => by rw [b2 k hka, a2 k (by omega)], fun j hj => ?_, fun k hk => a4 k (by omega)⟩ (by rw [eq_N b1, app_N a1, hN]) (by rw [eq_S b1, app_S a1]) (by rw [b1]; exact h1) (by rw [b1]; exact app_at a1 hN) b4 a5
  have hj' : j ≠ f := fun z => hj (by rw [z]; exact List.mem_singleton_self _)
  rw [b3 j hj', a2 a (by omega)]
/-- a thing made, filled and put -/
theorem st_obj {ρ : Type} {a q f kd sz kd' sz' len s : Nat} {μ : Mu} {y : Ly} {I : Nat → Mu → Ly → Option (Unit × Mm)} {P : Mu → Ly → Prop} {F : Nat → Mu → Ly → Option (ρ × Mm)} {Q : ρ → Mu → Ly → Prop} (hN : mmN y = q) (ha : y.2[a]? = some (kd, sz)) (hI : ∀ μ1 y1, mmN y1 = q + 1 → y1.2[q]? = some (kd', sz') → (∀ k, k < q → y1.1 k = y.1 k) → y.2 <+: y1.2 → (∀ j, μ1 q j = 0) → EvA (I q μ1 y1) (fun _ μ2 y2 => y1.2 <+: y2.2 ∧ mmN y2 = q + len ∧ mmS y2 = mmS y1 + s ∧ (∀ k, k < q → y2.1 k = y1.1 k) ∧ (∀ k, k < q → μ2 k = μ1 k) ∧ P μ2 y2)) (h : ∀ μ1 y1 y2, Gw a q [f] μ μ1 y y1 → mmN y1 = q + len → mmS y1 = mmS y + sz' + s → y1.2[a]? = some (kd, sz) → y1.1 a f = some q → (∀ k, k ≠ a → y1.1 k = y2.1 k) → y1.2 = y2.2 → P μ1 y2 → EvA (F q μ1 y1) Q) : EvA (nwK μ y kd' sz' (fun q1 μ2 y3 => clm y3 (I q1 μ2 y3) (fun _ μ4 y5 => ckP (y5.2[a]? = some (kd, sz)) (pR y5 a f q1 (fun y7 => F q1 μ4 y7))))) Q := by
  have haq := lt_of_get ha
  refine eva_nw hN (fun μ1 y1 a1 a2 a3 a4 a5 => ?_)
  have h1 : y1.2[a]? = some (kd, sz) := (pre_get (app_pre a1) a haq).trans ha
  have n1 : mmN y1 = q + 1 := by rw [app_N a1, hN]
  refine eva_clm (eva_mono (hI μ1 y1 n1 (app_at a1 hN) (fun k hk => a2 k (by omega)) (app_pre a1) a5) (fun _ μ2 y2 g => ⟨g.1, ?_⟩))
  obtain ⟨g1, g2, g3, g4, g5, g6⟩ := g
  have h2 : y2.2[a]? = some (kd, sz) := (pre_get g1 a (by omega)).trans h1
  refine eva_ckP h2 (eva_pR (fun y3 b1 b2 b3 b4 => ?_))
  refine h μ2 y3 y2 ⟨by rw [b1]; exact (app_pre a1).trans g1, hN, fun k hk hka => by rw [b2 k hka, g4 k hk, a2 k (by omega)], fun j hj => ?_, fun k hk => by rw [g5 k hk, a4 k (by omega)]⟩ (by rw [eq_N b1, g2]) (by rw [eq_S b1, g3, app_S a1]) (by rw [b1]; exact h2) b4 b2 b1 g6
  have hj' : j ≠ f := fun z => hj (by rw [z]; exact List.mem_singleton_self _)
  rw [b3 j hj', g4 a (by omega), a2 a (by omega)]
theorem rw_init {a n : Nat} {lo hi : Int32} {μ : Mu} {y : Ly} (hN : mmN y = a + 1) (ha : y.2[a]? = some (7, 4)) (hn : n ≤ 10) (h0 : ∀ j, μ a j = 0) : EvA (Rw_init a (nI n) lo hi μ y) (fun _ μ2 y2 => y.2 <+: y2.2 ∧ mmN y2 = a + 2 ∧ mmS y2 = mmS y + n ∧ (∀ k, k < a → y2.1 k = y.1 k) ∧ (∀ k, k < a → μ2 k = μ k) ∧ LyRw y2 a n ∧ RwC μ2 a n lo hi []) := by
  have hm : jmax (nI n) 0 = nI n := by
    rw [show (0 : Int32) = nI 0 from rfl, jmax_nI (by omega) (by omega), Nat.max_eq_left (Nat.zero_le _)]
  unfold Rw_init
  refine eva_ckP ha (eva_pF (eva_ckP ha (eva_pF ?_)))
  rw [hm]
  unfold nwV
  rw [nI_clamp (by omega), if_pos ⟨nI_pos (by omega), by omega⟩]
  refine st_arr hN ha (fun μ1 y1 g n1 s1 h1 h2 h3 h4 => eva_some ⟨g.1, n1, s1, fun k hk => g.2.2.1 k (by omega) (by omega), fun k hk => ?_, ⟨h1, ⟨h3, h2⟩, trivial⟩, ?_, ?_, ?_, Nat.zero_le _, hn, fun j hj => absurd hj (by show ¬ j < 0; omega)⟩)
  · rw [g.2.2.2.2 k (by omega), up2_ne (by omega), up2_ne (by omega)]
  · rw [g.2.2.2.2 a (by omega), up2_off (Or.inr (by decide)), up2_same]
  · rw [g.2.2.2.2 a (by omega), up2_same]
  · rw [g.2.2.2.2 a (by omega), up2_off (Or.inr (by decide)), up2_off (Or.inr (by decide)), h0]; rfl
theorem rwC_gw {a q : Nat} {F : List Nat} {μ μ' : Mu} {y y' : Ly} (g : Gw a q F μ μ' y y') {r n : Nat} {lo hi : Int32} {l : List Int32} (hr : r + 2 ≤ q) (h : RwC μ r n lo hi l) : RwC μ' r n lo hi l := rwC_row (g.2.2.2.2 r (by omega)) (g.2.2.2.2 (r + 1) (by omega)) h
theorem lyRw_gw {a q : Nat} {F : List Nat} {μ μ' : Mu} {y y' : Ly} (g : Gw a q F μ μ' y y') {r n : Nat} (hr : r + 2 ≤ q) (hra : a < r ∨ r + 2 ≤ a) (h : LyRw y r n) : LyRw y' r n := lyRw_ext (by rw [g.2.1]; exact hr) (pre_get g.1) (fun k a b => g.2.2.1 k (by omega) (by omega)) h
theorem fld_gw {a q : Nat} {F : List Nat} {μ μ' : Mu} {y y' : Ly} (g : Gw a q F μ μ' y y') {f x : Nat} (hf : f ∉ F) (h : y.1 a f = some x) : y'.1 a f = some x := (g.2.2.2.1 f hf).trans h
theorem at_gw {a q : Nat} {F : List Nat} {μ μ' : Mu} {y y' : Ly} (g : Gw a q F μ μ' y y') {k : Nat} {x : Nat × Nat} (hk : k < q) (h : y.2[k]? = some x) : y'.2[k]? = some x := (pre_get g.1 k (by rw [g.2.1]; exact hk)).trans h
theorem td_row {ρ : Type} {a q f n : Nat} {lo hi : Int32} {μ : Mu} {y : Ly} {F : Nat → Mu → Ly → Option (ρ × Mm)} {Q : ρ → Mu → Ly → Prop} (hN : mmN y = q) (ha : y.2[a]? = some (10, 11)) (hn : n ≤ 10) (h : ∀ μ1 y1, Gw a q [f] μ μ1 y y1 → mmN y1 = q + 2 → mmS y1 = mmS y + 4 + n → y1.2[a]? = some (10, 11) → y1.1 a f = some q → LyRw y1 q n → RwC μ1 q n lo hi [] → EvA (F q μ1 y1) Q) : EvA (nwK μ y 7 4 (fun q1 μ2 y3 => clm y3 (Rw_init q1 (nI n) lo hi μ2 y3) (fun _ μ4 y5 => ckP (y5.2[a]? = some (10, 11)) (pR y5 a f q1 (fun y7 => F q1 μ4 y7))))) Q := by
  have haq := lt_of_get ha
  refine st_obj (P := fun μ2 y2 => LyRw y2 q n ∧ RwC μ2 q n lo hi []) (len := 2) (s := n) hN ha (fun μ1 y1 b1 b2 _ _ b3 => eva_mono (rw_init b1 b2 hn b3) (fun _ μ2 y2 g => g)) (fun μ1 y1 y2 g n1 s1 h1 h2 h3 h4 h5 => h μ1 y1 g n1 s1 h1 h2 (lyRw_ext (by rw [← eq_N h4]; omega) (fun k hk => by rw [h4]) (fun k u v => h3 k (by omega)) h5.1) h5.2)
theorem td_init {a : Nat} {μ : Mu} {y : Ly} (hN : mmN y = a + 1) (ha : y.2[a]? = some (10, 11)) (h0 : ∀ j, μ a j = 0) : EvA (Td_init a μ y) (fun _ μ' y' => y.2 <+: y'.2 ∧ mmN y' = a + 21 ∧ mmS y' = mmS y + 118 ∧ (∀ k, k < a → y'.1 k = y.1 k) ∧ (∀ k, k < a → μ' k = μ k) ∧ LyTd y' a ∧ ToldX μ' a 0 (fun _ => [])) := by
  unfold Td_init
  refine td_row (n := 8) hN ha (by omega) (fun μ1 y1 g1 n1 s1 h1 f1 l1 r1 => ?_)
  refine td_row (n := 8) n1 h1 (by omega) (fun μ2 y2 g2 n2 s2 h2 f2 l2 r2 => ?_)
  refine td_row (n := 6) n2 h2 (by omega) (fun μ3 y3 g3 n3 s3 h3 f3 l3 r3 => ?_)
  refine td_row (n := 10) n3 h3 (by omega) (fun μ4 y4 g4 n4 s4 h4 f4 l4 r4 => ?_)
  refine td_row (n := 10) n4 h4 (by omega) (fun μ5 y5 g5 n5 s5 h5 f5 l5 r5 => ?_)
  refine td_row (n := 6) n5 h5 (by omega) (fun μ6 y6 g6 n6 s6 h6 f6 l6 r6 => ?_)
  refine td_row (n := 6) n6 h6 (by omega) (fun μ7 y7 g7 n7 s7 h7 f7 l7 r7 => ?_)
  refine td_row (n := 8) n7 h7 (by omega) (fun μ8 y8 g8 n8 s8 h8 f8 l8 r8 => ?_)
  refine td_row (n := 8) n8 h8 (by omega) (fun μ9 y9 g9 n9 s9 h9 f9 l9 r9 => ?_)
  refine td_row (n := 8) n9 h9 (by omega) (fun μA yA gA nA sA hA fA lA rA => ?_)
  have t9 := gA
  have t8 := gw_trans (by omega) g9 t9
  have t7 := gw_trans (by omega) g8 t8
  have t6 := gw_trans (by omega) g7 t7
  have t5 := gw_trans (by omega) g6 t6
  have t4 := gw_trans (by omega) g5 t5
  have t3 := gw_trans (by omega) g4 t4
  have t2 := gw_trans (by omega) g3 t3
  have t1 := gw_trans (by omega) g2 t2
  have t0 := gw_trans (by omega) g1 t1
  refine eva_some ⟨t0.1, by omega, by omega, fun k hk => t0.2.2.1 k (by omega) (by omega), fun k hk => t0.2.2.2.2 k (by omega), ⟨hA, ⟨fld_gw t1 (by decide) f1, lyRw_gw t1 (by omega) (by omega) l1⟩, ⟨fld_gw t2 (by decide) f2, lyRw_gw t2 (by omega) (by omega) l2⟩, ⟨fld_gw t3 (by decide) f3, lyRw_gw t3 (by omega) (by omega) l3⟩, ⟨fld_gw t4 (by decide) f4, lyRw_gw t4 (by omega) (by omega) l4⟩, ⟨fld_gw t5 (by decide) f5, lyRw_gw t5 (by omega) (by omega) l5⟩, ⟨fld_gw t6 (by decide) f6, lyRw_gw t6 (by omega) (by omega) l6⟩, ⟨fld_gw t7 (by decide) f7, lyRw_gw t7 (by omega) (by omega) l7⟩, ⟨fld_gw t8 (by decide) f8, lyRw_gw t8 (by omega) (by omega) l8⟩, ⟨fld_gw t9 (by decide) f9, lyRw_gw t9 (by omega) (by omega) l9⟩, ⟨fA, lA⟩, trivial⟩, by rw [t0.2.2.2.2 a (by omega)]; exact h0 0, rwC_gw t1 (by omega) r1, rwC_gw t2 (by omega) r2, rwC_gw t3 (by omega) r3, rwC_gw t4 (by omega) r4, rwC_gw t5 (by omega) r5, rwC_gw t6 (by omega) r6, rwC_gw t7 (by omega) r7, rwC_gw t8 (by omega) r8, rwC_gw t9 (by omega) r9, rA⟩
theorem lw_init {a : Nat} {μ : Mu} {y : Ly} (hN : mmN y = a + 1) (ha : y.2[a]? = some (4, 8)) (h0 : ∀ j, μ a j = 0) : EvA (Lw_init a μ y) (fun _ μ' y' => y.2 <+: y'.2 ∧ mmN y' = a + 7 ∧ mmS y' = mmS y + 496 ∧ (∀ k, k < a → y'.1 k = y.1 k) ∧ (∀ k, k < a → μ' k = μ k) ∧ LyLw y' a ∧ LawC a μ' []) := by
  unfold Lw_init
  refine st_arr hN ha (fun μ1 y1 g1 n1 s1 h1 f1 l1 _ => ?_)
  refine st_arr n1 h1 (fun μ2 y2 g2 n2 s2 h2 f2 l2 _ => ?_)
  refine st_arr n2 h2 (fun μ3 y3 g3 n3 s3 h3 f3 l3 _ => ?_)
  refine st_arr n3 h3 (fun μ4 y4 g4 n4 s4 h4 f4 l4 _ => ?_)
  refine st_arr n4 h4 (fun μ5 y5 g5 n5 s5 h5 f5 l5 _ => ?_)
  refine st_arr n5 h5 (fun μ6 y6 g6 n6 s6 h6 f6 l6 _ => ?_)
  have t5 := g6
  have t4 := gw_trans (by omega) g5 t5
  have t3 := gw_trans (by omega) g4 t4
  have t2 := gw_trans (by omega) g3 t3
  have t1 := gw_trans (by omega) g2 t2
  have t0 := gw_trans (by omega) g1 t1
  refine eva_some ⟨t0.1, by omega, by omega, fun k hk => t0.2.2.1 k (by omega) (by omega), fun k hk => t0.2.2.2.2 k (by omega), ⟨h6, ⟨fld_gw t1 (by decide) l1, at_gw t1 (by omega) f1⟩, ⟨fld_gw t2 (by decide) l2, at_gw t2 (by omega) f2⟩, ⟨fld_gw t3 (by decide) l3, at_gw t3 (by omega) f3⟩, ⟨fld_gw t4 (by decide) l4, at_gw t4 (by omega) f4⟩, ⟨fld_gw t5 (by decide) l5, at_gw t5 (by omega) f5⟩, ⟨l6, f6⟩, trivial⟩, fun _ => 0, 0, by omega, ?_, ?_, fun l hl => absurd hl (by show ¬ l < 0; omega)⟩
  · rw [t0.2.2.2.2 a (by omega)]; exact h0 0
  · rw [t0.2.2.2.2 a (by omega)]; exact h0 1
