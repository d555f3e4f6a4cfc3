/-! L3: THE CLASS READS WEATHER, HEIRS -/
def weL (T : Nat → Nat) (n P p : Nat) : ER (WLn × Nat) := ebd (nmS T n p 0 1000) (fun d =>
  if tK T n d.2 = 14 then ebd (nmS T n (tE T n d.2) 0 10) (fun x => mkS T n (d.1, 0, x.1, 0) x.2)
  else if tK T n d.2 = 20 then ebd (nmS T n (tE T n d.2) 1 1000) (fun x => mkS T n (d.1, 1, x.1, 0) x.2)
  else if tK T n d.2 = 21 then mkS T n (d.1, 2, 0, 0) (tE T n d.2)
  else if tK T n d.2 = 22 then ebd (nmS T n (tE T n d.2) 0 P) (fun q => ebd (nmS T n q.2 0 10) (fun x => mkS T n (d.1, 3, q.1, x.1) x.2))
  else if tK T n d.2 = 23 then ebd (nmS T n (tE T n d.2) 0 P) (fun q => mkS T n (d.1, 4, q.1, 0) q.2)
  else .error (1, tF T n d.2))
def weR (w : WLn) (j : Nat) : Int32 := if j = 0 then nI w.1 else if j = 1 then nI (kT w.2.1) else if j = 2 then (if 3 ≤ w.2.1 then nI w.2.2.1 else -1) else (if w.2.1 ≤ 1 then nI w.2.2.1 else if w.2.1 = 3 then nI w.2.2.2 else -1)
theorem weL_ok {T : Nat → Nat} {n P p : Nat} {q : WLn × Nat} (hp : p ≤ n) (h : weL T n P p = .ok q) : p < q.2 ∧ q.1.1 ≤ 999 ∧ q.1.2.1 ≤ 4 ∧ (q.1.2.2.1 ≤ 999 ∨ q.1.2.2.1 < P) ∧ q.1.2.2.2 ≤ 9 ∧ (q.1.2.1 = 3 → q.1.2.2.1 < P) ∧ (q.1.2.1 = 4 → q.1.2.2.1 < P) := by
  obtain ⟨d, h1, h2⟩ := ebd_ok h
  obtain ⟨a1, a2, a3, a4, a5⟩ := nm_sz hp h1
  have hE := tE_le (T := T) a2
  split at h2
  · rename_i c
    have hg := tE_gt (T := T) a2 (by omega)
    obtain ⟨x, h3, h4⟩ := ebd_ok h2
    obtain ⟨b1, b2, b3, b4, b5⟩ := nm_sz hE h3
    obtain ⟨c1, c2, c3⟩ := mk_sz b2 h4
    rw [c3]
    exact ⟨by omega, by show d.1 ≤ 999; omega, by show 0 ≤ 4; omega, Or.inl (by show x.1 ≤ 999; omega), by show 0 ≤ 9; omega, fun z => (by cases z), fun z => (by cases z)⟩
  split at h2
  · rename_i c
    have hg := tE_gt (T := T) a2 (by omega)
    obtain ⟨x, h3, h4⟩ := ebd_ok h2
    obtain ⟨b1, b2, b3, b4, b5⟩ := nm_sz hE h3
    obtain ⟨c1, c2, c3⟩ := mk_sz b2 h4
    rw [c3]
    exact ⟨by omega, by show d.1 ≤ 999; omega, by show 1 ≤ 4; omega, Or.inl (by show x.1 ≤ 999; omega), by show 0 ≤ 9; omega, fun z => (by cases z), fun z => (by cases z)⟩
  split at h2
  · rename_i c
    have hg := tE_gt (T := T) a2 (by omega)
    obtain ⟨c1, c2, c3⟩ := mk_sz hE h2
    rw [c3]
    exact ⟨by omega, by show d.1 ≤ 999; omega, by show 2 ≤ 4; omega, Or.inl (by show 0 ≤ 999; omega), by show 0 ≤ 9; omega, fun z => (by cases z), fun z => (by cases z)⟩
  split at h2
  · rename_i c
    have hg := tE_gt (T := T) a2 (by omega)
    obtain ⟨q1, h3, h4⟩ := ebd_ok h2
    obtain ⟨b1, b2, b3, b4, b5⟩ := nm_sz hE h3
    obtain ⟨x, h5, h6⟩ := ebd_ok h4
    obtain ⟨e1, e2, e3, e4, e5⟩ := nm_sz b2 h5
    obtain ⟨c1, c2, c3⟩ := mk_sz e2 h6
    rw [c3]
    exact ⟨by omega, by show d.1 ≤ 999; omega, by show 3 ≤ 4; omega, Or.inr b4, by show x.1 ≤ 9; omega, fun _ => b4, fun z => (by cases z)⟩
  split at h2
  · rename_i c
    have hg := tE_gt (T := T) a2 (by omega)
    obtain ⟨q1, h3, h4⟩ := ebd_ok h2
    obtain ⟨b1, b2, b3, b4, b5⟩ := nm_sz hE h3
    obtain ⟨c1, c2, c3⟩ := mk_sz b2 h4
    rw [c3]
    exact ⟨by omega, by show d.1 ≤ 999; omega, by show 4 ≤ 4; omega, Or.inr b4, by show 0 ≤ 9; omega, fun z => (by cases z), fun _ => b4⟩
  · cases h2
section Weather
variable {T : Nat → Nat} {n : Nat} {μ0 μ : Mu} {e : Nat × Nat} {kb : Int32 → Mu → Option (Unit × Mu)} {Q : Unit → Mu → Prop}
theorem bad_99 (h : BdT μ0 T n e μ) (v1 v2 v3 v4 v5 : Int32) (her : ∀ (μ' : Mu), FrE μ0 μ' → BdT μ' T n e μ' → Ev (kb (v1 + 1) μ') Q) : Ev (Rd_readWeather_99 48 kb v1 v2 v3 v4 v5 μ) Q := by
  have e9 : Ev (Rd_readWeather_111 48 kb v1 v2 v3 v4 μ) Q := ev_cl (ev_mono (bt_number h 0 9 (-1)) (fun r μ1 h1 => bad_end h1.2 her))
  unfold Rd_readWeather_99
  by_cases c1 : v3 = 14
  · rw [if_pos c1]; exact e9
  rw [if_neg c1]
  by_cases c2 : v3 = 22
  · rw [if_pos c2]; exact e9
  rw [if_neg c2]
  by_cases c3 : v3 = 20
  · rw [if_pos c3]; exact ev_cl (ev_mono (bt_number h 1 999 (-1)) (fun r μ1 h1 => bad_end h1.2 her))
  rw [if_neg c3]; exact bad_end h her
theorem bad_80 (h : BdT μ0 T n e μ) (v1 v2 v3 v4 v5 : Int32) (her : ∀ (μ' : Mu), FrE μ0 μ' → BdT μ' T n e μ' → Ev (kb (v1 + 1) μ') Q) : Ev (Rd_readWeather_80 48 kb v1 v2 v3 v4 v5 μ) Q := by
  have e9 : Ev (Rd_readWeather_92 48 kb v1 v2 v3 v5 μ) Q := ev_cl (ev_mono (bt_whom h (-1)) (fun r μ1 h1 => bad_99 h1.2 v1 v2 v3 r v5 her))
  unfold Rd_readWeather_80
  by_cases c1 : v3 = 22
  · rw [if_pos c1]; exact e9
  rw [if_neg c1]
  by_cases c2 : v3 = 23
  · rw [if_pos c2]; exact e9
  rw [if_neg c2]; exact bad_99 h v1 v2 v3 v4 v5 her
end Weather
theorem line_weather {T : Nat → Nat} {n P : Nat} (hP : P ≤ 16) : LineC weR T n P (weL T n P) (fun kb2 v1 μ1 => cl (Rd_number 48 0 999 (-1) μ1) (fun x4 μ3 => gF μ3 48 3 (fun x5 => (if x5 = 14 then Rd_readWeather_68 48 kb2 v1 x4 x5 ((-1)) ((-1)) μ3 else (if x5 = 20 then Rd_readWeather_68 48 kb2 v1 x4 x5 ((-1)) ((-1)) μ3 else (if x5 = 21 then Rd_readWeather_68 48 kb2 v1 x4 x5 ((-1)) ((-1)) μ3 else (if x5 = 22 then Rd_readWeather_68 48 kb2 v1 x4 x5 ((-1)) ((-1)) μ3 else (if x5 = 23 then Rd_readWeather_68 48 kb2 v1 x4 x5 ((-1)) ((-1)) μ3 else cl (Rd_fail 48 1 μ3) (fun _ μ6 => Rd_readWeather_80 48 kb2 v1 x4 x5 ((-1)) ((-1)) μ6))))))))) := by
  intro kb v μ p k Q h h7 h10 hk hok her
  refine ev_cl (ev_mono (gt_num h 0 1000 rfl rfl (by omega) (by omega)) (fun r μ1 h1 => ?_))
  unfold weL at hok her
  cases hu : nmS T n p 0 1000 with
  | error e =>
    rw [hu] at h1 her
    rw [gF_eq, bt_k h1.2, if_neg (by decide), if_neg (by decide), if_neg (by decide), if_neg (by decide), if_neg (by decide)]
    exact ev_cl (ev_mono (bt_fail h1.2 1) (fun _ μ2 h2 => bad_80 h2 v r 0 (-1) (-1) (fun μ' q1 q2 => her e μ' rfl q1 q2)))
  | ok d =>
    rw [hu] at h1 hok her
    obtain ⟨r1, g1⟩ := h1
    have hok2 : ∀ (x : WLn) (p' : Nat) (μ' : Mu), (if tK T n d.2 = 14 then ebd (nmS T n (tE T n d.2) 0 10) (fun x => mkS T n (d.1, 0, x.1, 0) x.2)
        else if tK T n d.2 = 20 then ebd (nmS T n (tE T n d.2) 1 1000) (fun x => mkS T n (d.1, 1, x.1, 0) x.2)
        else if tK T n d.2 = 21 then mkS T n (d.1, 2, 0, 0) (tE T n d.2)
        else if tK T n d.2 = 22 then ebd (nmS T n (tE T n d.2) 0 P) (fun q => ebd (nmS T n q.2 0 10) (fun x => mkS T n (d.1, 3, q.1, x.1) x.2))
        else if tK T n d.2 = 23 then ebd (nmS T n (tE T n d.2) 0 P) (fun q => mkS T n (d.1, 4, q.1, 0) q.2)
        else .error (1, tF T n d.2) : ER (WLn × Nat)) = .ok (x, p') → FrE μ μ' → GdT μ' T n p' μ' → μ' 48 10 = nI (k + 1) → (∀ i, i < 4 * k → μ' 57 i = μ 57 i) → (∀ j, j < 4 → μ' 57 (4 * k + j) = weR x j) → Ev (kb (v + 1) μ') Q := hok
    have her2 : ∀ (e : Nat × Nat) (μ' : Mu), (if tK T n d.2 = 14 then ebd (nmS T n (tE T n d.2) 0 10) (fun x => mkS T n (d.1, 0, x.1, 0) x.2)
        else if tK T n d.2 = 20 then ebd (nmS T n (tE T n d.2) 1 1000) (fun x => mkS T n (d.1, 1, x.1, 0) x.2)
        else if tK T n d.2 = 21 then mkS T n (d.1, 2, 0, 0) (tE T n d.2)
        else if tK T n d.2 = 22 then ebd (nmS T n (tE T n d.2) 0 P) (fun q => ebd (nmS T n q.2 0 10) (fun x => mkS T n (d.1, 3, q.1, x.1) x.2))
        else if tK T n d.2 = 23 then ebd (nmS T n (tE T n d.2) 0 P) (fun q => mkS T n (d.1, 4, q.1, 0) q.2)
        else .error (1, tF T n d.2) : ER (WLn × Nat)) = .error e → FrE μ μ' → BdT μ' T n e μ' → Ev (kb (v + 1) μ') Q := her
    clear hok her
    have hp1 := g1.2.2.1
    have kk := gt_k g1
    rw [gF_eq, kk, r1]
    have ne : ∀ c : Nat, c < 100 → tK T n d.2 ≠ c → ¬ nI (tK T n d.2) = nI c := fun c hc z y => z ((tK_is hp1 c (by omega)).mp y)
    -- the two numbers' ends
    by_cases c14 : tK T n d.2 = 14
    · rw [if_pos c14] at hok2 her2
      rw [if_pos (show nI (tK T n d.2) = 14 by rw [c14]; rfl), c14]
      unfold Rd_readWeather_68 Rd_readWeather_80 Rd_readWeather_99 Rd_readWeather_111
      refine ev_cl (ev_mono (gt_next g1) (fun _ μ2 g2 => ?_))
      rw [if_neg (show ¬ nI 14 = (22 : Int32) by decide), if_neg (show ¬ nI 14 = (23 : Int32) by decide), if_pos (show nI 14 = (14 : Int32) from rfl)]
      refine ev_cl (ev_mono (gt_num g2 0 10 rfl rfl (by omega) (by omega)) (fun r3 μ3 h3 => ?_))
      cases hv : nmS T n (tE T n d.2) 0 10 with
      | error e => 
        rw [hv] at h3 her2
        exact bad_end h3.2 (fun μ' q1 q2 => her2 e μ' rfl q1 q2)
      | ok x =>
        rw [hv] at h3 hok2 her2
        exact line_end (rw := weR) (x := (d.1, 0, x.1, 0)) h3.2.1 (gdT_self h3.2) ((h3.2.1.2 10 (by decide)).trans h10) hk rfl rfl rfl h3.1 (fun μ' e1 e2 e3 e4 e5 e6 => hok2 _ _ μ' e1 e2 e3 e4 e5 e6) (fun μ' e1 e2 e3 => her2 _ μ' e1 e2 e3)
    rw [if_neg (show ¬ nI (tK T n d.2) = (14 : Int32) from ne 14 (by omega) c14)]
    rw [if_neg c14] at hok2 her2
    by_cases c20 : tK T n d.2 = 20
    · rw [if_pos c20] at hok2 her2
      rw [if_pos (show nI (tK T n d.2) = 20 by rw [c20]; rfl), c20]
      unfold Rd_readWeather_68 Rd_readWeather_80 Rd_readWeather_99
      refine ev_cl (ev_mono (gt_next g1) (fun _ μ2 g2 => ?_))
      rw [if_neg (show ¬ nI 20 = (22 : Int32) by decide), if_neg (show ¬ nI 20 = (23 : Int32) by decide), if_neg (show ¬ nI 20 = (14 : Int32) by decide), if_neg (show ¬ nI 20 = (22 : Int32) by decide), if_pos (show nI 20 = (20 : Int32) from rfl)]
      refine ev_cl (ev_mono (gt_num g2 1 1000 rfl rfl (by omega) (by omega)) (fun r3 μ3 h3 => ?_))
      cases hv : nmS T n (tE T n d.2) 1 1000 with
      | error e => 
        rw [hv] at h3 her2
        exact bad_end h3.2 (fun μ' q1 q2 => her2 e μ' rfl q1 q2)
      | ok x =>
        rw [hv] at h3 hok2 her2
        exact line_end (rw := weR) (x := (d.1, 1, x.1, 0)) h3.2.1 (gdT_self h3.2) ((h3.2.1.2 10 (by decide)).trans h10) hk rfl rfl rfl h3.1 (fun μ' e1 e2 e3 e4 e5 e6 => hok2 _ _ μ' e1 e2 e3 e4 e5 e6) (fun μ' e1 e2 e3 => her2 _ μ' e1 e2 e3)
    rw [if_neg (show ¬ nI (tK T n d.2) = (20 : Int32) from ne 20 (by omega) c20)]
    rw [if_neg c20] at hok2 her2
    by_cases c21 : tK T n d.2 = 21
    · rw [if_pos c21] at hok2 her2
      rw [if_pos (show nI (tK T n d.2) = 21 by rw [c21]; rfl), c21]
      unfold Rd_readWeather_68 Rd_readWeather_80 Rd_readWeather_99
      refine ev_cl (ev_mono (gt_next g1) (fun _ μ2 g2 => ?_))
      rw [if_neg (show ¬ nI 21 = (22 : Int32) by decide), if_neg (show ¬ nI 21 = (23 : Int32) by decide), if_neg (show ¬ nI 21 = (14 : Int32) by decide), if_neg (show ¬ nI 21 = (22 : Int32) by decide), if_neg (show ¬ nI 21 = (20 : Int32) by decide)]
      exact line_end (rw := weR) (x := (d.1, 2, 0, 0)) g2.1 (gdT_self g2) ((g2.1.2 10 (by decide)).trans h10) hk rfl rfl rfl rfl (fun μ' e1 e2 e3 e4 e5 e6 => hok2 _ _ μ' e1 e2 e3 e4 e5 e6) (fun μ' e1 e2 e3 => her2 _ μ' e1 e2 e3)
    rw [if_neg (show ¬ nI (tK T n d.2) = (21 : Int32) from ne 21 (by omega) c21)]
    rw [if_neg c21] at hok2 her2
    by_cases c22 : tK T n d.2 = 22
    · rw [if_pos c22] at hok2 her2
      rw [if_pos (show nI (tK T n d.2) = 22 by rw [c22]; rfl), c22]
      unfold Rd_readWeather_68 Rd_readWeather_80 Rd_readWeather_92 Rd_readWeather_99 Rd_readWeather_111
      refine ev_cl (ev_mono (gt_next g1) (fun _ μ2 g2 => ?_))
      rw [if_pos (show nI 22 = (22 : Int32) from rfl)]
      refine ev_cl (ev_mono (gt_whom g2 ((g2.1.2 7 (by decide)).trans h7) hP) (fun r3 μ3 h3 => ?_))
      rw [if_neg (show ¬ nI 22 = (14 : Int32) by decide), if_pos (show nI 22 = (22 : Int32) from rfl)]
      cases hv : nmS T n (tE T n d.2) 0 P with
      | error e => 
        rw [hv] at h3 her2
        exact ev_cl (ev_mono (bt_number h3.2 0 9 (-1)) (fun r4 μ4 h4 => bad_end h4.2 (fun μ' q1 q2 => her2 e μ' rfl q1 q2)))
      | ok q =>
        rw [hv] at h3 hok2 her2
        refine ev_cl (ev_mono (gt_num h3.2 0 10 rfl rfl (by omega) (by omega)) (fun r4 μ4 h4 => ?_))
        have heq : ∀ y, ebd (nmS T n q.2 0 10) (fun x => mkS T n (d.1, 3, q.1, x.1) x.2) = y → ebd (Except.ok q) (fun q => ebd (nmS T n q.2 0 10) (fun x => mkS T n (d.1, 3, q.1, x.1) x.2)) = y := fun y hy => hy
        cases hw : nmS T n q.2 0 10 with
        | error e =>
          rw [hw] at h4
          exact bad_end h4.2 (fun μ' q1 q2 => her2 e μ' (heq _ (by rw [hw]; rfl)) q1 q2)
        | ok x =>
          rw [hw] at h4
          exact line_end (rw := weR) (x := (d.1, 3, q.1, x.1)) h4.2.1 (gdT_self h4.2) ((h4.2.1.2 10 (by decide)).trans h10) hk rfl rfl h3.1 h4.1 (fun μ' e1 e2 e3 e4 e5 e6 => hok2 _ _ μ' (heq _ (by rw [hw]; exact e1)) e2 e3 e4 e5 e6) (fun μ' e1 e2 e3 => her2 _ μ' (heq _ (by rw [hw]; exact e1)) e2 e3)
    rw [if_neg (show ¬ nI (tK T n d.2) = (22 : Int32) from ne 22 (by omega) c22)]
    rw [if_neg c22] at hok2 her2
    by_cases c23 : tK T n d.2 = 23
    · rw [if_pos c23] at hok2 her2
      rw [if_pos (show nI (tK T n d.2) = 23 by rw [c23]; rfl), c23]
      unfold Rd_readWeather_68 Rd_readWeather_80 Rd_readWeather_92 Rd_readWeather_99
      refine ev_cl (ev_mono (gt_next g1) (fun _ μ2 g2 => ?_))
      rw [if_neg (show ¬ nI 23 = (22 : Int32) by decide), if_pos (show nI 23 = (23 : Int32) from rfl)]
      refine ev_cl (ev_mono (gt_whom g2 ((g2.1.2 7 (by decide)).trans h7) hP) (fun r3 μ3 h3 => ?_))
      rw [if_neg (show ¬ nI 23 = (14 : Int32) by decide), if_neg (show ¬ nI 23 = (22 : Int32) by decide), if_neg (show ¬ nI 23 = (20 : Int32) by decide)]
      cases hv : nmS T n (tE T n d.2) 0 P with
      | error e => 
        rw [hv] at h3 her2
        exact bad_end h3.2 (fun μ' q1 q2 => her2 e μ' rfl q1 q2)
      | ok q =>
        rw [hv] at h3 hok2 her2
        exact line_end (rw := weR) (x := (d.1, 4, q.1, 0)) h3.2.1 (gdT_self h3.2) ((h3.2.1.2 10 (by decide)).trans h10) hk rfl rfl h3.1 rfl (fun μ' e1 e2 e3 e4 e5 e6 => hok2 _ _ μ' e1 e2 e3 e4 e5 e6) (fun μ' e1 e2 e3 => her2 _ μ' e1 e2 e3)
    rw [if_neg (show ¬ nI (tK T n d.2) = (23 : Int32) from ne 23 (by omega) c23)]
    rw [if_neg c23] at her2
    exact ev_cl (ev_mono (gt_fail g1 1 rfl (by omega)) (fun _ μ2 h2 => bad_80 h2 v _ _ (-1) (-1) (fun μ' q1 q2 => her2 _ μ' rfl q1 q2)))
/-! HEIRS -/
def nmU (T : Nat → Nat) (n p hi un : Nat) : ER (Nat × Nat) := if tK T n p = 30 then (if tV T n p < hi ∧ tV T n p ≠ un then .ok (tV T n p, tE T n p) else .error (2, tF T n p)) else .error (1, tF T n p)
def heL (T : Nat → Nat) (n P p : Nat) : ER ((Nat × Nat) × Nat) := ebd (nmS T n p 0 P) (fun a => if tK T n a.2 = 24 then ebd (nmU T n (tE T n a.2) P a.1) (fun b => mkS T n (a.1, b.1) b.2) else .error (1, tF T n a.2))
theorem nmU_sz {T : Nat → Nat} {n p hi un : Nat} {q : Nat × Nat} (hp : p ≤ n) (h : nmU T n p hi un = .ok q) : p < q.2 ∧ q.2 ≤ n ∧ q.1 < hi ∧ q.1 ≠ un := by
  unfold nmU at h
  split at h
  · rename_i c
    split at h
    · rename_i d
      cases h
      exact ⟨tE_gt hp (by rw [c]; decide), tE_le hp, d.1, d.2⟩
    · cases h
  · cases h
theorem heL_ok {T : Nat → Nat} {n P p : Nat} {q : (Nat × Nat) × Nat} (hp : p ≤ n) (h : heL T n P p = .ok q) : p < q.2 ∧ q.1.1 < P ∧ q.1.2 < P := by
  obtain ⟨s, h1, h2⟩ := ebd_ok h
  obtain ⟨a1, a2, a3, a4, a5⟩ := nm_sz hp h1
  split at h2
  · rename_i c
    have hg := tE_gt (T := T) a2 (by omega)
    obtain ⟨q1, h3, h4⟩ := ebd_ok h2
    obtain ⟨b1, b2, b3, b4⟩ := nmU_sz (tE_le (T := T) a2) h3
    obtain ⟨c1, c2, c3⟩ := mk_sz b2 h4
    rw [c3]
    exact ⟨by omega, a4, b3⟩
  · cases h2
theorem gt_whomU {μ0 : Mu} {T : Nat → Nat} {n p P un : Nat} {μ : Mu} (h : GdT μ0 T n p μ) (h7 : μ 48 7 = nI P) (hP : P ≤ 16) (hu : un < 10000) {v : Int32} (hv : v = nI un) : Ev (Rd_whom 48 v μ) (fun r μ' => NmC μ0 T n (nmU T n p P un) r μ') := by
  unfold Rd_whom
  rw [gF_eq, h7]
  refine ev_cl (ev_mono (gt_number h 0 (nI P - 1) v) (fun r μ1 q => ev_some ?_))
  unfold nmU
  by_cases c : tK T n p = 30
  · have hV := tV_lt h.2.2.1 c
    rw [if_pos c] at q
    rw [if_pos c]
    have e1 : ¬ (nI (tV T n p) < 0) := nI_pos (by omega)
    have e2 : (nI P - 1 < nI (tV T n p)) ↔ P ≤ tV T n p := hi_lt (by omega) hV
    have e3 : (nI (tV T n p) = v) ↔ tV T n p = un := by rw [hv]; exact nI_eq (by omega) (by omega)
    by_cases d : tV T n p < P ∧ tV T n p ≠ un
    · rw [if_neg (by
        rintro (z | z | z)
        · exact e1 z
        · have := e2.mp z; omega
        · exact d.2 (e3.mp z))] at q
      rw [if_pos d]; exact q
    · rw [if_pos (by
        by_cases z : P ≤ tV T n p
        · exact Or.inr (Or.inl (e2.mpr z))
        · refine Or.inr (Or.inr (e3.mpr ?_))
          by_cases y : tV T n p = un
          · exact y
          · exact absurd ⟨by omega, y⟩ d)] at q
      rw [if_neg d]; exact q
  · rw [if_neg c] at q
    rw [if_neg c]; exact q
theorem line_heirs {T : Nat → Nat} {n P : Nat} (hP : P ≤ 16) : LineC tbR T n P (heL T n P) (fun kb2 v1 μ1 => cl (Rd_whom 48 (-1) μ1) (fun x4 μ3 => cl (Rd_take 48 24 μ3) (fun _ μ5 => cl (Rd_whom 48 x4 μ5) (fun x7 μ6 => cl (Rd_ends 48 x4 x7 (-1) (-1) μ6) (fun _ μ8 => kb2 (v1 + 1) μ8))))) := by
  intro kb v μ p k Q h h7 h10 hk hok her
  refine ev_cl (ev_mono (gt_whom h h7 hP) (fun r μ1 h1 => ?_))
  unfold heL at hok her
  cases hu : nmS T n p 0 P with
  | error e =>
    rw [hu] at h1 her
    refine ev_cl (ev_mono (bt_take h1.2 24 (by decide)) (fun _ μ2 h2 => ev_cl (ev_mono (bt_whom h2 r) (fun r3 μ3 h3 => bad_end h3.2 (fun μ' q1 q2 => her e μ' rfl q1 q2)))))
  | ok s =>
    have hs := (nm_sz h.2.2.1 hu).2.2.2.2
    rw [hu] at h1 hok her
    refine ev_cl (ev_mono (gt_take h1.2 (v := 24) 24 rfl (by omega)) (fun _ μ2 h2 => ?_))
    by_cases c : tK T n s.2 = 24
    · rw [if_pos c] at h2
      refine ev_cl (ev_mono (gt_whomU h2 ((h2.1.2 7 (by decide)).trans h7) hP hs h1.1) (fun r3 μ3 h3 => ?_))
      cases hv : nmU T n (tE T n s.2) P s.1 with
      | error e =>
        rw [hv] at h3
        refine bad_end h3.2 (fun μ' q1 q2 => her e μ' ?_ q1 q2)
        show (if tK T n s.2 = 24 then _ else _) = _
        rw [if_pos c, hv]; rfl
      | ok q =>
        rw [hv] at h3
        have heq : ∀ y, mkS T n (s.1, q.1) q.2 = y → (ebd (Except.ok s) fun a => if tK T n a.2 = 24 then ebd (nmU T n (tE T n a.2) P a.1) (fun b => mkS T n (a.1, b.1) b.2) else .error (1, tF T n a.2)) = y := by
          intro y hy
          show (if tK T n s.2 = 24 then ebd (nmU T n (tE T n s.2) P s.1) (fun b => mkS T n (s.1, b.1) b.2) else .error (1, tF T n s.2)) = y
          rw [if_pos c, hv]; exact hy
        refine line_end (rw := tbR) (x := (s.1, q.1)) h3.2.1 (gdT_self h3.2) ((h3.2.1.2 10 (by decide)).trans h10) hk h1.1 h3.1 rfl rfl (fun μ' e1 e2 e3 e4 e5 e6 => ?_) (fun μ' e1 e2 e3 => ?_)
        · exact hok (s.1, q.1) _ μ' (heq _ e1) e2 e3 e4 e5 e6
        · exact her _ μ' (heq _ e1) e2 e3
    · rw [if_neg c] at h2
      refine ev_cl (ev_mono (bt_whom h2 r) (fun r3 μ3 h3 => bad_end h3.2 (fun μ' q1 q2 => her _ μ' ?_ q1 q2)))
      show (if tK T n s.2 = 24 then _ else _) = _
      rw [if_neg c]
