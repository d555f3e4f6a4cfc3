/-! L3: TEXT, the class -/
theorem ev_fz {ρ : Type} {μ : Mu} {o : Option (ρ × Mu)} {Q : ρ → Mu → Prop} (h : Ev o Q) (hz : Fz μ o) : Ev o (fun r μ' => Q r μ' ∧ (μ' 48 8 = 0 → μ' 48 9 = μ 48 9)) := by
  obtain ⟨r, μ', e, q⟩ := h
  exact ⟨r, μ', e, q, fun z => (hz r μ' e z).2⟩
def tT (z : Zt) (i : Nat) : Nat := (zB z).getD i 0
def zX (z : Zt) (p : PoS) (U : List (Nat → Int32)) (F G : Int32) : Zt := (p, U, [], F, G, zI z)
def outX {α : Type} (z : Zt) (x : ER (List α)) (p : List α → PoS) (U : List (Nat → Int32)) : Zt := match x with
  | .error e => zX z (zP z) (zU z) (nI e.1) (nI e.2)
  | .ok L => zX z (p L) U 0 (-1)
def ansX {α : Type} (x : ER (List α)) : Int32 := match x with
  | .error _ => -1
  | .ok L => nI L.length
def pLaw (p : PoS) (L : LawL) : PoS := (poP p, poN p, L, poH p, poW p, poA p, poB p, poT p, poK p)
def pTab (p : PoS) (R : List (Nat × Nat)) : PoS := (poP p, (seatsN (poP p) (risN (poN p).1 (poP p)) R, (poN p).2), poL p, poH p, poW p, nI R.length, poB p, poT p, poK p)
def pWea (p : PoS) (W : List WLn) : PoS := (poP p, poN p, poL p, poH p, W, poA p, poB p, poT p, poK p)
def pHei (p : PoS) (R : List (Nat × Nat)) : PoS := (poP p, poN p, poL p, hupS R, poW p, poA p, nI R.length, poT p, poK p)
theorem tT_lt {z : Zt} (hA : AbsOk z) : ∀ i, i < (zB z).length → tT z i < 256 := fun i hi => hA.2.2.2.2.1 _ (getD_inL hi)
theorem repC_txt {μ μ' : Mu} {y : Ly} {z : Zt} {p : PoS} {U : List (Nat → Int32)} {F G : Int32} (hy : LyRep y) (hR : RepC μ y z) (hP : PortC μ' p) (h42 : μ' 42 = μ 42) (h99 : ∀ k, 99 ≤ k → μ' k = μ k) (h1 : μ' 48 1 = 0) (h8 : μ' 48 8 = F) (h9 : μ' 48 9 = G) (hU : UndoC μ' y (poP p) U) : RepC μ' y (zX z p U F G) := ⟨hP, by rw [h42]; exact hR.2.1, h1, fun i hi => absurd hi (by show ¬ i < 0; omega), h8, h9, hU, picC_of hy h99 hR.2.2.2.2.2.2.2⟩
theorem repC_bad {μ μ' : Mu} {y : Ly} {z : Zt} {F G : Int32} (hy : LyRep y) (hR : RepC μ y z) (h : ∀ k, k ∉ [48, 50, 51, 52, 53, 54, 55, 57] → μ' k = μ k) (h1 : μ' 48 1 = 0) (h8 : μ' 48 8 = F) (h9 : μ' 48 9 = G) : RepC μ' y (zX z (zP z) (zU z) F G) ∧ InC μ μ' := by
  have o : ∀ k, (k < 48 ∨ 58 < k) → μ' k = μ k := fun k hk => h k (fun z => by
    simp only [List.mem_cons, List.not_mem_nil, or_false] at z; omega)
  exact ⟨repC_txt hy hR (portC_of (fun k a b _ => o k (by omega)) hR.1) (o 42 (by omega)) (fun k hk => o k (by omega)) h1 h8 h9 (undoC_of hy (o 0 (by omega)) (fun k hk => o k (by omega)) hR.2.2.2.2.2.2.1), fun k a b => o k (by omega)⟩
theorem c_open {μ : Mu} {y : Ly} {z : Zt} (hA : AbsOk z) (hR : RepC μ y z) : Ev (Rd_open 48 (nI (poP (zP z))) μ) (fun _ μ' => GdT μ' (tT z) (zB z).length 0 μ' ∧ μ' 48 7 = nI (poP (zP z)) ∧ μ' 48 10 = nI 0 ∧ μ' 48 9 = -1 ∧ μ' 48 1 = 0 ∧ ∀ k, k ≠ 48 → μ' k = μ k) := by
  unfold Rd_open
  rw [pF_eq, gF_eq, up2_off (Or.inr (by decide)), hR.2.2.1, pF_eq, pF_eq, pF_eq, pF_eq, pF_eq, pF_eq]
  generalize hm : up2 (up2 (up2 (up2 (up2 (up2 (up2 μ 48 7 (nI (poP (zP z)))) 48 2 (nI (zB z).length)) 48 1 0) 48 8 0) 48 9 (-1)) 48 10 0) 48 6 0 = m
  have e6 : m 48 6 = nI 0 := by rw [← hm, up2_same]; rfl
  have e10 : m 48 10 = nI 0 := by rw [← hm, up2_off (Or.inr (by decide)), up2_same]; rfl
  have e9 : m 48 9 = -1 := by rw [← hm, up2_off (Or.inr (by decide)), up2_off (Or.inr (by decide)), up2_same]
  have e8 : m 48 8 = 0 := by rw [← hm, up2_off (Or.inr (by decide)), up2_off (Or.inr (by decide)), up2_off (Or.inr (by decide)), up2_same]
  have e1 : m 48 1 = 0 := by rw [← hm, up2_off (Or.inr (by decide)), up2_off (Or.inr (by decide)), up2_off (Or.inr (by decide)), up2_off (Or.inr (by decide)), up2_same]
  have e2 : m 48 2 = nI (zB z).length := by rw [← hm, up2_off (Or.inr (by decide)), up2_off (Or.inr (by decide)), up2_off (Or.inr (by decide)), up2_off (Or.inr (by decide)), up2_off (Or.inr (by decide)), up2_same]
  have e7 : m 48 7 = nI (poP (zP z)) := by rw [← hm, up2_off (Or.inr (by decide)), up2_off (Or.inr (by decide)), up2_off (Or.inr (by decide)), up2_off (Or.inr (by decide)), up2_off (Or.inr (by decide)), up2_off (Or.inr (by decide)), up2_same]
  have eo : ∀ k, k ≠ 48 → m k = μ k := fun k hk => by rw [← hm, up2_ne hk, up2_ne hk, up2_ne hk, up2_ne hk, up2_ne hk, up2_ne hk, up2_ne hk]
  have hI : RdI (tT z) (zB z).length m := ⟨hA.2.2.2.1, tT_lt hA, e2, fun i hi => by rw [eo 49 (by decide)]; exact hR.2.2.2.1 i hi⟩
  refine ev_cl (ev_mono (rd_next hI (Nat.zero_le _) e6 e8) (fun _ μ' g => ev_some ⟨⟨frU_refl _, rdI_fr g.2 hI, Nat.zero_le _, (g.2.2 8 (by decide)).trans e8, g.1⟩, (g.2.2 7 (by decide)).trans e7, (g.2.2 10 (by decide)).trans e10, (g.2.2 9 (by decide)).trans e9, (g.2.2 1 (by decide)).trans e1, fun k hk => (g.2.1 k hk).trans (eo k hk)⟩))
theorem ne_err {e : Nat × Nat} (h : 1 ≤ e.1 ∧ e.1 ≤ 3) : ¬ nI e.1 = 0 := nI_ne0 (by omega) (by omega)
theorem ct_law {μ : Mu} {y : Ly} {z : Zt} (hy : LyRep y) (hA : AbsOk z) (hR : RepC μ y z) : Ev (Sf_text 0 0 μ) (fun x μ' => x = ansX (lwS (tT z) (zB z).length 401 0 0) ∧ RepC μ' y (outX z (lwS (tT z) (zB z).length 401 0 0) (pLaw (zP z)) (zU z)) ∧ InC μ μ') := by
  have hn := hA.2.2.2.1
  unfold Sf_text
  simp only [Nat.reduceAdd]
  rw [gF_eq, hR.1.1.2.2.1]
  refine ev_cl (ev_mono (c_open hA hR) (fun _ μ2 o => ?_))
  obtain ⟨o1, o2, o3, o4, o5, o6⟩ := o
  rw [if_pos trivial]
  have hread : Ev (Rd_readLaw 48 μ2) (fun _ μ3 => LwR (up2 (up2 μ2 50 0 0) 50 1 0) (tT z) (zB z).length [] (lwS (tT z) (zB z).length 401 0 0) μ3) := by
    unfold Rd_readLaw Lw_clear
    simp only [Nat.reduceAdd]
    rw [pF_eq, pF_eq, cl_eq]
    have hu : ∀ k, k ≠ 50 → (up2 (up2 μ2 50 0 0) 50 1 0) k = μ2 k := fun k hk => by rw [up2_ne hk, up2_ne hk]
    refine gd_law 401 0 FU [] [] _ (by omega) (by unfold FU; omega) ⟨frL_refl _, ⟨frP_refl _, ?_, Nat.zero_le _, ?_, ?_, up2_same _ _ _ _, Nat.zero_le _, fun i hi => absurd hi (by show ¬ i < 0; omega)⟩, ?_, ?_, ⟨fun _ => 0, fun l hl => absurd hl (by show ¬ l < 0; omega)⟩, Nat.le_refl _, by decide, fun l hl => absurd hl (by show ¬ l < 0; omega)⟩
    · exact ⟨o1.2.1.1, o1.2.1.2.1, by rw [hu 48 (by decide)]; exact o1.2.1.2.2.1, fun i hi => by rw [hu 49 (by decide)]; exact o1.2.1.2.2.2 i hi⟩
    · rw [hu 48 (by decide)]; exact o1.2.2.2.1
    · have h := o1.2.2.2.2
      unfold TokC at h ⊢
      rw [hu 48 (by decide)]; exact h
    · rw [up2_off (Or.inr (by decide)), up2_same]; rfl
    · rw [hu 48 (by decide)]; exact o3
  refine ev_cl (ev_mono (ev_fz hread fz_Rd_readLaw) (fun _ μ3 g => ?_))
  obtain ⟨g, g9⟩ := g
  have o50 : ∀ k, k ≠ 48 → k ∉ [50] → (up2 (up2 μ2 50 0 0) 50 1 0) k = μ k := fun k h1 h2 => by
    rw [up2_ne (fun z => h2 (by rw [z]; decide)), up2_ne (fun z => h2 (by rw [z]; decide)), o6 k h1]
  unfold Sf_text_90
  simp only [Nat.reduceAdd]
  cases hx : lwS (tT z) (zB z).length 401 0 0 with
  | error e =>
    rw [hx] at g
    obtain ⟨f1, f8, fe, f9⟩ := g
    rw [gF_eq, f8, if_neg (ne_err fe)]
    have b := repC_bad hy hR (μ' := μ3) (fun k hk => (f1.1 k hk).trans (o50 k (fun z => hk (by rw [z]; decide)) (fun z => hk (by
      simp only [List.mem_cons, List.not_mem_nil, or_false] at z ⊢; omega)))) (by rw [f1.2 1 (by decide), up2_ne (by decide), up2_ne (by decide)]; exact o5) f8 f9
    exact ev_some ⟨rfl, b.1, b.2⟩
  | ok L =>
    rw [hx] at g
    obtain ⟨f1, f8, f10, fL, fk⟩ := g
    rw [List.nil_append] at f10 fL fk
    have f9 := (g9 f8).trans o4
    have f11 : μ3 48 1 = 0 := by rw [f1.2 1 (by decide), up2_ne (by decide), up2_ne (by decide)]; exact o5
    have lo : ∀ k, (k < 48 ∨ 58 < k) → μ3 k = μ k := fun k hk => (f1.1 k (fun z => by
      simp only [List.mem_cons, List.not_mem_nil, or_false] at z; omega)).trans (o50 k (by omega) (fun z => by
      simp only [List.mem_cons, List.not_mem_nil, or_false] at z; omega))
    rw [gF_eq, f8, if_pos rfl]
    unfold Sf_accept Sf_accept_44 Tx_take
    simp only [Nat.reduceAdd]
    rw [if_neg (show ¬ (0 : Int32) < 0 by decide), if_pos (show (0 : Int32) < 4 by decide), gF_eq, f10, stA_li (i := 0) (by decide) (by decide)]
    rw [if_pos (by decide)]
    refine ev_cl (ev_cl (ev_cl (ev_mono (lw_copy (s := 50) (d := 7) (by omega)) (fun _ μ4 w => ev_some ?_))))
    obtain ⟨w0, w1, w2, w3, w4, w5, w6⟩ := w
    rw [if_neg (by decide), if_neg (by decide), if_neg (by decide)]
    refine ev_some ?_
    have e4 : ∀ k, (k < 7 ∨ 13 ≤ k) → k ≠ 17 → μ4 k = μ3 k := fun k a b => by rw [w6 k (by omega), up2_ne b]
    have e17 : ∀ j, j ≠ 0 → μ4 17 j = μ3 17 j := fun j hj => by rw [w6 17 (by omega), up2_off (Or.inr hj)]
    have hL : LawC 7 μ4 L := by
      refine lawC_copy (s := 50) (μ := up2 μ3 17 (OfNat.ofNat 0) (nI L.length)) (lawC_off (fun k a b => up2_ne (by omega)) fL) fk.1 ?_ ?_ ?_ ?_ ?_ ?_
      · exact w0
      · exact w1
      · exact w2
      · exact w3
      · exact w4
      · exact w5
    rw [gF_eq, e4 48 (by omega) (by decide), f10]
    obtain ⟨p1, p2, p3, p4, p5, p6, p7, p8, p9⟩ := hR.1
    have el : ∀ k, (k < 7 ∨ (13 ≤ k ∧ k < 48) ∨ 58 < k) → k ≠ 17 → μ4 k = μ k := fun k a b => (e4 k (by omega) b).trans (lo k (by omega))
    refine ev_some ⟨rfl, repC_txt hy hR ⟨figC_congr (el 2 (by omega) (by decide)) (el 3 (by omega) (by decide)) (el 4 (by omega) (by decide)) p1, fun k hk => by rw [el 5 (by omega) (by decide)]; exact p2 k hk, hL, heirC_of (el 15 (by omega) (by decide)) (el 16 (by omega) (by decide)) p4, ⟨?_, fun l hl => ?_⟩, ?_, ?_, ?_, toldC_off (fun k a b => el k (by omega) (by omega)) p9⟩ (el 42 (by omega) (by decide)) (fun k hk => el k (by omega) (by omega)) ?_ ?_ ?_ (undoC_of hy (el 0 (by omega) (by decide)) (fun k hk => el k (by omega) (by omega)) hR.2.2.2.2.2.2.1), fun k a b => el k (by omega) (by omega)⟩
    · rw [e17 2 (by decide), lo 17 (by omega)]; exact p5.1
    · rw [el 14 (by omega) (by decide)]; exact p5.2 l hl
    · rw [w6 17 (by omega)]; exact up2_same _ _ _ _
    · rw [e17 1 (by decide), lo 17 (by omega)]; exact p7
    · rw [e17 3 (by decide), lo 17 (by omega)]; exact p8
    · rw [e4 48 (by omega) (by decide)]; exact f11
    · rw [e4 48 (by omega) (by decide)]; exact f8
    · rw [e4 48 (by omega) (by decide)]; exact f9
/-- the other texts: their rows read -/
theorem ct_rows {α : Type} {rw : α → Nat → Int32} {d : α} {w : Nat} {μ2 : Mu} {z : Zt} {line : Nat → ER (α × Nat)} {body : (Int32 → Mu → Option (Unit × Mu)) → Int32 → Mu → Option (Unit × Mu)} {Lp : Nat → Int32 → Mu → Option (Unit × Mu)} (hA : AbsOk z) (hL : ∀ f v μ, Lp (f + 1) v μ = if 16 < v then some ((), μ) else cl (Rd_begins 48 (nI w) μ) (fun x2 μ1 => (if x2 = 0 then some ((), μ1) else body (Lp f) v μ1))) (hw : 0 < w ∧ w < 63) (hb : LineC rw (tT z) (zB z).length (poP (zP z)) line body) (hline : ∀ p q, p ≤ (zB z).length → line p = .ok q → p < q.2) (o1 : GdT μ2 (tT z) (zB z).length 0 μ2) (o2 : μ2 48 7 = nI (poP (zP z))) (o3 : μ2 48 10 = nI 0) : Ev (Lp FU 0 μ2) (fun _ μ3 => LxR rw d μ2 [] (lnG (tT z) (zB z).length w line 401 0 0) μ3) := by
  have hn := hA.2.2.2.1
  exact lx_loop (rw := rw) (d := d) hL hw hb hline 401 0 FU ([] : List α) μ2 μ2 (by omega) (by unfold FU; omega) (frE_refl _) o1 o2 o3 (Nat.zero_le _) (fun l j hl => absurd hl (by show ¬ l < 0; omega))
theorem ct_bad {α : Type} {μ μ2 μ3 : Mu} {y : Ly} {z : Zt} {e : Nat × Nat} {k : Int32} {x : ER (List α)} {p : List α → PoS} {U : List (Nat → Int32)} (hx : x = .error e) (hy : LyRep y) (hR : RepC μ y z) (o5 : μ2 48 1 = 0) (o6 : ∀ k, k ≠ 48 → μ2 k = μ k) (f1 : FrE μ2 μ3) (f8 : μ3 48 8 = nI e.1) (fe : 1 ≤ e.1 ∧ e.1 ≤ 3) (f9 : μ3 48 9 = nI e.2) : Ev (Sf_text_90 0 k μ3) (fun r μ' => r = ansX x ∧ RepC μ' y (outX z x p U) ∧ InC μ μ') := by
  subst hx
  unfold Sf_text_90
  simp only [Nat.reduceAdd]
  rw [gF_eq, f8, if_neg (ne_err fe)]
  have b := repC_bad hy hR (μ' := μ3) (fun k hk => (f1.1 k (fun z => hk (by rw [z]; decide)) (fun z => hk (by rw [z]; decide))).trans (o6 k (fun z => hk (by rw [z]; decide)))) ((f1.2 1 (by decide)).trans o5) f8 f9
  exact ev_some ⟨rfl, b.1, b.2⟩
theorem ct_wea {μ : Mu} {y : Ly} {z : Zt} (hy : LyRep y) (hA : AbsOk z) (hR : RepC μ y z) : Ev (Sf_text 0 2 μ) (fun x μ' => x = ansX (lnG (tT z) (zB z).length 19 (weL (tT z) (zB z).length (poP (zP z))) 401 0 0) ∧ RepC μ' y (outX z (lnG (tT z) (zB z).length 19 (weL (tT z) (zB z).length (poP (zP z))) 401 0 0) (pWea (zP z)) []) ∧ InC μ μ') := by
  have hP := hA.1.1.1.1
  unfold Sf_text
  simp only [Nat.reduceAdd]
  rw [gF_eq, hR.1.1.2.2.1]
  refine ev_cl (ev_mono (c_open hA hR) (fun _ μ2 o => ?_))
  obtain ⟨o1, o2, o3, o4, o5, o6⟩ := o
  rw [if_neg (by decide), if_neg (by decide), if_pos trivial]
  have hread : Ev (Rd_readWeather 48 μ2) (fun _ μ3 => LxR weR w0 μ2 [] (lnG (tT z) (zB z).length 19 (weL (tT z) (zB z).length (poP (zP z))) 401 0 0) μ3) := ct_rows (Lp := Rd_readWeather_2 48) hA (fun f v μ => rfl) (by decide) (line_weather hP) (fun p q hp h => (weL_ok hp h).1) o1 o2 o3
  refine ev_cl (ev_mono (ev_fz hread fz_Rd_readWeather) (fun _ μ3 g => ?_))
  obtain ⟨g, g9⟩ := g
  cases hx : lnG (tT z) (zB z).length 19 (weL (tT z) (zB z).length (poP (zP z))) 401 0 0 with
  | error e =>
    rw [hx] at g
    exact ct_bad rfl hy hR o5 o6 g.1 g.2.1 g.2.2.1 g.2.2.2
  | ok W =>
    rw [hx] at g
    obtain ⟨f1, f8, f10, f16, fR⟩ := g
    rw [List.nil_append] at f10 f16 fR
    have f9 := (g9 f8).trans o4
    have f11 : μ3 48 1 = 0 := (f1.2 1 (by decide)).trans o5
    have lo : ∀ k, k ≠ 48 → k ≠ 57 → μ3 k = μ k := fun k a b => (f1.1 k a b).trans (o6 k a)
    unfold Sf_text_90 Sf_accept Sf_accept_44 Sf_accept_54 Sf_forget Tx_take
    simp only [Nat.reduceAdd]
    rw [gF_eq, f8, if_pos rfl, if_neg (show ¬ (2 : Int32) < 0 by decide), if_pos (show (2 : Int32) < 4 by decide), gF_eq, f10, stA_li (i := 2) (by decide) (by decide), if_neg (by decide), if_pos (by decide), cpA_m (v := 64) 64 rfl (by omega) (by omega) (by omega), cl_eq, if_neg (by decide), if_neg (by decide), if_pos (by decide), pF_eq, cl_eq, cl_eq]
    generalize hm : up2 (cp2 (up2 μ3 17 (OfNat.ofNat 2) (nI W.length)) 57 0 14 0 64) 0 8 0 = m
    have e : ∀ k, k ≠ 0 → k ≠ 14 → k ≠ 17 → m k = μ3 k := fun k a b c => by rw [← hm, up2_ne a, cp2_ne b, up2_ne c]
    have e17 : ∀ j, j ≠ 2 → m 17 j = μ3 17 j := fun j hj => by rw [← hm, up2_ne (by decide), cp2_ne (by decide), up2_off (Or.inr hj)]
    have e172 : m 17 2 = nI W.length := by rw [← hm, up2_ne (by decide), cp2_ne (by decide)]; exact up2_same _ _ _ _
    have e14 : ∀ j, j < 64 → m 14 j = μ3 57 j := fun j hj => by rw [← hm, up2_ne (by decide), cp2_in hj, up2_ne (by decide)]
    have e0 : ∀ j, j ≠ 8 → m 0 j = μ3 0 j := fun j hj => by rw [← hm, up2_off (Or.inr hj), cp2_ne (by decide), up2_ne (by decide)]
    have e08 : m 0 8 = 0 := by rw [← hm, up2_same]
    rw [gF_eq, e 48 (by decide) (by decide) (by decide), f10]
    obtain ⟨p1, p2, p3, p4, p5, p6, p7, p8, p9⟩ := hR.1
    have el : ∀ k, k ≠ 0 → k ≠ 14 → k ≠ 17 → k ≠ 48 → k ≠ 57 → m k = μ k := fun k a b c d f => (e k a b c).trans (lo k d f)
    have es : ∀ k, 1 ≤ k → k < 48 → k ≠ 14 → k ≠ 17 → m k = μ k := fun k a b c d => el k (by omega) c d (by omega) (by omega)
    refine ev_some ⟨rfl, repC_txt hy hR ⟨figC_congr (es 2 (by omega) (by omega) (by decide) (by decide)) (es 3 (by omega) (by omega) (by decide) (by decide)) (es 4 (by omega) (by omega) (by decide) (by decide)) p1, fun k hk => by rw [es 5 (by omega) (by omega) (by decide) (by decide)]; exact p2 k hk, lawC_off (fun k a b => es k (by omega) (by omega) (by omega) (by omega)) p3, heirC_of (es 15 (by omega) (by omega) (by decide) (by decide)) (es 16 (by omega) (by omega) (by decide) (by decide)) p4, ⟨e172, fun l hl => ?_⟩, ?_, ?_, ?_, toldC_off (fun k a b => es k (by omega) (by omega) (by omega) (by omega)) p9⟩ (es 42 (by omega) (by omega) (by decide) (by decide)) (fun k hk => el k (by omega) (by omega) (by omega) (by omega) (by omega)) ?_ ?_ ?_ (undoC_no hy ?_ e08 (fun k hk => el k (by omega) (by omega) (by omega) (by omega) (by omega)) hR.2.2.2.2.2.2.1), fun k a b => el k (by omega) (by omega) (by omega) (by omega) (by omega)⟩
    · have hl' : l < W.length := hl
      rw [e14 _ (by omega), e14 _ (by omega), e14 _ (by omega), e14 _ (by omega)]
      exact ⟨fR l 0 hl (by omega), fR l 1 hl (by omega), fR l 2 hl (by omega), fR l 3 hl (by omega)⟩
    · rw [e17 0 (by decide), lo 17 (by decide) (by decide)]; exact p6
    · rw [e17 1 (by decide), lo 17 (by decide) (by decide)]; exact p7
    · rw [e17 3 (by decide), lo 17 (by decide) (by decide)]; exact p8
    · rw [e 48 (by decide) (by decide) (by decide)]; exact f11
    · rw [e 48 (by decide) (by decide) (by decide)]; exact f8
    · rw [e 48 (by decide) (by decide) (by decide)]; exact f9
    · rw [e0 7 (by decide), lo 0 (by decide) (by decide)]
theorem ct_heirs {μ : Mu} {y : Ly} {z : Zt} (hy : LyRep y) (hA : AbsOk z) (hR : RepC μ y z) : Ev (Sf_text 0 3 μ) (fun x μ' => x = ansX (lnG (tT z) (zB z).length 18 (heL (tT z) (zB z).length (poP (zP z))) 401 0 0) ∧ RepC μ' y (outX z (lnG (tT z) (zB z).length 18 (heL (tT z) (zB z).length (poP (zP z))) 401 0 0) (pHei (zP z)) (zU z)) ∧ InC μ μ') := by
  have hP := hA.1.1.1.1
  unfold Sf_text
  simp only [Nat.reduceAdd]
  rw [gF_eq, hR.1.1.2.2.1]
  refine ev_cl (ev_mono (c_open hA hR) (fun _ μ2 o => ?_))
  obtain ⟨o1, o2, o3, o4, o5, o6⟩ := o
  rw [if_neg (by decide), if_neg (by decide), if_neg (by decide), if_pos trivial]
  have hread : Ev (Rd_readHeirs 48 μ2) (fun _ μ3 => LxR tbR (0, 0) μ2 [] (lnG (tT z) (zB z).length 18 (heL (tT z) (zB z).length (poP (zP z))) 401 0 0) μ3) := ct_rows (Lp := Rd_readHeirs_2 48) hA (fun f v μ => rfl) (by decide) (line_heirs hP) (fun p q hp h => (heL_ok hp h).1) o1 o2 o3
  refine ev_cl (ev_mono (ev_fz hread fz_Rd_readHeirs) (fun _ μ3 g => ?_))
  obtain ⟨g, g9⟩ := g
  cases hx : lnG (tT z) (zB z).length 18 (heL (tT z) (zB z).length (poP (zP z))) 401 0 0 with
  | error e =>
    rw [hx] at g
    exact ct_bad rfl hy hR o5 o6 g.1 g.2.1 g.2.2.1 g.2.2.2
  | ok R =>
    rw [hx] at g
    obtain ⟨f1, f8, f10, f16, fR⟩ := g
    rw [List.nil_append] at f10 f16 fR
    have hRo := he_S hx
    have f9 := (g9 f8).trans o4
    have f11 : μ3 48 1 = 0 := (f1.2 1 (by decide)).trans o5
    have lo : ∀ k, k ≠ 48 → k ≠ 57 → μ3 k = μ k := fun k a b => (f1.1 k a b).trans (o6 k a)
    unfold Sf_text_90 Sf_accept Sf_accept_44 Tx_take
    simp only [Nat.reduceAdd]
    rw [gF_eq, f8, if_pos rfl, if_neg (show ¬ (3 : Int32) < 0 by decide), if_pos (show (3 : Int32) < 4 by decide), gF_eq, f10, stA_li (i := 3) (by decide) (by decide), if_neg (by decide), if_neg (by decide), if_pos (by decide), gF_eq, up2_ne (by decide), f10]
    have hK : RowsK tbR (0, 0) (up2 μ3 17 (OfNat.ofNat 3) (nI R.length)) R := fun l j hl hj => by rw [up2_ne (by decide)]; exact fR l j hl hj
    refine ev_cl (ev_cl (ev_cl (ev_mono (tx_heirs hP f16 hRo.2 hK) (fun _ m h => ev_some ?_))))
    rw [if_neg (by decide), if_neg (by decide), if_neg (by decide)]
    refine ev_some ?_
    have e : ∀ k, k ≠ 15 → k ≠ 16 → k ≠ 17 → m k = μ3 k := fun k a b c => by
      rw [h.2 k (fun z => by
        simp only [List.mem_cons, List.not_mem_nil, or_false] at z; omega), up2_ne c]
    have e17 : ∀ j, j ≠ 3 → m 17 j = μ3 17 j := fun j hj => by rw [h.2 17 (by decide), up2_off (Or.inr hj)]
    have e173 : m 17 3 = nI R.length := by rw [h.2 17 (by decide)]; exact up2_same _ _ _ _
    rw [gF_eq, e 48 (by decide) (by decide) (by decide), f10]
    obtain ⟨p1, p2, p3, p4, p5, p6, p7, p8, p9⟩ := hR.1
    have el : ∀ k, k ≠ 15 → k ≠ 16 → k ≠ 17 → k ≠ 48 → k ≠ 57 → m k = μ k := fun k a b c d f => (e k a b c).trans (lo k d f)
    have es : ∀ k, k < 48 → k ≠ 15 → k ≠ 16 → k ≠ 17 → m k = μ k := fun k a b c d => el k b c d (by omega) (by omega)
    refine ev_some ⟨rfl, repC_txt hy hR ⟨figC_congr (es 2 (by omega) (by decide) (by decide) (by decide)) (es 3 (by omega) (by decide) (by decide) (by decide)) (es 4 (by omega) (by decide) (by decide) (by decide)) p1, fun k hk => by rw [es 5 (by omega) (by decide) (by decide) (by decide)]; exact p2 k hk, lawC_off (fun k a b => es k (by omega) (by omega) (by omega) (by omega)) p3, h.1, ⟨?_, fun l hl => ?_⟩, ?_, ?_, e173, toldC_off (fun k a b => es k (by omega) (by omega) (by omega) (by omega)) p9⟩ (es 42 (by omega) (by decide) (by decide) (by decide)) (fun k hk => el k (by omega) (by omega) (by omega) (by omega) (by omega)) ?_ ?_ ?_ (undoC_of hy (es 0 (by omega) (by decide) (by decide) (by decide)) (fun k hk => el k (by omega) (by omega) (by omega) (by omega) (by omega)) hR.2.2.2.2.2.2.1), fun k a b => el k (by omega) (by omega) (by omega) (by omega) (by omega)⟩
    · rw [e17 2 (by decide), lo 17 (by decide) (by decide)]; exact p5.1
    · rw [es 14 (by omega) (by decide) (by decide) (by decide)]; exact p5.2 l hl
    · rw [e17 0 (by decide), lo 17 (by decide) (by decide)]; exact p6
    · rw [e17 1 (by decide), lo 17 (by decide) (by decide)]; exact p7
    · rw [e 48 (by decide) (by decide) (by decide)]; exact f11
    · rw [e 48 (by decide) (by decide) (by decide)]; exact f8
    · rw [e 48 (by decide) (by decide) (by decide)]; exact f9
theorem ct_table {μ : Mu} {y : Ly} {z : Zt} (hy : LyRep y) (hA : AbsOk z) (hR : RepC μ y z) : Ev (Sf_text 0 1 μ) (fun x μ' => x = ansX (lnG (tT z) (zB z).length 13 (tbL (tT z) (zB z).length (poP (zP z))) 401 0 0) ∧ RepC μ' y (outX z (lnG (tT z) (zB z).length 13 (tbL (tT z) (zB z).length (poP (zP z))) 401 0 0) (pTab (zP z)) []) ∧ InC μ μ') := by
  have hP := hA.1.1.1.1
  unfold Sf_text
  simp only [Nat.reduceAdd]
  rw [gF_eq, hR.1.1.2.2.1]
  refine ev_cl (ev_mono (c_open hA hR) (fun _ μ2 o => ?_))
  obtain ⟨o1, o2, o3, o4, o5, o6⟩ := o
  rw [if_neg (by decide), if_pos trivial]
  have hread : Ev (Rd_readTable 48 μ2) (fun _ μ3 => LxR tbR (0, 0) μ2 [] (lnG (tT z) (zB z).length 13 (tbL (tT z) (zB z).length (poP (zP z))) 401 0 0) μ3) := ct_rows (Lp := Rd_readTable_2 48) hA (fun f v μ => rfl) (by decide) (line_table hP) (fun p q hp h => tbL_gt hp h) o1 o2 o3
  refine ev_cl (ev_mono (ev_fz hread fz_Rd_readTable) (fun _ μ3 g => ?_))
  obtain ⟨g, g9⟩ := g
  cases hx : lnG (tT z) (zB z).length 13 (tbL (tT z) (zB z).length (poP (zP z))) 401 0 0 with
  | error e =>
    rw [hx] at g
    exact ct_bad rfl hy hR o5 o6 g.1 g.2.1 g.2.2.1 g.2.2.2
  | ok R =>
    rw [hx] at g
    obtain ⟨f1, f8, f10, f16, fR⟩ := g
    rw [List.nil_append] at f10 f16 fR
    have hRo := tb_S hx
    have f9 := (g9 f8).trans o4
    have f11 : μ3 48 1 = 0 := (f1.2 1 (by decide)).trans o5
    have lo : ∀ k, k ≠ 48 → k ≠ 57 → μ3 k = μ k := fun k a b => (f1.1 k a b).trans (o6 k a)
    unfold Sf_text_90 Sf_accept Sf_accept_44 Sf_accept_54 Sf_forget Tx_take
    simp only [Nat.reduceAdd]
    rw [gF_eq, f8, if_pos rfl, if_neg (show ¬ (1 : Int32) < 0 by decide), if_pos (show (1 : Int32) < 4 by decide), gF_eq, f10, stA_li (i := 1) (by decide) (by decide), if_neg (by decide), if_neg (by decide), if_neg (by decide), cl_eq, if_pos trivial, gF_eq, up2_ne (by decide), f10]
    have hK : RowsK tbR (0, 0) (up2 μ3 17 (OfNat.ofNat 1) (nI R.length)) R := fun l j hl hj => by rw [up2_ne (by decide)]; exact fR l j hl hj
    obtain ⟨p1, p2, p3, p4, p5, p6, p7, p8, p9⟩ := hR.1
    have lo2 : ∀ k, k ≠ 48 → k ≠ 57 → k ≠ 17 → (up2 μ3 17 (OfNat.ofNat 1) (nI R.length)) k = μ k := fun k a b c => by rw [up2_ne c, lo k a b]
    have hF : FigC (poP (zP z)) 2 0 (up2 μ3 17 (OfNat.ofNat 1) (nI R.length)) (poN (zP z)).1 := figC_congr (lo2 2 (by decide) (by decide) (by decide)) (lo2 3 (by decide) (by decide) (by decide)) (lo2 4 (by decide) (by decide) (by decide)) p1
    refine ev_cl (ev_cl (ev_mono (fg_seats hF hA.1.1.1 f16 hRo.2 hK) (fun _ m4 h => ?_)))
    rw [if_pos trivial, pF_eq, cl_eq]
    refine ev_some ?_
    have e : ∀ k, k ≠ 3 → k ≠ 4 → k ≠ 17 → k ≠ 0 → (up2 m4 0 8 0) k = μ3 k := fun k a b c d => by
      rw [up2_ne d, h.2 k (fun z => by
        simp only [List.mem_cons, List.not_mem_nil, or_false] at z; omega), up2_ne c]
    have e17 : ∀ j, j ≠ 1 → (up2 m4 0 8 0) 17 j = μ3 17 j := fun j hj => by rw [up2_ne (by decide), h.2 17 (by decide), up2_off (Or.inr hj)]
    have e171 : (up2 m4 0 8 0) 17 1 = nI R.length := by rw [up2_ne (by decide), h.2 17 (by decide)]; exact up2_same _ _ _ _
    have e07 : (up2 m4 0 8 0) 0 7 = μ 0 7 := by rw [up2_off (Or.inr (by decide)), h.2 0 (by decide), up2_ne (by decide), lo 0 (by decide) (by decide)]
    have e08 : (up2 m4 0 8 0) 0 8 = 0 := up2_same _ _ _ _
    have hF4 : FigC (poP (zP z)) 2 0 (up2 m4 0 8 0) (seatsN (poP (zP z)) (risN (poN (zP z)).1 (poP (zP z))) R) := figC_congr (up2_ne (by decide)) (up2_ne (by decide)) (up2_ne (by decide)) h.1
    generalize up2 m4 0 8 0 = m at e e17 e171 e07 e08 hF4
    rw [gF_eq, e 48 (by decide) (by decide) (by decide) (by decide), f10]
    have el : ∀ k, k ≠ 3 → k ≠ 4 → k ≠ 17 → k ≠ 0 → k ≠ 48 → k ≠ 57 → m k = μ k := fun k a b c d f g => (e k a b c d).trans (lo k f g)
    have es : ∀ k, 5 ≤ k → k < 48 → k ≠ 17 → m k = μ k := fun k a b c => el k (by omega) (by omega) c (by omega) (by omega) (by omega)
    refine ev_some ⟨rfl, repC_txt hy hR ⟨hF4, fun k hk => by rw [es 5 (by omega) (by omega) (by decide)]; exact p2 k hk, lawC_off (fun k a b => es k (by omega) (by omega) (by omega)) p3, heirC_of (es 15 (by omega) (by omega) (by decide)) (es 16 (by omega) (by omega) (by decide)) p4, ⟨?_, fun l hl => ?_⟩, ?_, e171, ?_, toldC_off (fun k a b => es k (by omega) (by omega) (by omega)) p9⟩ (es 42 (by omega) (by omega) (by decide)) (fun k hk => el k (by omega) (by omega) (by omega) (by omega) (by omega) (by omega)) ?_ ?_ ?_ (undoC_no hy e07 e08 (fun k hk => el k (by omega) (by omega) (by omega) (by omega) (by omega) (by omega)) hR.2.2.2.2.2.2.1), fun k a b => el k (by omega) (by omega) (by omega) (by omega) (by omega) (by omega)⟩
    · rw [e17 2 (by decide), lo 17 (by decide) (by decide)]; exact p5.1
    · rw [es 14 (by omega) (by omega) (by decide)]; exact p5.2 l hl
    · rw [e17 0 (by decide), lo 17 (by decide) (by decide)]; exact p6
    · rw [e17 3 (by decide), lo 17 (by decide) (by decide)]; exact p8
    · rw [e 48 (by decide) (by decide) (by decide) (by decide)]; exact f11
    · rw [e 48 (by decide) (by decide) (by decide) (by decide)]; exact f8
    · rw [e 48 (by decide) (by decide) (by decide) (by decide)]; exact f9
theorem ct_none {μ : Mu} {y : Ly} {z : Zt} {k : Int32} (hy : LyRep y) (hA : AbsOk z) (hR : RepC μ y z) (h0 : ¬ k = 0) (h1 : ¬ k = 1) (h2 : ¬ k = 2) (h3 : ¬ k = 3) : Ev (Sf_text 0 k μ) (fun x μ' => x = -1 ∧ RepC μ' y (zX z (zP z) (zU z) 0 (-1)) ∧ InC μ μ') := by
  unfold Sf_text
  simp only [Nat.reduceAdd]
  rw [gF_eq, hR.1.1.2.2.1]
  refine ev_cl (ev_mono (c_open hA hR) (fun _ μ2 o => ?_))
  obtain ⟨o1, o2, o3, o4, o5, o6⟩ := o
  rw [if_neg h0, if_neg h1, if_neg h2, if_neg h3]
  have b := repC_bad hy hR (μ' := μ2) (fun k hk => o6 k (fun z => hk (by rw [z]; decide))) o5 o1.2.2.2.1 o4
  exact ev_some ⟨rfl, b.1, b.2⟩
