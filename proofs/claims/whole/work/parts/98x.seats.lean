/-! L3: TEXTS TAKEN: what is read is well; seats; heirs -/
theorem tbL_ok {T : Nat → Nat} {n P p : Nat} {q : (Nat × Nat) × Nat} (hp : p ≤ n) (h : tbL T n P p = .ok q) : q.2 ≤ n ∧ q.1.1 < 16 ∧ q.1.2 < P := by
  obtain ⟨s, h1, h2⟩ := ebd_ok h
  obtain ⟨a1, a2, a3, a4, a5⟩ := nm_sz hp h1
  split at h2
  · obtain ⟨q1, h3, h4⟩ := ebd_ok h2
    obtain ⟨b1, b2, b3, b4, b5⟩ := nm_sz (tE_le (T := T) a2) h3
    obtain ⟨c1, c2, c3⟩ := mk_sz b2 h4
    rw [c3]; exact ⟨c2, a4, b4⟩
  · cases h2
theorem heL_le {T : Nat → Nat} {n P p : Nat} {q : (Nat × Nat) × Nat} (hp : p ≤ n) (h : heL T n P p = .ok q) : q.2 ≤ n := by
  obtain ⟨s, h1, h2⟩ := ebd_ok h
  obtain ⟨a1, a2, a3, a4, a5⟩ := nm_sz hp h1
  split at h2
  · obtain ⟨q1, h3, h4⟩ := ebd_ok h2
    obtain ⟨b1, b2, b3, b4⟩ := nmU_sz (tE_le (T := T) a2) h3
    exact (mk_sz b2 h4).2.1
  · cases h2
theorem weL_le {T : Nat → Nat} {n P p : Nat} {q : WLn × Nat} (hp : p ≤ n) (h : weL T n P p = .ok q) : q.2 ≤ n := by
  obtain ⟨d, h1, h2⟩ := ebd_ok h
  obtain ⟨a1, a2, a3, a4, a5⟩ := nm_sz hp h1
  have hE := tE_le (T := T) a2
  split at h2
  · obtain ⟨x, h3, h4⟩ := ebd_ok h2
    exact (mk_sz (nm_sz hE h3).2.1 h4).2.1
  split at h2
  · obtain ⟨x, h3, h4⟩ := ebd_ok h2
    exact (mk_sz (nm_sz hE h3).2.1 h4).2.1
  split at h2
  · exact (mk_sz hE h2).2.1
  split at h2
  · obtain ⟨q1, h3, h4⟩ := ebd_ok h2
    obtain ⟨x, h5, h6⟩ := ebd_ok h4
    exact (mk_sz (nm_sz (nm_sz hE h3).2.1 h5).2.1 h6).2.1
  split at h2
  · obtain ⟨q1, h3, h4⟩ := ebd_ok h2
    exact (mk_sz (nm_sz hE h3).2.1 h4).2.1
  · cases h2
theorem lnG_ok {α : Type} {T : Nat → Nat} {n w : Nat} {line : Nat → ER (α × Nat)} {Pr : α → Prop} (hl : ∀ p q, p ≤ n → line p = .ok q → q.2 ≤ n ∧ Pr q.1) : ∀ (m k p : Nat) (R : List α), p ≤ n → k ≤ 16 → lnG T n w line m k p = .ok R → k + R.length ≤ 16 ∧ ∀ x, x ∈ R → Pr x := by
  intro m
  induction m with
  | zero => intro k p R _ _ h; cases h
  | succ m ih =>
    intro k p R hp hk h
    rw [lnG_succ] at h
    split at h
    · cases h; exact ⟨by show k + 0 ≤ 16; omega, fun x hx => absurd hx List.not_mem_nil⟩
    split at h
    · split at h
      · cases h
      · rename_i c
        obtain ⟨q, h1, h2⟩ := ebd_ok h
        obtain ⟨r, h3, h4⟩ := ebd_ok h2
        cases h4
        obtain ⟨g1, g2⟩ := hl _ q (tE_le (T := T) hp) h1
        obtain ⟨i1, i2⟩ := ih (k + 1) q.2 r g1 (by omega) h3
        refine ⟨by show k + (r.length + 1) ≤ 16; omega, fun x hx => ?_⟩
        rcases List.mem_cons.mp hx with e | e
        · rw [e]; exact g2
        · exact i2 x e
    · cases h
theorem lwS_ok {T : Nat → Nat} {n : Nat} : ∀ (m k p : Nat) (L : LawL), p ≤ n → k ≤ 16 → lwS T n m k p = .ok L → k + L.length ≤ 16 ∧ ∀ x, x ∈ L → x.1 ≤ 2 ∧ runT x.2.1 [] = some [false] ∧ (x.2.2 = [] ∨ runT x.2.2 [] = some [true]) := by
  intro m
  induction m with
  | zero => intro k p R _ _ h; cases h
  | succ m ih =>
    intro k p R hp hk h
    rw [lwS_succ] at h
    split at h
    · cases h; exact ⟨by show k + 0 ≤ 16; omega, fun x hx => absurd hx List.not_mem_nil⟩
    rename_i hk0
    split at h
    · rename_i hk3
      split at h
      · cases h
      · rename_i c
        cases h1 : liS T n p with
        | error e => rw [h1] at h; cases h
        | ok q =>
          rw [h1] at h
          simp only at h
          cases h3 : lwS T n m (k + 1) q.2 with
          | error e => rw [h3] at h; cases h
          | ok r =>
            rw [h3] at h
            cases h
            obtain ⟨g1, g2, g3, g4, g5⟩ := li_sz hp hk0 h1
            obtain ⟨i1, i2⟩ := ih (k + 1) q.2 r g2 (by omega) h3
            refine ⟨by show k + (r.length + 1) ≤ 16; omega, fun x hx => ?_⟩
            rcases List.mem_cons.mp hx with e | e
            · rw [e]; exact ⟨by show tK T n p - 1 ≤ 2; omega, g4, g5⟩
            · exact i2 x e
    · cases h
theorem getD_inL {α : Type} {L : List α} {d : α} {l : Nat} (h : l < L.length) : L.getD l d ∈ L := by
  rw [List.getD_eq_getElem?_getD, List.getElem?_eq_getElem h]; exact List.getElem_mem h
theorem lwOk_S {T : Nat → Nat} {n m : Nat} {L : LawL} (h : lwS T n m 0 0 = .ok L) : LwOk L := by
  obtain ⟨h1, h2⟩ := lwS_ok m 0 0 L (Nat.zero_le _) (by omega) h
  exact ⟨by omega, fun l hl => h2 _ (getD_inL hl)⟩
theorem wok_S {T : Nat → Nat} {n P m : Nat} {W : List WLn} (hP : P ≤ 16) (h : lnG T n 19 (weL T n P) m 0 0 = .ok W) : WOk P W := by
  obtain ⟨h1, h2⟩ := lnG_ok (Pr := fun w => w.1 ≤ 999 ∧ w.2.1 ≤ 4 ∧ w.2.2.1 ≤ 999 ∧ w.2.2.2 ≤ 9 ∧ (w.2.1 = 3 → w.2.2.1 < P) ∧ (w.2.1 = 4 → w.2.2.1 < P)) (fun p q hp hq => by
    obtain ⟨_, a1, a2, a3, a4, a5, a6⟩ := weL_ok hp hq
    exact ⟨weL_le hp hq, a1, a2, by omega, a4, a5, a6⟩) m 0 0 W (Nat.zero_le _) (by omega) h
  exact ⟨by omega, fun l hl => h2 _ (getD_inL hl)⟩
theorem tb_S {T : Nat → Nat} {n P m : Nat} {R : List (Nat × Nat)} (h : lnG T n 13 (tbL T n P) m 0 0 = .ok R) : R.length ≤ 16 ∧ ∀ x, x ∈ R → x.1 < 16 ∧ x.2 < P := by
  obtain ⟨h1, h2⟩ := lnG_ok (Pr := fun x => x.1 < 16 ∧ x.2 < P) (fun p q hp hq => tbL_ok hp hq) m 0 0 R (Nat.zero_le _) (by omega) h
  exact ⟨by omega, h2⟩
theorem he_S {T : Nat → Nat} {n P m : Nat} {R : List (Nat × Nat)} (h : lnG T n 18 (heL T n P) m 0 0 = .ok R) : R.length ≤ 16 ∧ ∀ x, x ∈ R → x.1 < P ∧ x.2 < P := by
  obtain ⟨h1, h2⟩ := lnG_ok (Pr := fun x => x.1 < P ∧ x.2 < P) (fun p q hp hq => ⟨heL_le hp hq, (heL_ok hp hq).2⟩) m 0 0 R (Nat.zero_le _) (by omega) h
  exact ⟨by omega, h2⟩
theorem hok_S {P : Nat} {R : List (Nat × Nat)} (h : ∀ x, x ∈ R → x.1 < P ∧ x.2 < P) : HOk P (hupS R) := by
  suffices K : ∀ (R : List (Nat × Nat)) (f : Nat → Int32), HOk P f → (∀ x, x ∈ R → x.1 < P ∧ x.2 < P) → HOk P (R.foldl (fun f x => upd f x.1 (nI (x.2 + 1))) f) from K R _ (fun q _ => Or.inl rfl) h
  intro R
  induction R with
  | nil => exact fun f hf _ => hf
  | cons x r ih =>
    intro f hf hx
    have h1 := hx x List.mem_cons_self
    refine ih _ (fun q hq => ?_) (fun z hz => hx z (List.mem_cons_of_mem _ hz))
    show upd f x.1 (nI (x.2 + 1)) q = 0 ∨ (q < P ∧ ∃ h, h < P ∧ upd f x.1 (nI (x.2 + 1)) q = nI (h + 1))
    by_cases e : q = x.1
    · rw [e, fu_same]; exact Or.inr ⟨h1.1, x.2, h1.2, rfl⟩
    · rw [fu_off e]; exact hf q hq
/-! seats -/
def risN (N : Nat → Int32) (k : Nat) : Nat → Int32 := fun i => if 102 ≤ i ∧ i < 102 + k then 0 else N i
theorem risN_succ (N : Nat → Int32) (k : Nat) : upd (risN N k) (102 + k) 0 = risN N (k + 1) := by
  funext i
  by_cases e : i = 102 + k
  · rw [e, fu_same]; unfold risN; rw [if_pos (by omega)]
  · rw [fu_off e]
    unfold risN
    by_cases c : 102 ≤ i ∧ i < 102 + k
    · rw [if_pos c, if_pos (by omega)]
    · rw [if_neg c, if_neg (by omega)]
theorem nok_ris {P : Nat} {N : Nat → Int32} (h : NOk P N) : ∀ k, NOk P (risN N k) := by
  intro k
  induction k with
  | zero =>
    have : risN N 0 = N := by funext i; unfold risN; rw [if_neg (by omega)]
    rw [this]; exact h
  | succ k ih => rw [← risN_succ]; exact nok_seat0 ih k
def upN (P : Nat) (N : Nat → Int32) (s : Nat) : Nat → Int32 := if whoN P N s = -1 then N else upd N (102 + (whoN P N s).toNatClampNeg) 0
def sitN (P : Nat) (N : Nat → Int32) (x : Nat × Nat) : Nat → Int32 := if N (86 + x.2) = 0 then upd (upN P N x.1) (102 + x.2) (nI (x.1 + 1)) else N
def seatsN (P : Nat) (N : Nat → Int32) (R : List (Nat × Nat)) : Nat → Int32 := R.foldl (sitN P) N
theorem upN_free {P : Nat} {N : Nat → Int32} (h : NOk P N) {s : Nat} (hs : s < 16) : NOk P (upN P N s) ∧ (∀ q, q < P → upN P N s (102 + q) ≠ nI (s + 1)) ∧ ∀ i, (i < 102 ∨ 118 ≤ i) → upN P N s i = N i := by
  have hP := h.1
  have n0 : ∀ k, k < 100 → (0 : Int32) ≠ nI (k + 1) := fun k hk z => nI_ne0 (n := k + 1) (by omega) (by omega) z.symm
  unfold upN
  rcases whoN_is (P := P) (N := N) (s := s) with ⟨p, hp, e, g1, g2⟩ | ⟨e, g⟩
  · rw [e, if_neg (by rw [n1_ne (by omega)]; exact id), nI_clamp (by omega)]
    refine ⟨nok_seat0 h p, fun q hq => ?_, fun i hi => fu_off (by omega)⟩
    by_cases c : q = p
    · rw [c, fu_same]; exact n0 s (by omega)
    · rw [fu_off (by omega)]
      intro z
      rcases h.2.2.2.2.1 q p hq hp (z.trans g1.symm) with y | y
      · exact c y
      · rw [y] at z; exact n0 s (by omega) z
  · rw [e, if_pos rfl]; exact ⟨h, g, fun _ _ => rfl⟩
theorem nok_sitN {P : Nat} {N : Nat → Int32} (h : NOk P N) {x : Nat × Nat} (h1 : x.1 < 16) (h2 : x.2 < P) : NOk P (sitN P N x) := by
  have hP := h.1
  unfold sitN
  by_cases c : N (86 + x.2) = 0
  · rw [if_pos c]
    obtain ⟨a, b, d⟩ := upN_free h h1
    exact nok_sit a h2 h1 (by rw [d _ (by omega)]; exact c) b
  · rw [if_neg c]; exact h
theorem nok_seats {P : Nat} {R : List (Nat × Nat)} : ∀ {N : Nat → Int32}, NOk P N → (∀ x, x ∈ R → x.1 < 16 ∧ x.2 < P) → NOk P (seatsN P N R) := by
  induction R with
  | nil => exact fun h _ => h
  | cons x r ih => exact fun h hx => ih (nok_sitN h (hx x List.mem_cons_self).1 (hx x List.mem_cons_self).2) (fun z hz => hx z (List.mem_cons_of_mem _ hz))
theorem fold_take {α β : Type} {f : β → α → β} {b : β} {R : List α} {d : α} {k : Nat} (hk : k < R.length) : (R.take (k + 1)).foldl f b = f ((R.take k).foldl f b) (R.getD k d) := by
  rw [List.take_succ_eq_append_getElem hk, List.foldl_append, List.getD_eq_getElem?_getD, List.getElem?_eq_getElem hk]; rfl
theorem fg_seats {P : Nat} {μ : Mu} {N : Nat → Int32} {R : List (Nat × Nat)} (h : FigC P 2 0 μ N) (hN : NOk P N) (hR16 : R.length ≤ 16) (hR : ∀ x, x ∈ R → x.1 < 16 ∧ x.2 < P) (hK : RowsK tbR (0, 0) μ R) : Ev (Fg_seatAll 2 57 64 (nI R.length) μ) (fun _ μ' => FigC P 2 0 μ' (seatsN P (risN N P) R) ∧ Off [3, 4] μ μ') := by
  have hP := h.1
  suffices K : ∀ μ1, FigC P 2 0 μ1 (risN N 0) → Off [3, 4] μ μ1 → Ev (Fg_seatAll_2 2 57 64 (nI R.length) FU (nI 0) μ1) (fun _ μ' => FigC P 2 0 μ' (seatsN P (risN N P) R) ∧ Off [3, 4] μ μ') from K μ (by
    have : risN N 0 = N := by funext i; unfold risN; rw [if_neg (by omega)]
    rw [this]; exact h) (off_refl _ _)
  unfold Fg_seatAll_2
  refine lp_fu (F := fun kb => Fg_seatAll_2b 2 57 64 kb (nI R.length)) (z := fun _ _ => none) P (fun k A => ∀ μ1, FigC P 2 0 μ1 (risN N k) → Off [3, 4] μ μ1 → Ev (A (nI k) μ1) (fun _ μ' => FigC P 2 0 μ' (seatsN P (risN N P) R) ∧ Off [3, 4] μ μ')) (by omega) ?_ ?_ 0 (by omega)
  · intro A μ1 g1 g2
    show Ev (Fg_seatAll_2b 2 57 64 A _ _ μ1) _
    unfold Fg_seatAll_2b
    rw [gF_eq, g1.2.2.1, if_pos (nI_le (Nat.le_refl _) (by omega))]
    suffices K2 : ∀ μ2, FigC P 2 0 μ2 (seatsN P (risN N P) (R.take 0)) → Off [3, 4] μ μ2 → Ev (Fg_seatAll_23 2 57 64 (nI R.length) FU (nI 0) μ2) (fun _ μ' => FigC P 2 0 μ' (seatsN P (risN N P) R) ∧ Off [3, 4] μ μ') from K2 μ1 g1 g2
    unfold Fg_seatAll_23
    refine lp_fu (F := fun kb => Fg_seatAll_23b 2 57 64 kb (nI R.length)) (z := fun _ _ => none) R.length (fun k A => ∀ μ2, FigC P 2 0 μ2 (seatsN P (risN N P) (R.take k)) → Off [3, 4] μ μ2 → Ev (A (nI k) μ2) (fun _ μ' => FigC P 2 0 μ' (seatsN P (risN N P) R) ∧ Off [3, 4] μ μ')) (by omega) ?_ ?_ 0 (by omega)
    · intro A2 μ2 k1 k2
      show Ev (Fg_seatAll_23b 2 57 64 A2 _ _ μ2) _
      unfold Fg_seatAll_23b
      rw [if_pos (nI_le (Nat.le_refl _) (by omega))]
      rw [List.take_length] at k1
      exact ev_some ⟨k1, k2⟩
    · intro k A2 hk ih μ2 k1 k2
      show Ev (Fg_seatAll_23b 2 57 64 A2 _ _ μ2) _
      have i4 : nI k * 4 = nI (4 * k) := by rw [show (4 : Int32) = nI 4 from rfl, pk_mul, Nat.mul_comm]
      obtain ⟨x1, x2⟩ := hR _ (getD_inL (d := ((0, 0) : Nat × Nat)) hk)
      have r0 : μ2 57 (4 * k) = nI (R.getD k (0, 0)).1 := by rw [k2 57 (by decide)]; exact hK k 0 hk (by omega)
      have r1 : μ2 57 (4 * k + 1) = nI (R.getD k (0, 0)).2 := by rw [k2 57 (by decide)]; exact hK k 1 hk (by omega)
      have hNk : NOk P (seatsN P (risN N P) (R.take k)) := nok_seats (nok_ris hN P) (fun x hx => hR x (List.mem_of_mem_take hx))
      have hstep : seatsN P (risN N P) (R.take (k + 1)) = sitN P (seatsN P (risN N P) (R.take k)) (R.getD k (0, 0)) := fold_take hk
      rw [hstep] at ih
      generalize seatsN P (risN N P) (R.take k) = M at k1 hNk ih
      generalize hx : R.getD k (0, 0) = x at x1 x2 r0 r1 ih
      unfold Fg_seatAll_23b Fg_seatAll_87
      rw [if_neg (nI_ge hk (by omega)), i4, nI_1, if_neg (show ¬ Int32.ofNat 64 ≤ nI (4 * k + 1) from nI_ge (b := 64) (by omega) (by omega)), ldA_nI (by omega) (by omega), ldA_nI (by omega) (by omega), r0, r1, fg_isAlive k1 x2, cl_eq, nI_1]
      by_cases al : M (86 + x.2) = 0
      · rw [if_pos al, if_neg (show ¬ (1 : Int32) = 0 by decide), fg_holder k1 x1, cl_eq]
        obtain ⟨u1, u2, u3⟩ := upN_free hNk x1
        have hup : Ev (Fg_rise 2 (whoN P M x.1) μ2) (fun _ μ3 => FigC P 2 0 μ3 (upN P M x.1) ∧ Off [3, 4] μ2 μ3) := by
          rcases whoN_cases hP M x.1 with e | ⟨p, hp, e, _⟩
          · unfold upN
            rw [e, if_pos rfl, fg_rise_no k1 (Or.inl (by decide))]; exact ev_some ⟨k1, off_refl _ _⟩
          · unfold upN
            rw [e, if_neg (by rw [n1_ne (by omega)]; exact id), nI_clamp (by omega)]
            exact fg_rise k1 hNk hp
        refine ev_cl (ev_mono hup (fun _ μ3 h3 => ?_))
        refine ev_cl (ev_mono (fg_rise h3.1 u1 x2) (fun _ μ4 h4 => ?_))
        have hw : ∀ q, q < P → (upd (upN P M x.1) (102 + x.2) 0) (102 + q) ≠ nI (x.1 + 1) := fun q hq => by
          by_cases c : q = x.2
          · rw [c, fu_same]; exact fun z => nI_ne0 (n := x.1 + 1) (by omega) (by omega) z.symm
          · rw [fu_off (by omega)]; exact u2 q hq
        refine ev_cl (ev_mono (fg_sit h4.1 hP x2 x1 (fu_same _ _ _) hw) (fun _ μ5 h5 => ih μ5 ?_ (off_trans k2 (off_trans h3.2 (off_trans h4.2 h5.2)))))
        have e2 : sitN P M x = upd (upd (upN P M x.1) (102 + x.2) 0) (102 + x.2) (nI (x.1 + 1)) := by
          unfold sitN
          rw [if_pos al]
          funext i
          by_cases c : i = 102 + x.2
          · rw [c, fu_same, fu_same]
          · rw [fu_off c, fu_off c, fu_off c]
        rw [e2]; exact h5.1
      · rw [if_neg al, if_pos rfl]
        have e2 : sitN P M x = M := if_neg al
        rw [e2] at ih
        exact ih μ2 k1 k2
  · intro k A hk ih μ1 g1 g2
    show Ev (Fg_seatAll_2b 2 57 64 A _ _ μ1) _
    unfold Fg_seatAll_2b
    rw [gF_eq, g1.2.2.1, if_neg (nI_ge hk (by omega)), nI_1]
    refine ev_cl (ev_mono (fg_rise g1 (nok_ris hN k) hk) (fun _ μ2 g => ih μ2 (by rw [← risN_succ]; exact g.1) (off_trans g2 g.2)))
theorem mo_seats {P : Nat} {ν : Mu} {N : Nat → Int32} {R : List (Nat × Nat)} (h6 : ν 59 6 = nI P) (hP : P ≤ 16) (h60 : ν 60 = N) (hN : NOk P N) (hR16 : R.length ≤ 16) (hR : ∀ x, x ∈ R → x.1 < 16 ∧ x.2 < P) (hK : tbM R ν) : Ev (Mo_takesTable 59 (nI R.length) ν) (fun _ ν' => ν' 60 = seatsN P (risN N P) R ∧ ν' 59 31 = nI R.length ∧ (∀ j, j ≠ 31 → ν' 59 j = ν 59 j) ∧ ∀ k, k ≠ 59 → k ≠ 60 → ν' k = ν k) := by
  suffices K : ∀ μ1 : Mu, μ1 60 = risN N 0 → (∀ k, k ≠ 60 → μ1 k = ν k) → Ev (Mo_takesTable_2 59 (nI R.length) FU (nI 0) μ1) (fun _ ν' => ν' 60 = seatsN P (risN N P) R ∧ ν' 59 31 = nI R.length ∧ (∀ j, j ≠ 31 → ν' 59 j = ν 59 j) ∧ ∀ k, k ≠ 59 → k ≠ 60 → ν' k = ν k) from K ν (by
    rw [h60]; funext i; unfold risN; rw [if_neg (by omega)]) (fun _ _ => rfl)
  unfold Mo_takesTable_2
  refine lp_fu (F := fun kb => Mo_takesTable_2b 59 kb (nI R.length)) (z := fun _ _ => none) P (fun k A => ∀ μ1 : Mu, μ1 60 = risN N k → (∀ k, k ≠ 60 → μ1 k = ν k) → Ev (A (nI k) μ1) (fun _ ν' => ν' 60 = seatsN P (risN N P) R ∧ ν' 59 31 = nI R.length ∧ (∀ j, j ≠ 31 → ν' 59 j = ν 59 j) ∧ ∀ k, k ≠ 59 → k ≠ 60 → ν' k = ν k)) (by omega) ?_ ?_ 0 (by omega)
  · intro A μ1 g1 g2
    show Ev (Mo_takesTable_2b 59 A _ _ μ1) _
    unfold Mo_takesTable_2b
    rw [gF_eq, g2 59 (by decide), h6, if_pos (nI_le (Nat.le_refl _) (by omega))]
    suffices K2 : ∀ μ2 : Mu, μ2 60 = seatsN P (risN N P) (R.take 0) → (∀ k, k ≠ 60 → μ2 k = ν k) → Ev (Mo_takesTable_28 59 (nI R.length) FU (nI 0) μ2) (fun _ ν' => ν' 60 = seatsN P (risN N P) R ∧ ν' 59 31 = nI R.length ∧ (∀ j, j ≠ 31 → ν' 59 j = ν 59 j) ∧ ∀ k, k ≠ 59 → k ≠ 60 → ν' k = ν k) from K2 μ1 g1 g2
    unfold Mo_takesTable_28
    refine lp_fu (F := fun kb => Mo_takesTable_28b 59 kb (nI R.length)) (z := fun _ _ => none) R.length (fun k A => ∀ μ2 : Mu, μ2 60 = seatsN P (risN N P) (R.take k) → (∀ k, k ≠ 60 → μ2 k = ν k) → Ev (A (nI k) μ2) (fun _ ν' => ν' 60 = seatsN P (risN N P) R ∧ ν' 59 31 = nI R.length ∧ (∀ j, j ≠ 31 → ν' 59 j = ν 59 j) ∧ ∀ k, k ≠ 59 → k ≠ 60 → ν' k = ν k)) (by omega) ?_ ?_ 0 (by omega)
    · intro A2 μ2 k1 k2
      show Ev (Mo_takesTable_28b 59 A2 _ _ μ2) _
      unfold Mo_takesTable_28b
      rw [if_pos (nI_le (Nat.le_refl _) (by omega)), pF_eq]
      rw [List.take_length] at k1
      exact ev_some ⟨by rw [up2_ne (by decide)]; exact k1, up2_same _ _ _ _, fun j hj => by rw [up2_off (Or.inr hj), k2 59 (by decide)], fun k a b => by rw [up2_ne a, k2 k b]⟩
    · intro k A2 hk ih μ2 k1 k2
      show Ev (Mo_takesTable_28b 59 A2 _ _ μ2) _
      obtain ⟨x1, x2⟩ := hR _ (getD_inL (d := ((0, 0) : Nat × Nat)) hk)
      obtain ⟨r0, r1⟩ := hK k hk
      have hNk : NOk P (seatsN P (risN N P) (R.take k)) := nok_seats (nok_ris hN P) (fun x hx => hR x (List.mem_of_mem_take hx))
      have hstep : seatsN P (risN N P) (R.take (k + 1)) = sitN P (seatsN P (risN N P) (R.take k)) (R.getD k (0, 0)) := fold_take hk
      rw [hstep] at ih
      generalize seatsN P (risN N P) (R.take k) = M at k1 hNk ih
      generalize hx : R.getD k (0, 0) = x at x1 x2 r0 r1 ih
      have q0 : ∀ m : Mu, (∀ k, k ≠ 60 → m k = ν k) → m 74 k = nI x.1 := fun m hm => by rw [hm 74 (by decide)]; exact r0
      have q1 : ∀ m : Mu, (∀ k, k ≠ 60 → m k = ν k) → m 75 k = nI x.2 := fun m hm => by rw [hm 75 (by decide)]; exact r1
      unfold Mo_takesTable_28b Mo_takesTable_97
      simp only [Nat.reduceAdd]
      rw [if_neg (nI_ge hk (by omega)), ldA_nI (by omega) (by omega), q1 μ2 k2, mo_isAlive hP x2, cl_eq, k1, nI_1]
      by_cases al : M (86 + x.2) = 0
      · have h6' : μ2 59 6 = nI P := by rw [k2 59 (by decide)]; exact h6
        rw [if_pos al, if_neg (show ¬ (1 : Int32) = 0 by decide), ldA_nI (by omega) (by omega), q0 μ2 k2, mo_whoHas h6' hP _ (by omega), cl_eq, k1]
        have fin : ∀ m : Mu, (∀ k, k ≠ 60 → m k = ν k) → m 60 = upN P M x.1 → Ev (Mo_takesTable_75 59 A2 (nI R.length) (nI k) m) (fun _ ν' => ν' 60 = seatsN P (risN N P) R ∧ ν' 59 31 = nI R.length ∧ (∀ j, j ≠ 31 → ν' 59 j = ν 59 j) ∧ ∀ k, k ≠ 59 → k ≠ 60 → ν' k = ν k) := by
          intro m hm hm60
          unfold Mo_takesTable_75 Mo_takesTable_97
          simp only [Nat.reduceAdd]
          rw [ldA_nI (by omega) (by omega), q1 m hm, ldA_nI (by omega) (by omega), q0 m hm, show (102 : Int32) + nI x.2 = nI (102 + x.2) from nI_add 102 x.2, nI_1, stA_nI (by omega) (by omega), nI_1]
          refine ih _ ?_ (fun k hk => by rw [up2_ne hk, hm k hk])
          rw [up2_row, hm60]
          unfold sitN
          rw [if_pos al]
        rcases whoN_cases hP M x.1 with e | ⟨p, hp, e, _⟩
        · rw [e, if_pos rfl]
          exact fin μ2 k2 (by unfold upN; rw [e, if_pos rfl]; exact k1)
        · rw [e, if_neg (by rw [n1_ne (by omega)]; exact id), show (102 : Int32) + nI p = nI (102 + p) from nI_add 102 p, stA_nI (by omega) (by omega)]
          refine fin _ (fun k hk => by rw [up2_ne hk, k2 k hk]) ?_
          rw [up2_row, k1]
          unfold upN
          rw [e, if_neg (by rw [n1_ne (by omega)]; exact id), nI_clamp (by omega)]
      · rw [if_neg al, if_pos rfl]
        have e2 : sitN P M x = M := if_neg al
        rw [e2] at ih
        exact ih μ2 k1 k2
  · intro k A hk ih μ1 g1 g2
    show Ev (Mo_takesTable_2b 59 A _ _ μ1) _
    unfold Mo_takesTable_2b
    simp only [Nat.reduceAdd]
    rw [gF_eq, g2 59 (by decide), h6, if_neg (nI_ge hk (by omega)), show (102 : Int32) + nI k = nI (102 + k) from nI_add 102 k, stA_nI (by omega) (by omega), nI_1]
    exact ih _ (by rw [up2_row, g1, risN_succ]) (fun q hq => by rw [up2_ne hq, g2 q hq])
/-! heirs -/
theorem tx_count {μ : Mu} {H : Nat → Int32} {P : Nat} (hH : HOk P H) (hP : P ≤ 16) (h15 : ∀ q, q < 16 → μ 15 q = H q - 1) : Ev (Tx_countHeirs 6 μ) (fun _ μ' => HeirC μ' H ∧ Off [16] μ μ') := by
  unfold Tx_countHeirs
  simp only [Nat.reduceAdd]
  refine ev_cl (ev_mono (ja_fill (r := 16) (n := 16) (by omega) (by omega) 0 μ) (fun _ μ1 g => ?_))
  suffices K : ∀ μ2 : Mu, (∀ q, q < 16 → μ2 16 q = nI (hcS H 0 q)) → Off [16] μ μ2 → Ev (Tx_countHeirs_10 6 FU (nI 0) μ2) (fun _ μ' => HeirC μ' H ∧ Off [16] μ μ') from K μ1 g.1 g.2
  unfold Tx_countHeirs_10
  refine lp_fu (F := fun kb => Tx_countHeirs_10b 6 kb) (z := fun _ _ => none) 16 (fun k A => ∀ μ2 : Mu, (∀ q, q < 16 → μ2 16 q = nI (hcS H k q)) → Off [16] μ μ2 → Ev (A (nI k) μ2) (fun _ μ' => HeirC μ' H ∧ Off [16] μ μ')) (by omega) ?_ ?_ 0 (by omega)
  · intro A μ2 k1 k2
    show Ev (Tx_countHeirs_10b 6 A _ μ2) _
    unfold Tx_countHeirs_10b
    rw [if_pos (show (16 : Int32) ≤ nI 16 from nI_le (a := 16) (Nat.le_refl _) (by omega))]
    exact ev_some ⟨fun q hq => ⟨by rw [k2 15 (by decide)]; exact h15 q hq, k1 q hq⟩, k2⟩
  · intro k A hk ih μ2 k1 k2
    show Ev (Tx_countHeirs_10b 6 A _ μ2) _
    have hs : ∀ q, hcS H (k + 1) q = hcS H k q + (if decide (H k = nI (q + 1)) then 1 else 0) := fun q => fb_ct_succ _ _
    have hb : ∀ q, hcS H k q ≤ 16 := fun q => Nat.le_trans (hcS_le H k q) (by omega)
    unfold Tx_countHeirs_10b Tx_countHeirs_43
    simp only [Nat.reduceAdd]
    rw [if_neg (show ¬ (16 : Int32) ≤ nI k from nI_ge (b := 16) hk (by omega)), ldA_nI hk (by omega), k2 15 (by decide), h15 k hk, nI_1]
    rcases hH k hk with c | ⟨_, p, hp, c⟩
    · rw [c, if_pos (by decide)]
      refine ih μ2 (fun q hq => ?_) k2
      rw [hs, decide_eq_false (fun z => ?_), if_neg (by decide), Nat.add_zero]
      · exact k1 q hq
      · rw [c] at z; exact nI_ne0 (n := q + 1) (by omega) (by omega) z.symm
    · rw [c, nI_pred, if_neg (nI_pos (by omega)), if_neg (show ¬ (16 : Int32) ≤ nI p from nI_ge (b := 16) (by omega) (by omega)), ldA_nI (by omega) (by omega), k1 p (by omega), nI_1, stA_nI (by omega) (by omega)]
      refine ih _ (fun q hq => ?_) (fun r hr => by rw [up2_ne (fun z => hr (by rw [z]; decide)), k2 r hr])
      rw [hs]
      by_cases e : q = p
      · rw [e, up2_same, c, decide_eq_true rfl, if_pos rfl]
      · rw [up2_off (Or.inr e), decide_eq_false (fun z => e ?_), if_neg (by decide), Nat.add_zero]
        · exact k1 q hq
        · rw [c] at z
          have := (nI_eq (by omega) (by omega)).mp z
          omega
theorem tx_heirs {μ : Mu} {P : Nat} {R : List (Nat × Nat)} (hP : P ≤ 16) (hR16 : R.length ≤ 16) (hR : ∀ x, x ∈ R → x.1 < P ∧ x.2 < P) (hK : RowsK tbR (0, 0) μ R) : Ev (Tx_takeHeirs 6 57 64 (nI R.length) μ) (fun _ μ' => HeirC μ' (hupS R) ∧ Off [15, 16] μ μ') := by
  unfold Tx_takeHeirs
  simp only [Nat.reduceAdd]
  refine ev_cl (ev_mono (ja_fill (r := 15) (n := 16) (by omega) (by omega) (-1) μ) (fun _ μ1 g => ?_))
  suffices K : ∀ μ2 : Mu, (∀ q, q < 16 → μ2 15 q = hupS (R.take 0) q - 1) → Off [15] μ μ2 → Ev (Tx_takeHeirs_10 6 57 64 (nI R.length) FU (nI 0) μ2) (fun _ μ' => HeirC μ' (hupS R) ∧ Off [15, 16] μ μ') from K μ1 (fun q hq => g.1 q hq) g.2
  unfold Tx_takeHeirs_10
  refine lp_fu (F := fun kb => Tx_takeHeirs_10b 6 57 64 kb (nI R.length)) (z := fun _ _ => none) R.length (fun k A => ∀ μ2 : Mu, (∀ q, q < 16 → μ2 15 q = hupS (R.take k) q - 1) → Off [15] μ μ2 → Ev (A (nI k) μ2) (fun _ μ' => HeirC μ' (hupS R) ∧ Off [15, 16] μ μ')) (by omega) ?_ ?_ 0 (by omega)
  · intro A μ2 k1 k2
    show Ev (Tx_takeHeirs_10b 6 57 64 A _ _ μ2) _
    unfold Tx_takeHeirs_10b Tx_takeHeirs_64
    rw [if_pos (nI_le (Nat.le_refl _) (by omega))]
    rw [List.take_length] at k1
    refine ev_cl (ev_mono (tx_count (hok_S hR) hP k1) (fun _ μ3 h => ev_some ⟨h.1, fun r hr => ?_⟩))
    rw [h.2 r (fun z => hr (by
      simp only [List.mem_cons, List.not_mem_nil, or_false] at z ⊢; omega)), k2 r (fun z => hr (by
      simp only [List.mem_cons, List.not_mem_nil, or_false] at z ⊢; omega))]
  · intro k A hk ih μ2 k1 k2
    show Ev (Tx_takeHeirs_10b 6 57 64 A _ _ μ2) _
    have i4 : nI k * 4 = nI (4 * k) := by rw [show (4 : Int32) = nI 4 from rfl, pk_mul, Nat.mul_comm]
    obtain ⟨x1, x2⟩ := hR _ (getD_inL (d := ((0, 0) : Nat × Nat)) hk)
    have r0 : μ2 57 (4 * k) = nI (R.getD k (0, 0)).1 := by rw [k2 57 (by decide)]; exact hK k 0 hk (by omega)
    have r1 : μ2 57 (4 * k + 1) = nI (R.getD k (0, 0)).2 := by rw [k2 57 (by decide)]; exact hK k 1 hk (by omega)
    have hstep : hupS (R.take (k + 1)) = upd (hupS (R.take k)) (R.getD k (0, 0)).1 (nI ((R.getD k (0, 0)).2 + 1)) := fold_take (d := ((0, 0) : Nat × Nat)) hk
    unfold Tx_takeHeirs_10b Tx_takeHeirs_58
    simp only [Nat.reduceAdd]
    rw [if_neg (nI_ge hk (by omega)), i4, nI_1, if_neg (show ¬ Int32.ofNat 64 ≤ nI (4 * k + 1) from nI_ge (b := 64) (by omega) (by omega)), ldA_nI (by omega) (by omega), r0, if_neg (nI_pos (by omega)), if_neg (show ¬ (16 : Int32) ≤ nI (R.getD k (0, 0)).1 from nI_ge (b := 16) (by omega) (by omega)), ldA_nI (by omega) (by omega), r1, stA_nI (by omega) (by omega), nI_1]
    refine ih _ (fun q hq => ?_) (fun r hr => by rw [up2_ne (fun z => hr (by rw [z]; decide)), k2 r hr])
    rw [hstep]
    by_cases e : q = (R.getD k (0, 0)).1
    · rw [e, up2_same, fu_same, nI_pred]
    · rw [up2_off (Or.inr e), fu_off e]; exact k1 q hq
