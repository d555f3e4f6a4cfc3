/-! L3: GETTING, NOTING, SPILLING, SWEEPING, RISING, SITTING, DYING, both sides -/
def moreS (N : Nat → Int32) (p : Nat) (n : Int32) : Int32 := jmin n (9999 - N (22 + p))
def getsS (N : Nat → Int32) (p : Nat) (n : Int32) : Nat → Int32 := upd (upd N (22 + p) (N (22 + p) + moreS N p n)) 5 (N 5 + n - moreS N p n)
def noteB (th : Int32) (S : (Nat → Int32) × (Nat → Int32)) (w v m : Int32) : (Nat → Int32) × (Nat → Int32) := if th = 0 then (if S.1 2 = 150 then S else (upd S.1 2 (S.1 2 + 1), upd (upd (upd (upd S.2 (4 * (S.1 2).toNatClampNeg) (S.1 0)) (4 * (S.1 2).toNatClampNeg + 1) w) (4 * (S.1 2).toNatClampNeg + 2) v) (4 * (S.1 2).toNatClampNeg + 3) m)) else S
def spillS (P : Nat) (th : Int32) (L : List (Nat × List (Nat × Nat) × List (Nat × Nat))) (H : Nat → Int32) (S : (Nat → Int32) × (Nat → Int32)) (p : Nat) : (Nat → Int32) × (Nat → Int32) :=
  let N1 := upd S.1 (38 + p) (S.1 (38 + p) + 1)
  let n := askN P N1 L H p 1
  let N2 := upd N1 (54 + p) (N1 (54 + p) + n)
  noteB th (getsS N2 p n, S.2) 0 (nI p) n
def sweepS (th : Int32) (S : (Nat → Int32) × (Nat → Int32)) (p : Nat) : (Nat → Int32) × (Nat → Int32) :=
  noteB th (upd (upd S.1 5 (S.1 5 + S.1 (22 + p))) (22 + p) 0, S.2) 4 (nI p) (S.1 (22 + p))
def dieS (th : Int32) (H : Nat → Int32) (S : (Nat → Int32) × (Nat → Int32)) (p : Nat) : (Nat → Int32) × (Nat → Int32) :=
  let S1 := noteB th (upd (upd (upd S.1 (86 + p) 1) (102 + p) 0) (22 + p) 0, S.2) 5 (nI p) (S.1 (22 + p))
  if H p = 0 then (upd S1.1 5 (S1.1 5 + S.1 (22 + p)), S1.2)
  else if S1.1 (86 + ((H p).toNatClampNeg - 1)) = 0 then noteB th (getsS S1.1 ((H p).toNatClampNeg - 1) (S.1 (22 + p)), S1.2) 3 (nI ((H p).toNatClampNeg - 1)) (moreS S1.1 ((H p).toNatClampNeg - 1) (S.1 (22 + p)))
  else (upd S1.1 5 (S1.1 5 + S.1 (22 + p)), S1.2)
theorem upd_same2 (N : Nat → Int32) (i : Nat) : upd N i (N i) = N := fa_upd_same rfl
/-! invariants -/
theorem nok_of {P : Nat} {N N' : Nat → Int32} (h : NOk P N) (e : ∀ i, (22 ≤ i ∧ i < 38) ∨ (86 ≤ i ∧ i < 118) → N' i = N i) (e2 : ∃ l, l ≤ 150 ∧ N' 2 = nI l) : NOk P N' := by
  obtain ⟨h1, h2, h3, h4, h5, h6⟩ := h
  refine ⟨h1, fun p hp => ?_, fun p hp => ?_, fun p hp => ?_, fun p q hp hq => ?_, e2⟩
  · rw [e _ (by omega)]; exact h2 p hp
  · rw [e _ (by omega), e _ (by omega), e _ (by omega)]; exact h3 p hp
  · rw [e _ (by omega)]; exact h4 p hp
  · rw [e _ (by omega), e _ (by omega)]; exact h5 p q hp hq
theorem nok_upd {P : Nat} {N : Nat → Int32} (h : NOk P N) (i : Nat) (v : Int32) (h1 : i ≠ 2) (h2 : i < 22 ∨ (38 ≤ i ∧ i < 86)) : NOk P (upd N i v) := by
  refine nok_of h (fun j hj => fu_off (by omega)) ?_
  rw [fu_off (by omega)]; exact h.2.2.2.2.2
theorem nok_salt {P : Nat} {N : Nat → Int32} (h : NOk P N) {p s : Nat} (hp : p < P) (hs : s ≤ 9999) (hz : N (86 + p) = 0 ∨ s = 0) : NOk P (upd N (22 + p) (nI s)) := by
  obtain ⟨h1, h2, h3, h4, h5, h6⟩ := h
  refine ⟨h1, fun q hq => ?_, fun q hq => ?_, fun q hq => ?_, fun q r hq hr => ?_, ?_⟩
  · by_cases e : q = p
    · subst e; exact ⟨s, hs, fu_same _ _ _⟩
    · rw [fu_off (by omega)]; exact h2 q hq
  · rw [fu_off (i := 22 + p) (k := 86 + q) (by omega), fu_off (i := 22 + p) (k := 102 + q) (by omega)]
    by_cases e : q = p
    · subst e
      rw [fu_same]
      rcases hz with z | z
      · exact Or.inl z
      · subst z
        rcases h3 q hq with y | ⟨y1, y2, y3⟩
        · exact Or.inl y
        · exact Or.inr ⟨y1, y2, rfl⟩
    · rw [fu_off (by omega)]; exact h3 q hq
  · rw [fu_off (by omega)]; exact h4 q hq
  · rw [fu_off (by omega), fu_off (by omega)]; exact h5 q r hq hr
  · rw [fu_off (by omega)]; exact h6
theorem noteB_off {th : Int32} {S : (Nat → Int32) × (Nat → Int32)} {w v m : Int32} {i : Nat} (h : i ≠ 2) : (noteB th S w v m).1 i = S.1 i := by
  unfold noteB
  by_cases c : th = 0
  · rw [if_pos c]
    by_cases d : S.1 2 = 150
    · rw [if_pos d]
    · rw [if_neg d]; exact fu_off h
  · rw [if_neg c]
theorem nok_note {P : Nat} {th : Int32} {S : (Nat → Int32) × (Nat → Int32)} (h : NOk P S.1) (w v m : Int32) : NOk P (noteB th S w v m).1 := by
  refine nok_of h (fun i hi => noteB_off (by omega)) ?_
  obtain ⟨l, hl, e⟩ := h.2.2.2.2.2
  unfold noteB
  by_cases c : th = 0
  · rw [if_pos c]
    by_cases d : S.1 2 = 150
    · rw [if_pos d]; exact ⟨l, hl, e⟩
    · rw [if_neg d]
      refine ⟨l + 1, ?_, by show upd S.1 2 (S.1 2 + 1) 2 = _; rw [fu_same, e, nI_1]⟩
      rcases Nat.lt_or_ge l 150 with q | q
      · omega
      · exact absurd (by rw [e, show l = 150 by omega]; rfl) d
  · rw [if_neg c]; exact ⟨l, hl, e⟩
theorem moreS_eq {N : Nat → Int32} {p k s : Nat} (hs : N (22 + p) = nI s) (h : s ≤ 9999) (hk : k < 2 ^ 31) : moreS N p (nI k) = nI (min k (9999 - s)) := by
  unfold moreS
  rw [hs, show (9999 : Int32) - nI s = nI (9999 - s) from pk_sub (a := 9999) h, jmin_nI hk (by omega)]
theorem nok_gets {P : Nat} {N : Nat → Int32} (h : NOk P N) {p k : Nat} (hp : p < P) (hz : N (86 + p) = 0) (hk : k < 2 ^ 31) : NOk P (getsS N p (nI k)) := by
  obtain ⟨s, hs, e⟩ := h.2.1 p hp
  unfold getsS
  rw [moreS_eq e hs hk, e, nI_add]
  exact nok_upd (nok_salt h hp (by omega) (Or.inl hz)) 5 _ (by omega) (by omega)
theorem nok_seat0 {P : Nat} {N : Nat → Int32} (h : NOk P N) (p : Nat) : NOk P (upd N (102 + p) 0) := by
  obtain ⟨h1, h2, h3, h4, h5, h6⟩ := h
  by_cases hp : p < P
  · refine ⟨h1, fun q hq => ?_, fun q hq => ?_, fun q hq => ?_, fun q r hq hr => ?_, ?_⟩
    · rw [fu_off (by omega)]; exact h2 q hq
    · rw [fu_off (i := 102 + p) (k := 86 + q) (by omega), fu_off (i := 102 + p) (k := 22 + q) (by omega)]
      by_cases e : q = p
      · subst e; rw [fu_same]
        rcases h3 q hq with y | ⟨y1, y2, y3⟩
        · exact Or.inl y
        · exact Or.inr ⟨y1, rfl, y3⟩
      · rw [fu_off (by omega)]; exact h3 q hq
    · by_cases e : q = p
      · subst e; exact ⟨0, by omega, fu_same _ _ _⟩
      · rw [fu_off (by omega)]; exact h4 q hq
    · by_cases e : q = p
      · subst e; exact fun _ => Or.inr (fu_same _ _ _)
      · rw [fu_off (i := 102 + p) (k := 102 + q) (by omega)]
        by_cases e2 : r = p
        · subst e2; rw [fu_same]; exact fun z => Or.inr z
        · rw [fu_off (by omega)]; exact h5 q r hq hr
    · rw [fu_off (by omega)]; exact h6
  · refine ⟨h1, fun q hq => ?_, fun q hq => ?_, fun q hq => ?_, fun q r hq hr => ?_, ?_⟩
    · rw [fu_off (by omega)]; exact h2 q hq
    · rw [fu_off (by omega), fu_off (by omega), fu_off (by omega)]; exact h3 q hq
    · rw [fu_off (by omega)]; exact h4 q hq
    · rw [fu_off (by omega), fu_off (by omega)]; exact h5 q r hq hr
    · rw [fu_off (by omega)]; exact h6
theorem whoN_free {P : Nat} {N : Nat → Int32} {s : Nat} (h : whoN P N s = -1) (hP : P ≤ 16) : ∀ p, p < P → N (102 + p) ≠ nI (s + 1) := by
  rcases whoN_is (P := P) (N := N) (s := s) with ⟨q, hq, e, _, _⟩ | ⟨_, h1⟩
  · rw [h] at e
    exact absurd e.symm (by rw [n1_ne (by omega)]; exact id)
  · exact h1
theorem nok_sit {P : Nat} {N : Nat → Int32} (h : NOk P N) {p s : Nat} (hp : p < P) (hs : s < 16) (hz : N (86 + p) = 0) (hw : ∀ q, q < P → N (102 + q) ≠ nI (s + 1)) : NOk P (upd N (102 + p) (nI (s + 1))) := by
  obtain ⟨h1, h2, h3, h4, h5, h6⟩ := h
  refine ⟨h1, fun q hq => ?_, fun q hq => ?_, fun q hq => ?_, fun q r hq hr => ?_, ?_⟩
  · rw [fu_off (by omega)]; exact h2 q hq
  · rw [fu_off (i := 102 + p) (k := 86 + q) (by omega), fu_off (i := 102 + p) (k := 22 + q) (by omega)]
    by_cases e : q = p
    · subst e; exact Or.inl hz
    · rw [fu_off (by omega)]; exact h3 q hq
  · by_cases e : q = p
    · subst e; exact ⟨s + 1, by omega, fu_same _ _ _⟩
    · rw [fu_off (by omega)]; exact h4 q hq
  · by_cases e : q = p
    · subst e
      by_cases e2 : r = q
      · subst e2; exact fun _ => Or.inl rfl
      · rw [fu_same, fu_off (by omega)]; exact fun z => absurd z.symm (hw r hr)
    · rw [fu_off (i := 102 + p) (k := 102 + q) (by omega)]
      by_cases e2 : r = p
      · subst e2; rw [fu_same]; exact fun z => absurd z (hw q hq)
      · rw [fu_off (by omega)]; exact h5 q r hq hr
  · rw [fu_off (by omega)]; exact h6
/-! class -/
theorem fg_add {P c : Nat} {th : Int32} {μ : Mu} {N : Nat → Int32} (h : FigC P c th μ N) (p f : Nat) (hp : p < P) (hf : f < 5) (m : Int32) : Fg_add c (nI p) (nI f) m μ = some ((), up2 μ (c + 1) (7 * p + f) (N (6 + 16 * f + p) + m)) := by
  unfold Fg_add
  rw [fg_get h p f hp (by omega), cl_eq, fg_put h p f hp (by omega), cl_eq, h.2.2.2.2.1 p f hp hf]
theorem fg_a {P c : Nat} {th : Int32} {μ : Mu} {N : Nat → Int32} (h : FigC P c th μ N) (p f i : Nat) (fv : Int32) (hfv : fv = nI f) (hi : i = 6 + 16 * f + p) (hp : p < P) (hf : f < 5) (m : Int32) : Ev (Fg_add c (nI p) fv m μ) (fun _ μ' => FigC P c th μ' (upd N i (N i + m)) ∧ Off [c + 1] μ μ') := by
  subst hfv; subst hi
  rw [fg_add h p f hp hf m]
  exact ev_some ⟨figC_put h p f hp hf _, off_up List.mem_cons_self⟩
theorem fg_pour {P c : Nat} {th : Int32} {μ : Mu} {N : Nat → Int32} (h : FigC P c th μ N) {p : Nat} (hp : p < P) (n : Int32) : Ev (Fg_pour c (nI p) n μ) (fun r μ' => r = moreS N p n ∧ FigC P c th μ' (getsS N p n) ∧ Off [c, c + 1] μ μ') := by
  unfold Fg_pour
  rw [fg_g1 h hp, cl_eq, show Fg_add c (nI p) 1 (jmin n (9999 - N (22 + p))) μ = _ from fg_add h p 1 hp (by omega) _, cl_eq, gF_eq, pF_eq]
  have h1 := figC_put h p 1 hp (by omega) (N (22 + p) + jmin n (9999 - N (22 + p)))
  have e6 : (up2 μ (c + 1) (7 * p + 1) (N (22 + p) + jmin n (9999 - N (22 + p)))) c 6 = N 5 := by rw [up2_off (Or.inl (by omega))]; exact h.2.2.2.1 6 (by omega) (by omega)
  have h2 := figC_sc h1 6 (by omega) (by omega) (N 5 + n - moreS N p n)
  rw [show (6 + 16 * 1 + p) = 22 + p by omega] at *
  rw [e6, ring_t1]
  refine ev_some ⟨rfl, h2, fun k hk => ?_⟩
  simp only [List.mem_cons, List.not_mem_nil, or_false] at hk
  rw [up2_ne (by omega), up2_ne (by omega)]
theorem c_note {P c : Nat} {th : Int32} {μ : Mu} {S : (Nat → Int32) × (Nat → Int32)} (h : FigC P c th μ S.1) (hb : ∀ k, k < 600 → μ 5 k = S.2 k) (hN : NOk P S.1) (hc : c = 2 ∨ c = 42) (w v m : Int32) : Ev (Pt_note 1 c w v m μ) (fun _ μ' => FigC P c th μ' (noteB th S w v m).1 ∧ (∀ k, k < 600 → μ' 5 k = (noteB th S w v m).2 k) ∧ Off [c, 5] μ μ') := by
  obtain ⟨l, hl, he⟩ := hN.2.2.2.2.2
  have h9 : μ c 9 = nI l := by rw [h.2.2.2.1 9 (by omega) (by omega)]; exact he
  have h7 : μ c 7 = S.1 0 := h.2.2.2.1 7 (by omega) (by omega)
  unfold Pt_note noteB
  simp only [Nat.reduceAdd]
  rw [gF_eq, h.2.1]
  by_cases c0 : th = 0
  · rw [if_pos c0, if_pos c0, gF_eq, h9, if_neg (nI_pos (by omega)), gF_eq, h9]
    by_cases c1 : l = 150
    · subst c1
      rw [if_neg (by decide), if_pos (by rw [he]; decide)]
      exact ev_some ⟨h, hb, off_refl _ _⟩
    · rw [if_pos (show nI l < 150 from nI_lt (b := 150) (by omega) (by omega)), if_neg (fun z : S.1 2 = 150 => c1 ((nI_eq (by omega) (by omega)).mp (show nI l = nI 150 from he.symm.trans z)))]
      rw [gF_eq, gF_eq, h9, h7]
      simp (disch := omega) only [mul_li, add_li, stA_nI, gF_eq, pF_eq]
      rw [he, nI_clamp (by omega)]
      have e9 : (up2 (up2 (up2 (up2 μ 5 (l * 4) (S.1 0)) 5 (l * 4 + 1) w) 5 (l * 4 + 2) v) 5 (l * 4 + 3) m) c 9 = nI l := by
        rw [up2_ne (by omega), up2_ne (by omega), up2_ne (by omega), up2_ne (by omega), h9]
      rw [e9]
      have hf : FigC P c th (up2 (up2 (up2 (up2 μ 5 (l * 4) (S.1 0)) 5 (l * 4 + 1) w) 5 (l * 4 + 2) v) 5 (l * 4 + 3) m) S.1 := figC_congr (by rw [up2_ne (by omega), up2_ne (by omega), up2_ne (by omega), up2_ne (by omega)]) (by rw [up2_ne (by omega), up2_ne (by omega), up2_ne (by omega), up2_ne (by omega)]) (by rw [up2_ne (by omega), up2_ne (by omega), up2_ne (by omega), up2_ne (by omega)]) h
      refine ev_some ⟨figC_sc hf 9 (by omega) (by omega) _, fun k hk => ?_, fun k hk => ?_⟩
      · rw [up2_off (Or.inl (by omega)), up2_row, up2_row, up2_row, up2_row, Nat.mul_comm l 4]
        unfold upd
        rw [hb k hk]
      · simp only [List.mem_cons, List.not_mem_nil, or_false] at hk
        rw [up2_ne (by omega), up2_ne (by omega), up2_ne (by omega), up2_ne (by omega), up2_ne (by omega)]
  · rw [if_neg c0, if_neg c0]
    exact ev_some ⟨h, hb, off_refl _ _⟩
theorem off_of {R R' : List Nat} {μ μ' : Mu} (h : Off R μ μ') (hs : ∀ k, k ∈ R → k ∈ R') : Off R' μ μ' := off_mono hs h
theorem c_spill {P c : Nat} {th : Int32} {μ : Mu} {S : (Nat → Int32) × (Nat → Int32)} {L : List (Nat × List (Nat × Nat) × List (Nat × Nat))} {H : Nat → Int32} (h : CtxC P c th μ S L H) (hs : SpOk P S.1 L H) {p : Nat} (hp : p < P) (hz : S.1 (86 + p) = 0) : Ev (Dy_spill 39 1 c (nI p) μ) (fun _ μ' => CtxC P c th μ' (spillS P th L H S p) L H ∧ SpOk P (spillS P th L H S p).1 L H ∧ Off (CR c) μ μ') := by
  obtain ⟨h1, h2, h3, h4, h5⟩ := id h
  have hP := hs.1.1
  unfold Dy_spill
  refine ev_cl (ev_mono (fg_a h1 p 2 (38 + p) 2 rfl (by omega) hp (by omega) 1) ?_)
  rintro _ μ1 ⟨f1, o1⟩
  have n1 : NOk P (upd S.1 (38 + p) (S.1 (38 + p) + 1)) := nok_upd hs.1 _ _ (by omega) (by omega)
  have c1 : CtxC P c th μ1 (upd S.1 (38 + p) (S.1 (38 + p) + 1), S.2) L H := ctxC_of h f1 (fun k hk => by rw [o1 5 (by simp; omega)]; exact h2 k hk) (off_of o1 (by simp [CR]))
  refine ev_cl (ev_mono (c_asks c1 ⟨n1, hs.2⟩ (word := 1) hp (by omega)) ?_)
  rintro n μ2 ⟨rfl, o2⟩
  obtain ⟨kn, sn, hkn, -, -, hk9, -⟩ := askN_rng (L := L) (H := H) n1 (p := p) (word := 1) hp (by omega)
  have f2 : FigC P c th μ2 (upd S.1 (38 + p) (S.1 (38 + p) + 1)) := figC_off o2 (by simp; omega) (by simp; omega) (by simp; omega) f1
  refine ev_cl (ev_mono (fg_a f2 p 3 (54 + p) 3 rfl (by omega) hp (by omega) (askN P (upd S.1 (38 + p) (S.1 (38 + p) + 1)) L H p 1)) ?_)
  rintro _ μ3 ⟨f3, o3⟩
  refine ev_cl (ev_mono (fg_pour f3 hp (askN P (upd S.1 (38 + p) (S.1 (38 + p) + 1)) L H p 1)) ?_)
  rintro r μ4 ⟨rfl, f4, o4⟩
  have n3 := nok_upd n1 (54 + p) ((upd S.1 (38 + p) (S.1 (38 + p) + 1)) (54 + p) + askN P (upd S.1 (38 + p) (S.1 (38 + p) + 1)) L H p 1) (by omega) (by omega)
  have n4 : NOk P (getsS (upd (upd S.1 (38 + p) (S.1 (38 + p) + 1)) (54 + p) ((upd S.1 (38 + p) (S.1 (38 + p) + 1)) (54 + p) + askN P (upd S.1 (38 + p) (S.1 (38 + p) + 1)) L H p 1)) p (askN P (upd S.1 (38 + p) (S.1 (38 + p) + 1)) L H p 1)) := by
    rw [hkn] at n3 ⊢
    exact nok_gets n3 hp (by rw [fu_off (by omega), fu_off (by omega)]; exact hz) (by omega)
  have hb4 : ∀ k, k < 600 → μ4 5 k = S.2 k := fun k hk => by
    rw [o4 5 (by simp; omega), o3 5 (by simp; omega), o2 5 (by simp), o1 5 (by simp; omega)]; exact h2 k hk
  refine ev_cl (ev_mono (c_note (S := (getsS (upd (upd S.1 (38 + p) (S.1 (38 + p) + 1)) (54 + p) ((upd S.1 (38 + p) (S.1 (38 + p) + 1)) (54 + p) + askN P (upd S.1 (38 + p) (S.1 (38 + p) + 1)) L H p 1)) p (askN P (upd S.1 (38 + p) (S.1 (38 + p) + 1)) L H p 1), S.2)) f4 hb4 n4 h5 0 (nI p) (askN P (upd S.1 (38 + p) (S.1 (38 + p) + 1)) L H p 1)) ?_)
  rintro _ μ5 ⟨f5, b5, o5⟩
  have oo : Off (CR c) μ μ5 := off_trans (off_of o1 (by simp [CR])) (off_trans (off_of o2 (by simp [CR])) (off_trans (off_of o3 (by simp [CR])) (off_trans (off_of o4 (by simp [CR])) (off_of o5 (by simp [CR])))))
  exact ev_some ⟨ctxC_of h f5 b5 oo, ⟨nok_note n4 _ _ _, hs.2⟩, oo⟩
/-! the reference -/
theorem mo_lesser (x y : Int32) (μ : Mu) : Mo_lesser 59 x y μ = some (jmin x y, μ) := by
  unfold Mo_lesser jmin
  by_cases c : y ≤ x
  · rw [if_pos c]
    by_cases d : y < x
    · rw [if_pos d]
    · rw [if_neg d]
      rcases fa_three y x with q | q | q
      · exact absurd q d
      · rw [q]
      · exact absurd c (fa_of_lt q).2.1
  · rw [if_neg c, if_neg (fun z => c (fa_of_lt z).1)]
theorem m_gets {μ : Mu} {p : Nat} (hp : p < 16) (n : Int32) : Ev (Mo_gets 59 (nI p) n μ) (fun r μ' => r = moreS (μ 60) p n ∧ μ' 60 = getsS (μ 60) p n ∧ Off [60] μ μ') := by
  unfold Mo_gets
  simp (disch := omega) only [Nat.reduceAdd, li_add, ldA_nI, mo_lesser, cl_eq, stA_nI, ldA_li, stA_li]
  refine ev_some ⟨rfl, ?_, off_trans (off_up List.mem_cons_self) (off_up List.mem_cons_self)⟩
  rw [up2_row, up2_row]
  unfold getsS moreS
  rw [fu_off (by omega)]
theorem m_note {th : Int32} {μ : Mu} {P : Nat} (h5 : μ 59 5 = th) (hN : NOk P (μ 60)) (w v m : Int32) : Ev (Mo_notes 59 w v m μ) (fun _ μ' => μ' 60 = (noteB th (μ 60, μ 63) w v m).1 ∧ μ' 63 = (noteB th (μ 60, μ 63) w v m).2 ∧ Off [60, 63] μ μ') := by
  obtain ⟨l, hl, he⟩ := hN.2.2.2.2.2
  unfold Mo_notes noteB
  rw [gF_eq, h5]
  by_cases c0 : th = 0
  · rw [if_pos c0, if_pos c0]
    simp (disch := omega) only [Nat.reduceAdd, ldA_li]
    by_cases c1 : μ 60 2 = 150
    · rw [if_pos c1, if_pos c1]
      exact ev_some ⟨rfl, rfl, off_refl _ _⟩
    · rw [if_neg c1, if_neg c1]
      have hl2 : l < 150 := by
        rcases Nat.lt_or_ge l 150 with q | q
        · exact q
        · exact absurd (by rw [he, show l = 150 by omega]; rfl) c1
      rw [he]
      simp (disch := omega) only [li_mul, add_li, stA_nI, ldA_li, stA_li, nI_clamp]
      refine ev_some ⟨?_, ?_, fun k hk => ?_⟩
      · rw [up2_row, up2_ne (by omega), up2_ne (by omega), up2_ne (by omega), up2_ne (by omega), he, nI_1]
      · rw [up2_ne (by omega), up2_row, up2_row, up2_row, up2_row]
      · simp only [List.mem_cons, List.not_mem_nil, or_false] at hk
        rw [up2_ne (by omega), up2_ne (by omega), up2_ne (by omega), up2_ne (by omega), up2_ne (by omega)]
  · rw [if_neg c0, if_neg c0]
    exact ev_some ⟨rfl, rfl, off_refl _ _⟩
theorem m_spill {P : Nat} {th : Int32} {μ : Mu} {S : (Nat → Int32) × (Nat → Int32)} {L : List (Nat × List (Nat × Nat) × List (Nat × Nat))} {H : Nat → Int32} (h : CtxM P th μ S L H) (hs : SpOk P S.1 L H) {p : Nat} (hp : p < P) (hz : S.1 (86 + p) = 0) : Ev (Mo_isSpilt 59 (nI p) μ) (fun _ μ' => CtxM P th μ' (spillS P th L H S p) L H ∧ Off RD μ μ') := by
  obtain ⟨h1, h2, h3, h4, h5, h6⟩ := id h
  have hP := hs.1.1
  unfold Mo_isSpilt
  simp (disch := omega) only [Nat.reduceAdd, li_add, ldA_nI, stA_nI]
  have n1 : NOk P (upd S.1 (38 + p) (S.1 (38 + p) + 1)) := nok_upd hs.1 _ _ (by omega) (by omega)
  have o1 : Off RD μ (up2 μ 60 (38 + p) (μ 60 (38 + p) + 1)) := off_up (by simp [RD])
  have c1 : CtxM P th (up2 μ 60 (38 + p) (μ 60 (38 + p) + 1)) (upd S.1 (38 + p) (S.1 (38 + p) + 1), S.2) L H := ctxM_of h (by rw [up2_row, h1]) (by rw [up2_ne (by omega), h2]) o1
  refine ev_cl (ev_mono (m_throws c1 ⟨n1, hs.2⟩ hp) ?_)
  rintro n μ2 ⟨rfl, o2⟩
  obtain ⟨kn, sn, hkn, -, -, hk9, -⟩ := askN_rng (L := L) (H := H) n1 (p := p) (word := 1) hp (by omega)
  have e2 : μ2 60 = upd S.1 (38 + p) (S.1 (38 + p) + 1) := by rw [o2 60 (by simp)]; exact c1.1
  have e63 : μ2 63 = S.2 := by rw [o2 63 (by simp)]; exact c1.2.1
  refine ev_cl (ev_mono (m_gets (by omega) _) ?_)
  rintro r μ4 ⟨rfl, f4, o4⟩
  have n3 := nok_upd n1 (54 + p) ((upd S.1 (38 + p) (S.1 (38 + p) + 1)) (54 + p) + askN P (upd S.1 (38 + p) (S.1 (38 + p) + 1)) L H p 1) (by omega) (by omega)
  have n4 : NOk P (getsS (upd (upd S.1 (38 + p) (S.1 (38 + p) + 1)) (54 + p) ((upd S.1 (38 + p) (S.1 (38 + p) + 1)) (54 + p) + askN P (upd S.1 (38 + p) (S.1 (38 + p) + 1)) L H p 1)) p (askN P (upd S.1 (38 + p) (S.1 (38 + p) + 1)) L H p 1)) := by
    rw [hkn] at n3 ⊢
    exact nok_gets n3 hp (by rw [fu_off (by omega), fu_off (by omega)]; exact hz) (by omega)
  rw [up2_row, e2] at f4
  have e4 : μ4 63 = S.2 := by rw [o4 63 (by simp), up2_ne (by omega), e63]
  have e5 : μ4 59 5 = th := by rw [o4 59 (by simp), up2_ne (by omega), o2 59 (by simp), o1 59 (by simp [RD]), h3]
  refine ev_cl (ev_mono (m_note e5 (by rw [f4]; exact n4) 0 (nI p) _) ?_)
  rintro _ μ5 ⟨f5, b5, o5⟩
  rw [f4, e4] at f5 b5
  have oo : Off RD μ μ5 := off_trans o1 (off_trans (off_of o2 (by simp [RD])) (off_trans (off_up (by simp [RD])) (off_trans (off_of o4 (by simp [RD])) (off_of o5 (by simp [RD])))))
  exact ev_some ⟨ctxM_of h f5 b5 oo, oo⟩
