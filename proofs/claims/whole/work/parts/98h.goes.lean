/-! L3: GOES, HIGH -/
theorem repC_ofT {μ μ' : Mu} {y : Ly} {z : Zt} (hy : LyRep y) (h : ∀ k, k ∉ [1, 5, 6, 13, 39, 40, 41, 42, 43, 44, 45, 46, 47, 50, 51, 52, 53, 54, 55, 56, 57, 58] → (k < 59 ∨ 99 ≤ k) → μ' k = μ k) (h42 : μ' 42 0 = 1) (hb : ∀ k, k < 600 → μ' 5 k = μ 5 k) (hR : RepC μ y z) : RepC μ' y z := by
  obtain ⟨h1, h2, h3, h4, h5, h6, h7, h8⟩ := hR
  have hh : ∀ k, 99 ≤ k → μ' k = μ k := fun k hk => h k (fun z => by
    simp only [List.mem_cons, List.not_mem_nil, or_false] at z; omega) (Or.inr hk)
  refine ⟨?_, h42, by rw [h 48 (by decide) (by omega)]; exact h3, fun i hi => by rw [h 49 (by decide) (by omega)]; exact h4 i hi, by rw [h 48 (by decide) (by omega)]; exact h5, by rw [h 48 (by decide) (by omega)]; exact h6, undoC_of hy (h 0 (by decide) (by omega)) hh h7, picC_of hy hh h8⟩
  -- a port's cell 6 holds references alone
  obtain ⟨g1, g2, g3, g4, g5, g6, g7, g8, g9⟩ := h1
  have e : ∀ k, 2 ≤ k → k ≤ 38 → k ≠ 5 → k ≠ 6 → k ≠ 13 → μ' k = μ k := fun k a b c0 c d => h k (fun z => by
    simp only [List.mem_cons, List.not_mem_nil, or_false] at z; omega) (Or.inl (by omega))
  exact ⟨figC_congr (e 2 (by omega) (by omega) (by omega) (by omega) (by omega)) (e 3 (by omega) (by omega) (by omega) (by omega) (by omega)) (e 4 (by omega) (by omega) (by omega) (by omega) (by omega)) g1, fun k hk => by rw [hb k hk]; exact g2 k hk, lawC_off (fun k a b => e k (by omega) (by omega) (by omega) (by omega) (by omega)) g3, heirC_of (e 15 (by omega) (by omega) (by omega) (by omega) (by omega)) (e 16 (by omega) (by omega) (by omega) (by omega) (by omega)) g4, weaC_of (e 14 (by omega) (by omega) (by omega) (by omega) (by omega)) (e 17 (by omega) (by omega) (by omega) (by omega) (by omega)) g5, by rw [e 17 (by omega) (by omega) (by omega) (by omega) (by omega)]; exact g6, by rw [e 17 (by omega) (by omega) (by omega) (by omega) (by omega)]; exact g7, by rw [e 17 (by omega) (by omega) (by omega) (by omega) (by omega)]; exact g8, toldC_off (fun k a b => e k (by omega) (by omega) (by omega) (by omega) (by omega)) g9⟩
def ThK (S T : St) : Prop := T.2 = S.2 ∧ (∀ p, p < 16 → S.1 (86 + p) ≠ 0 → T.1 (86 + p) ≠ 0) ∧ ∀ i, 118 ≤ i → T.1 i = S.1 i
theorem thk_refl (S : St) : ThK S S := ⟨rfl, fun _ _ h => h, fun _ _ => rfl⟩
theorem thk_trans {S T U : St} (h : ThK S T) (g : ThK T U) : ThK S U := ⟨g.1.trans h.1, fun p hp a => g.2.1 p hp (h.2.1 p hp a), fun i hi => (g.2.2 i hi).trans (h.2.2 i hi)⟩
theorem thk_upd (S : St) (i : Nat) (v : Int32) (h : i < 86 ∨ (102 ≤ i ∧ i < 118)) : ThK S (upd S.1 i v, S.2) := ⟨rfl, fun p hp a => by rw [show (upd S.1 i v, S.2).1 = upd S.1 i v from rfl, fu_off (by omega)]; exact a, fun j hj => fu_off (by omega)⟩
theorem thk_dead (S : St) {p : Nat} (hp : p < 16) : ThK S (upd S.1 (86 + p) 1, S.2) := ⟨rfl, fun q hq a => by
    show upd S.1 (86 + p) 1 (86 + q) ≠ 0
    by_cases e : q = p
    · rw [e, fu_same]; decide
    · rw [fu_off (by omega)]; exact a, fun j hj => fu_off (by omega)⟩
theorem thk_gets (S : St) {p : Nat} (hp : p < 16) (n : Int32) : ThK S (getsS S.1 p n, S.2) := thk_trans (thk_upd S (22 + p) _ (by omega)) (thk_upd (upd S.1 (22 + p) _, S.2) 5 _ (by omega))
theorem noteB_th {th : Int32} (ht : th ≠ 0) (S : St) (w v m : Int32) : noteB th S w v m = S := if_neg ht
theorem thk_spill {P : Nat} {th : Int32} {L : LawL} {H : Nat → Int32} (ht : th ≠ 0) (S : St) {p : Nat} (hp : p < 16) : ThK S (spillS P th L H S p) := by
  unfold spillS
  simp only
  rw [noteB_th ht]
  exact thk_trans (thk_upd S (38 + p) _ (by omega)) (thk_trans (thk_upd (upd S.1 (38 + p) _, S.2) (54 + p) _ (by omega)) (thk_gets (upd (upd S.1 (38 + p) _) (54 + p) _, S.2) hp _))
theorem thk_die {P : Nat} {th : Int32} {H : Nat → Int32} (ht : th ≠ 0) (hH : HOk P H) (hP : P ≤ 16) (S : St) {p : Nat} (hp : p < 16) : ThK S (dieS th H S p) := by
  unfold dieS
  simp only
  rw [noteB_th ht]
  have h1 : ThK S (upd (upd (upd S.1 (86 + p) 1) (102 + p) 0) (22 + p) 0, S.2) := thk_trans (thk_dead S hp) (thk_trans (thk_upd (upd S.1 (86 + p) 1, S.2) (102 + p) 0 (by omega)) (thk_upd (upd (upd S.1 (86 + p) 1) (102 + p) 0, S.2) (22 + p) 0 (by omega)))
  generalize (upd (upd (upd S.1 (86 + p) 1) (102 + p) 0) (22 + p) 0, S.2) = S1 at h1
  by_cases c : H p = 0
  · rw [if_pos c]; exact thk_trans h1 (thk_upd S1 5 _ (by omega))
  · rw [if_neg c]
    rcases heir_cases hH hp with z | ⟨q, hq, z⟩
    · exact absurd z c
    · have eq1 : (H p).toNatClampNeg - 1 = q := by rw [z, nI_clamp (by omega)]; omega
      rw [eq1]
      by_cases ha : S1.1 (86 + q) = 0
      · rw [if_pos ha, noteB_th ht]; exact thk_trans h1 (thk_gets S1 (by omega) _)
      · rw [if_neg ha]; exact thk_trans h1 (thk_upd S1 5 _ (by omega))
theorem cowF_th {th day : Int32} (ht : th ≠ 0) (g : Nat → Nat) (x : Int32 × (Nat → Int32)) : ∀ k, cowF th day g k x = x := by
  intro k
  induction k with
  | zero => rfl
  | succ k ih =>
    show (if 0 < g k then note1 th day (cowF th day g k x) 2 (nI k) (nI (g k)) else cowF th day g k x) = x
    rw [ih]
    split
    · exact if_neg ht
    · rfl
theorem thk_cattle {P : Nat} {th : Int32} (ht : th ≠ 0) (hP : P ≤ 16) (S : St) (n : Nat) : ThK S (cattleS P th S n) := by
  unfold cattleS
  rw [cowF_th ht]
  have e2 : ∀ i, 86 ≤ i → cowN P S.1 (sal S.1) (lickI P (sal S.1) n) P (S.1 2) i = S.1 i := fun i hi => by
    unfold cowN; rw [if_neg (by omega), if_neg (by omega), if_neg (by omega)]
  exact ⟨rfl, fun p hp a => by
    show cowN P S.1 (sal S.1) (lickI P (sal S.1) n) P (S.1 2) (86 + p) ≠ 0
    rw [e2 _ (by omega)]; exact a, fun i hi => e2 i (by omega)⟩
theorem thk_feast {P : Nat} {th : Int32} {L : LawL} {H : Nat → Int32} (ht : th ≠ 0) (S : St) : ∀ k, k ≤ 16 → ThK S (feastF P th L H S k).1 := by
  intro k
  induction k with
  | zero => exact fun _ => thk_refl S
  | succ k ih =>
    intro hk
    have e : feastF P th L H S (k + 1) = if (feastF P th L H S k).1.1 (102 + k) = 0 then feastF P th L H S k else (spillS P th L H (feastF P th L H S k).1 k, (feastF P th L H S k).2 + 1) := rfl
    rw [e]
    split
    · exact ih (by omega)
    · exact thk_trans (ih (by omega)) (thk_spill ht _ (by omega))
theorem thk_comes {P : Nat} {th : Int32} {L : LawL} {H : Nat → Int32} {w : WLn} (ht : th ≠ 0) (hH : HOk P H) (hP : P ≤ 16) (S : St) (h3 : w.2.1 = 3 → w.2.2.1 < P) (h4 : w.2.1 = 4 → w.2.2.1 < P) (h5 : w.2.1 ≤ 4) : ThK S (comesS P th L H w S).1 := by
  unfold comesS
  by_cases c0 : w.2.1 = 0
  · rw [if_pos c0]; exact thk_upd S 3 _ (by omega)
  rw [if_neg c0]
  by_cases c1 : w.2.1 = 1
  · rw [if_pos c1]; exact thk_cattle ht hP S _
  rw [if_neg c1]
  by_cases c2 : w.2.1 = 2
  · rw [if_pos c2]; exact thk_feast ht S P hP
  rw [if_neg c2]
  by_cases c3 : w.2.1 = 3
  · rw [if_pos c3]; have := h3 c3; exact thk_upd S _ _ (by omega)
  rw [if_neg c3]
  have := h4 (by omega)
  by_cases c4 : S.1 (86 + w.2.2.1) = 0
  · rw [if_pos c4]; exact thk_die ht hH hP S (by omega)
  · rw [if_neg c4]; exact thk_refl S
theorem thk_wea {P : Nat} {th : Int32} {L : LawL} {H : Nat → Int32} {W : List WLn} (ht : th ≠ 0) (hH : HOk P H) (hP : P ≤ 16) (hW : WOk P W) (S : St) : ∀ k, k ≤ W.length → ThK S (weaF P th L H W S k).1 := by
  intro k
  induction k with
  | zero => exact fun _ => thk_refl S
  | succ k ih =>
    intro hk
    have e : weaF P th L H W S (k + 1) = if (weaF P th L H W S k).1.1 0 = nI (W.getD k w0).1 then ((comesS P th L H (W.getD k w0) (weaF P th L H W S k).1).1, (weaF P th L H W S k).2 + (comesS P th L H (W.getD k w0) (weaF P th L H W S k).1).2) else weaF P th L H W S k := rfl
    rw [e]
    obtain ⟨a1, a2, a3, a4, a5, a6⟩ := hW.2 k (by omega)
    by_cases z : (weaF P th L H W S k).1.1 0 = nI (W.getD k w0).1
    · rw [if_pos z]; exact thk_trans (ih (by omega)) (thk_comes ht hH hP _ a5 a6 a2)
    · rw [if_neg z]; exact ih (by omega)
theorem hapS_th {th : Int32} (ht : th ≠ 0) (S : St) (v : Int32) : (hapS th S v).1 = S := by
  unfold hapS; rw [if_neg ht]
theorem thk_pers {P : Nat} {th : Int32} {L : LawL} {H : Nat → Int32} (ht : th ≠ 0) (x : St × Nat) : ∀ k, k ≤ 16 → ThK x.1 (persF P th L H x k).1 := by
  intro k
  induction k with
  | zero => exact fun _ => thk_refl x.1
  | succ k ih =>
    intro hk
    have e : persF P th L H x (k + 1) = if (persF P th L H x k).1.1 (86 + k) = 0 then (if (hapS th (persF P th L H x k).1 (askN P (persF P th L H x k).1.1 L H k 0)).2 then (spillS P th L H (hapS th (persF P th L H x k).1 (askN P (persF P th L H x k).1.1 L H k 0)).1 k, (persF P th L H x k).2 + 1) else ((hapS th (persF P th L H x k).1 (askN P (persF P th L H x k).1.1 L H k 0)).1, (persF P th L H x k).2)) else persF P th L H x k := rfl
    rw [e]
    split
    · split
      · rw [hapS_th ht]; exact thk_trans (ih (by omega)) (thk_spill ht _ (by omega))
      · rw [hapS_th ht]; exact ih (by omega)
    · exact ih (by omega)
theorem thk_run {P : Nat} {th : Int32} {L : LawL} {H : Nat → Int32} (ht : th ≠ 0) (hP : P ≤ 16) (S : St) (s : Nat) : ThK S (runOffS P th L H S s) := by
  unfold runOffS
  rcases whoN_cases hP S.1 s with e | ⟨p, hp, e, he⟩
  · rw [if_pos e]; exact thk_refl S
  rw [e, if_neg (by rw [n1_ne (by omega)]; exact id), nI_clamp (by omega)]
  by_cases c : S.1 (22 + p) ≤ 0
  · rw [if_pos c]; exact thk_refl S
  rw [if_neg c]
  by_cases d : askN P S.1 L H p 2 = 0
  · rw [if_pos d]; exact thk_refl S
  rw [if_neg d, noteB_th ht]
  unfold runN
  simp only
  have h1 : ThK S (upd (upd S.1 (22 + p) (S.1 (22 + p) - askN P S.1 L H p 2)) 4 (S.1 4 + askN P S.1 L H p 2 - askN P S.1 L H p 2 / 2), S.2) := thk_trans (thk_upd S (22 + p) _ (by omega)) (thk_upd (upd S.1 (22 + p) _, S.2) 4 _ (by omega))
  generalize upd (upd S.1 (22 + p) (S.1 (22 + p) - askN P S.1 L H p 2)) 4 (S.1 4 + askN P S.1 L H p 2 - askN P S.1 L H p 2 / 2) = N2 at h1
  rcases whoN_cases hP S.1 (s + 1) with e2 | ⟨q, hq, e2, _⟩
  · rw [if_pos e2]; exact thk_trans h1 (thk_upd (N2, S.2) 4 _ (by omega))
  · rw [e2, if_neg (by rw [n1_ne (by omega)]; exact id), nI_clamp (by omega)]; exact thk_trans h1 (thk_gets (N2, S.2) (by omega) _)
theorem thk_seat {P : Nat} {th : Int32} {L : LawL} {H : Nat → Int32} (ht : th ≠ 0) (hP : P ≤ 16) (S : St) : ∀ k, ThK S (seatF P th L H S k) := by
  intro k
  induction k with
  | zero => exact thk_refl S
  | succ k ih => exact thk_trans ih (thk_run ht hP _ k)
theorem thk_goes {P : Nat} {th : Int32} {S : St} {L : LawL} {H : Nat → Int32} {W : List WLn} (ht : th ≠ 0) (hH : HOk P H) (hP : P ≤ 16) (hW : WOk P W) : ThK S (goesS P th L H W S).1 :=
  thk_trans (thk_wea ht hH hP hW S W.length (Nat.le_refl _)) (thk_trans (thk_pers ht (weaF P th L H W S W.length) P hP) (thk_trans (thk_seat ht hP _ 16) (thk_upd _ 0 _ (by omega))))
/-- the thought after k days -/
def dyN (P : Nat) (L : LawL) (H : Nat → Int32) (W : List WLn) (S : St) : Nat → St
  | 0 => S
  | k + 1 => (goesS P 1 L H W (dyN P L H W S k)).1
theorem thk_dy {P : Nat} {S : St} {L : LawL} {H : Nat → Int32} {W : List WLn} (hH : HOk P H) (hP : P ≤ 16) (hW : WOk P W) : ∀ k, ThK S (dyN P L H W S k) := by
  intro k
  induction k with
  | zero => exact thk_refl S
  | succ k ih => exact thk_trans ih (thk_goes (by decide) hH hP hW)
theorem sp_dy {P : Nat} {S : St} {L : LawL} {H : Nat → Int32} {W : List WLn} (hs : SpOk P S.1 L H) (hW : WOk P W) : ∀ k, SpOk P (dyN P L H W S k).1 L H := by
  intro k
  induction k with
  | zero => exact hs
  | succ k ih => exact sp_goes ih hW
/-! sums -/
def sumI (N : Nat → Int32) (o : Nat) : Nat → Int32
  | 0 => 0
  | k + 1 => sumI N o k + N (o + k)
theorem fg_total {P c : Nat} {th : Int32} {μ : Mu} {N : Nat → Int32} (h : FigC P c th μ N) {f : Nat} (hf : f < 5) : Fg_total c (nI f) μ = some (sumI N (6 + 16 * f) P, μ) := by
  have hP := h.1
  suffices K : Fg_total_4 c (nI f) FU (sumI N (6 + 16 * f) 0) (nI 0) μ = some (sumI N (6 + 16 * f) P, μ) from K
  unfold Fg_total_4
  refine lp_fu (F := fun kb => Fg_total_4b c kb (nI f)) (z := fun _ _ _ => none) P (fun k A => A (sumI N (6 + 16 * f) k) (nI k) μ = some (sumI N (6 + 16 * f) P, μ)) (by omega) ?_ ?_ 0 (by omega)
  · intro A
    show Fg_total_4b c A _ _ (nI P) μ = _
    unfold Fg_total_4b
    rw [gF_eq, h.2.2.1, if_pos (nI_le (Nat.le_refl _) (by omega))]
  · intro k A hk ih
    show Fg_total_4b c A _ _ (nI k) μ = _
    unfold Fg_total_4b
    rw [gF_eq, h.2.2.1, if_neg (nI_ge hk (by omega)), fg_get h k f hk (by omega), cl_eq, h.2.2.2.2.1 k f hk hf, nI_1]
    exact ih
theorem mo_sumOf {P : Nat} {ν : Mu} {N : Nat → Int32} (h6 : ν 59 6 = nI P) (hP : P ≤ 16) (h60 : ν 60 = N) {o : Nat} (ho : o + 16 ≤ 118) : Mo_sumOf 59 (nI o) ν = some (sumI N o P, ν) := by
  suffices K : Mo_sumOf_4 59 (nI o) FU (sumI N o 0) (nI 0) ν = some (sumI N o P, ν) from K
  unfold Mo_sumOf_4
  refine lp_fu (F := fun kb => Mo_sumOf_4b 59 kb (nI o)) (z := fun _ _ _ => none) P (fun k A => A (sumI N o k) (nI k) ν = some (sumI N o P, ν)) (by omega) ?_ ?_ 0 (by omega)
  · intro A
    show Mo_sumOf_4b 59 A _ _ (nI P) ν = _
    unfold Mo_sumOf_4b
    rw [gF_eq, h6, if_pos (nI_le (Nat.le_refl _) (by omega))]
  · intro k A hk ih
    show Mo_sumOf_4b 59 A _ _ (nI k) ν = _
    unfold Mo_sumOf_4b
    simp only [Nat.reduceAdd]
    rw [gF_eq, h6, if_neg (nI_ge hk (by omega)), nI_add, ldA_nI (by omega) (by omega), nI_1, h60]
    exact ih
/-! the reference's thought -/
theorem mo_thinks (ν : Mu) : Ev (Mo_thinks 59 ν) (fun _ ν' => (∀ k, k < 118 → ν' 62 k = ν 60 k) ∧ ν' 59 5 = 1 ∧ (∀ j, j ≠ 5 → ν' 59 j = ν 59 j) ∧ ∀ k, k ≠ 59 → k ≠ 62 → ν' k = ν k) := by
  suffices K : ∀ μ1 : Mu, (∀ k, k < 0 → μ1 62 k = ν 60 k) → (∀ k, k ≠ 62 → μ1 k = ν k) → Ev (Mo_thinks_2 59 FU (nI 0) μ1) (fun _ ν' => (∀ k, k < 118 → ν' 62 k = ν 60 k) ∧ ν' 59 5 = 1 ∧ (∀ j, j ≠ 5 → ν' 59 j = ν 59 j) ∧ ∀ k, k ≠ 59 → k ≠ 62 → ν' k = ν k) from K ν (fun k hk => absurd hk (by omega)) (fun _ _ => rfl)
  unfold Mo_thinks_2
  refine lp_fu (F := fun kb => Mo_thinks_2b 59 kb) (z := fun _ _ => none) 118 (fun n A => ∀ μ1 : Mu, (∀ k, k < n → μ1 62 k = ν 60 k) → (∀ k, k ≠ 62 → μ1 k = ν k) → Ev (A (nI n) μ1) (fun _ ν' => (∀ k, k < 118 → ν' 62 k = ν 60 k) ∧ ν' 59 5 = 1 ∧ (∀ j, j ≠ 5 → ν' 59 j = ν 59 j) ∧ ∀ k, k ≠ 59 → k ≠ 62 → ν' k = ν k)) (by omega) ?_ ?_ 0 (by omega)
  · intro A μ1 h1 h2
    show Ev (Mo_thinks_2b 59 A _ μ1) _
    unfold Mo_thinks_2b
    rw [if_pos (show (118 : Int32) ≤ nI 118 from nI_le (a := 118) (Nat.le_refl _) (by omega)), zg_eq (Or.inr rfl), pF_eq]
    exact ev_some ⟨fun k hk => by rw [up2_ne (by decide)]; exact h1 k hk, up2_same _ _ _ _, fun j hj => by rw [up2_off (Or.inr hj), h2 59 (by decide)], fun k a b => by rw [up2_ne a, h2 k b]⟩
  · intro n A hn ih μ1 h1 h2
    show Ev (Mo_thinks_2b 59 A _ μ1) _
    unfold Mo_thinks_2b
    simp only [Nat.reduceAdd]
    rw [if_neg (show ¬ (118 : Int32) ≤ nI n from nI_ge (b := 118) hn (by omega)), ldA_nI hn (by omega), stA_nI hn (by omega), nI_1]
    refine ih _ (fun k hk => ?_) (fun k hk => by rw [up2_ne hk, h2 k hk])
    by_cases c : k = n
    · rw [c, up2_same, h2 60 (by decide)]
    · rw [up2_off (Or.inr c)]; exact h1 k (by omega)
theorem mo_endsThought (ν : Mu) : Ev (Mo_endsThought 59 ν) (fun _ ν' => (∀ k, k < 118 → ν' 60 k = ν 62 k) ∧ (∀ k, 118 ≤ k → ν' 60 k = ν 60 k) ∧ ν' 59 5 = 0 ∧ (∀ j, j ≠ 5 → ν' 59 j = ν 59 j) ∧ ∀ k, k ≠ 59 → k ≠ 60 → ν' k = ν k) := by
  suffices K : ∀ μ1 : Mu, (∀ k, k < 0 → μ1 60 k = ν 62 k) → (∀ k, 0 ≤ k → μ1 60 k = ν 60 k) → (∀ k, k ≠ 60 → μ1 k = ν k) → Ev (Mo_endsThought_2 59 FU (nI 0) μ1) (fun _ ν' => (∀ k, k < 118 → ν' 60 k = ν 62 k) ∧ (∀ k, 118 ≤ k → ν' 60 k = ν 60 k) ∧ ν' 59 5 = 0 ∧ (∀ j, j ≠ 5 → ν' 59 j = ν 59 j) ∧ ∀ k, k ≠ 59 → k ≠ 60 → ν' k = ν k) from K ν (fun k hk => absurd hk (by omega)) (fun _ _ => rfl) (fun _ _ => rfl)
  unfold Mo_endsThought_2
  refine lp_fu (F := fun kb => Mo_endsThought_2b 59 kb) (z := fun _ _ => none) 118 (fun n A => ∀ μ1 : Mu, (∀ k, k < n → μ1 60 k = ν 62 k) → (∀ k, n ≤ k → μ1 60 k = ν 60 k) → (∀ k, k ≠ 60 → μ1 k = ν k) → Ev (A (nI n) μ1) (fun _ ν' => (∀ k, k < 118 → ν' 60 k = ν 62 k) ∧ (∀ k, 118 ≤ k → ν' 60 k = ν 60 k) ∧ ν' 59 5 = 0 ∧ (∀ j, j ≠ 5 → ν' 59 j = ν 59 j) ∧ ∀ k, k ≠ 59 → k ≠ 60 → ν' k = ν k)) (by omega) ?_ ?_ 0 (by omega)
  · intro A μ1 h1 h1b h2
    show Ev (Mo_endsThought_2b 59 A _ μ1) _
    unfold Mo_endsThought_2b
    rw [if_pos (show (118 : Int32) ≤ nI 118 from nI_le (a := 118) (Nat.le_refl _) (by omega)), zg_eq (Or.inl rfl), pF_eq]
    exact ev_some ⟨fun k hk => by rw [up2_ne (by decide)]; exact h1 k hk, fun k hk => by rw [up2_ne (by decide)]; exact h1b k hk, up2_same _ _ _ _, fun j hj => by rw [up2_off (Or.inr hj), h2 59 (by decide)], fun k a b => by rw [up2_ne a, h2 k b]⟩
  · intro n A hn ih μ1 h1 h1b h2
    show Ev (Mo_endsThought_2b 59 A _ μ1) _
    unfold Mo_endsThought_2b
    simp only [Nat.reduceAdd]
    rw [if_neg (show ¬ (118 : Int32) ≤ nI n from nI_ge (b := 118) hn (by omega)), ldA_nI hn (by omega), stA_nI hn (by omega), nI_1]
    refine ih _ (fun k hk => ?_) (fun k hk => by rw [up2_off (Or.inr (by omega))]; exact h1b k (by omega)) (fun k hk => by rw [up2_ne hk, h2 k hk])
    by_cases c : k = n
    · rw [c, up2_same, h2 62 (by decide)]
    · rw [up2_off (Or.inr c)]; exact h1 k (by omega)
/-- a thought of days: the class's cells after it -/
theorem repC_thought {μ μ' : Mu} {y : Ly} {z : Zt} (hy : LyRep y) (hA : AbsOk z) (hR : RepC μ y z) {k : Nat} (h : CtxC (poP (zP z)) 42 1 μ' (dyN (poP (zP z)) (poL (zP z)) (poH (zP z)) (poW (zP z)) (poN (zP z)) k) (poL (zP z)) (poH (zP z))) (hO : Off (CR 42) μ μ') : RepC μ' y z ∧ InC μ μ' := by
  have ht := thk_dy (S := poN (zP z)) (L := poL (zP z)) hA.1.1.2.2 hA.1.1.1.1 hA.1.2.1 k
  have e : ∀ k, k ∉ [1, 5, 6, 13, 39, 40, 41, 42, 43, 44, 45, 46, 47, 50, 51, 52, 53, 54, 55, 56, 57, 58] → μ' k = μ k := fun k hk => hO k (fun z => hk (by
    simp only [CR, List.mem_cons, List.not_mem_nil, or_false] at z ⊢; omega))
  refine ⟨repC_ofT hy (fun k hk _ => e k hk) h.1.2.1 (fun k hk => ?_) hR, fun k a b => hO k (fun z => ?_)⟩
  · rw [h.2.1 k hk, ht.1]; exact (hR.1.2.1 k hk).symm
  · simp only [CR, List.mem_cons, List.not_mem_nil, or_false] at z; omega
/-- begun, the class -/
theorem copy_thought {μ : Mu} {y : Ly} {z : Zt} (hR : RepC μ y z) : Ev (Fg_copyFrom 42 2 μ) (fun _ μ' => CtxC (poP (zP z)) 42 1 μ' (poN (zP z)) (poL (zP z)) (poH (zP z)) ∧ WeaC μ' (poW (zP z)) ∧ Off (CR 42) μ μ') := by
  refine ev_mono (fg_copy hR.1.1 hR.2.1 (Or.inl (by omega))) (fun _ μ' h => ?_)
  have o : ∀ k, k < 42 → μ' k = μ k := fun k hk => h.2 k (fun z => by
    simp only [List.mem_cons, List.not_mem_nil, or_false] at z; omega)
  refine ⟨⟨h.1, fun k hk => by rw [o 5 (by omega)]; exact hR.1.2.1 k hk, lawC_off (fun k a b => o k (by omega)) hR.1.2.2.1, heirC_of (o 15 (by omega)) (o 16 (by omega)) hR.1.2.2.2.1, Or.inr rfl⟩, weaC_of (o 14 (by omega)) (o 17 (by omega)) hR.1.2.2.2.2.1, fun k hk => h.2 k (fun z => hk ?_)⟩
  simp only [CR, List.mem_cons, List.not_mem_nil, or_false] at z ⊢; omega
/-- begun, the reference -/
def ThM (ν : Mu) (z : Zt) (ν' : Mu) (k : Nat) : Prop := CtxM (poP (zP z)) 1 ν' (dyN (poP (zP z)) (poL (zP z)) (poH (zP z)) (poW (zP z)) (poN (zP z)) k) (poL (zP z)) (poH (zP z)) ∧ (∀ k, k < 118 → ν' 62 k = ν 60 k) ∧ (∀ j, j ≠ 5 → ν' 59 j = ν 59 j) ∧ ∀ k, k ∉ [59, 60, 62, 63, 78, 79, 80] → ν' k = ν k
theorem thm_begin {ν : Mu} {z : Zt} (hR : RepM ν z) : Ev (Mo_thinks 59 ν) (fun _ ν' => ThM ν z ν' 0) := by
  have h := ctxM_rep hR
  refine ev_mono (mo_thinks ν) (fun _ ν' g => ⟨⟨(g.2.2.2 60 (by decide) (by decide)).trans h.1, (g.2.2.2 63 (by decide) (by decide)).trans h.2.1, g.2.1, (g.2.2.1 6 (by decide)).trans h.2.2.2.1, lawM_off (fun k a b => g.2.2.2 k (by omega) (by omega)) h.2.2.2.2.1, fun k hk => by rw [g.2.2.2 77 (by decide) (by decide)]; exact h.2.2.2.2.2 k hk⟩, g.1, g.2.2.1, fun k hk => g.2.2.2 k (fun z => hk (by rw [z]; decide)) (fun z => hk (by rw [z]; decide))⟩)
theorem thm_day {ν ν1 : Mu} {z : Zt} {k : Nat} (hA : AbsOk z) (hR : RepM ν z) (h : ThM ν z ν1 k) : Ev (Mo_goesBy 59 ν1) (fun _ ν' => ThM ν z ν' (k + 1)) := by
  have hW : WeaM ν1 (poW (zP z)) := weaM_of (h.2.2.1 34 (by decide)) (h.2.2.2 76 (by decide)) hR.1.2.2.2.2.2.1
  refine ev_mono (m_goBy h.1 (sp_dy hA.1.1 hA.1.2.1 k) hA.1.2.1 hW) (fun _ ν' g => ⟨g.2.1, fun k hk => by rw [g.2.2 62 (by decide)]; exact h.2.1 k hk, fun j hj => by rw [g.2.2 59 (by decide)]; exact h.2.2.1 j hj, fun k hk => (g.2.2 k (fun z => hk ?_)).trans (h.2.2.2 k hk)⟩)
  simp only [RD, List.mem_cons, List.not_mem_nil, or_false] at z ⊢; omega
theorem thm_end {ν ν1 : Mu} {z : Zt} {k : Nat} (hA : AbsOk z) (hR : RepM ν z) (h : ThM ν z ν1 k) : Ev (Mo_endsThought 59 ν1) (fun _ ν' => RepM ν' z ∧ InM ν ν') := by
  have ht := thk_dy (S := poN (zP z)) (L := poL (zP z)) hA.1.1.2.2 hA.1.1.1.1 hA.1.2.1 k
  refine ev_mono (mo_endsThought ν1) (fun _ ν' g => ⟨?_, fun k hk => ?_⟩)
  · have e60 : ν' 60 = ν 60 := by
      funext i
      rcases Nat.lt_or_ge i 118 with c | c
      · rw [g.1 i c]; exact h.2.1 i c
      · rw [g.2.1 i c, h.1.1, ht.2.2 i c, hR.2.1.1]
    have e63 : ν' 63 = ν 63 := by rw [g.2.2.2.2 63 (by decide) (by decide), h.1.2.1, ht.1, hR.2.1.2]
    refine repM_of (fun k hk => ?_) (fun j hj => ?_) hR
    · by_cases c : k = 60
      · rw [c]; exact e60
      by_cases d : k = 63
      · rw [d]; exact e63
      rw [g.2.2.2.2 k (fun z => by rw [z] at hk; exact absurd hk (by decide)) c, h.2.2.2 k (fun z => ?_)]
      simp only [List.mem_cons, List.not_mem_nil, or_false] at z hk; omega
    · by_cases c : j = 5
      · rw [c, g.2.2.1]; exact hR.2.2.1.symm
      · rw [g.2.2.2.1 j c, h.2.2.1 j c]
  · rw [g.2.2.2.2 k (by omega) (by omega), h.2.2.2 k (fun z => ?_)]
    simp only [List.mem_cons, List.not_mem_nil, or_false] at z; omega
theorem day_c {μ1 : Mu} {z : Zt} {k : Nat} (hA : AbsOk z) (h : CtxC (poP (zP z)) 42 1 μ1 (dyN (poP (zP z)) (poL (zP z)) (poH (zP z)) (poW (zP z)) (poN (zP z)) k) (poL (zP z)) (poH (zP z))) (hW : WeaC μ1 (poW (zP z))) : Ev (Dy_goBy 39 1 42 μ1) (fun _ μ' => CtxC (poP (zP z)) 42 1 μ' (dyN (poP (zP z)) (poL (zP z)) (poH (zP z)) (poW (zP z)) (poN (zP z)) (k + 1)) (poL (zP z)) (poH (zP z)) ∧ WeaC μ' (poW (zP z)) ∧ Off (CR 42) μ1 μ') :=
  ev_mono (c_goBy h (sp_dy hA.1.1 hA.1.2.1 k) hA.1.2.1 hW) (fun _ μ' g => ⟨g.2.1, weaC_off (Or.inr rfl) g.2.2 hW, g.2.2⟩)
def goA (P : Nat) (N : Nat → Int32) (w : Nat) : Int32 := if w = 0 then sumI N 22 P else if w = 1 then N 4 else if w = 2 then sumI N 38 P else sumI N 70 P
theorem sn_goes (d w : Int32) : StepN (Sf_goes 0 d w) (Mo_goes 59 d w) := by
  refine stepN_of (fun z hA => ?_)
  have hP : poP (zP z) ≤ 16 := hA.1.1.1.1
  by_cases c1 : d < 1 ∨ 60 < d
  · refine ⟨-1, z, hA, fun μ y hy hR => ?_, fun ν hR => ?_⟩
    · unfold Sf_goes
      rw [within_eq, cl_eq, if_pos c1, if_pos rfl]; exact ev_some ⟨rfl, hR, inC_refl μ⟩
    · obtain ⟨h1, i1⟩ := mo_t hR
      unfold Mo_goes
      rw [pF_eq, isIn_eq, cl_eq, if_pos c1, if_pos rfl]; exact ev_some ⟨rfl, h1, i1⟩
  by_cases c2 : w < 0 ∨ 3 < w
  · refine ⟨-1, z, hA, fun μ y hy hR => ?_, fun ν hR => ?_⟩
    · unfold Sf_goes
      rw [within_eq, cl_eq, if_neg c1, if_neg (show ¬ (1 : Int32) = 0 by decide), within_eq, cl_eq, if_pos c2, if_pos rfl]; exact ev_some ⟨rfl, hR, inC_refl μ⟩
    · obtain ⟨h1, i1⟩ := mo_t hR
      unfold Mo_goes
      rw [pF_eq, isIn_eq, cl_eq, if_neg c1, if_neg (show ¬ (1 : Int32) = 0 by decide), isIn_eq, cl_eq, if_pos c2, if_pos rfl]; exact ev_some ⟨rfl, h1, i1⟩
  obtain ⟨n, hn1, hn, rfl⟩ := nI_rng (lo := 1) (n := 60) (by omega) (by omega) (fun q => c1 (Or.inl q)) (fun q => c1 (Or.inr q))
  obtain ⟨x, _, hx, rfl⟩ := nI_rng (lo := 0) (n := 3) (by omega) (by omega) (fun q => c2 (Or.inl q)) (fun q => c2 (Or.inr q))
  refine ⟨goA (poP (zP z)) (dyN (poP (zP z)) (poL (zP z)) (poH (zP z)) (poW (zP z)) (poN (zP z)) n).1 x, z, hA, fun μ y hy hR => ?_, fun ν hR => ?_⟩
  · unfold Sf_goes
    simp only [Nat.reduceAdd]
    rw [within_eq, cl_eq, if_neg c1, if_neg (show ¬ (1 : Int32) = 0 by decide), within_eq, cl_eq, if_neg c2, if_neg (show ¬ (1 : Int32) = 0 by decide)]
    refine ev_cl (ev_mono (copy_thought hR) (fun _ μ0 h0 => ?_))
    suffices K : ∀ μ1, CtxC (poP (zP z)) 42 1 μ1 (dyN (poP (zP z)) (poL (zP z)) (poH (zP z)) (poW (zP z)) (poN (zP z)) 0) (poL (zP z)) (poH (zP z)) → WeaC μ1 (poW (zP z)) → Off (CR 42) μ μ1 → Ev (Sf_goes_37 0 (nI n) (nI x) FU (nI 0) μ1) (fun r μ' => r = goA (poP (zP z)) (dyN (poP (zP z)) (poL (zP z)) (poH (zP z)) (poW (zP z)) (poN (zP z)) n).1 x ∧ RepC μ' y z ∧ InC μ μ') from K μ0 h0.1 h0.2.1 h0.2.2
    unfold Sf_goes_37
    refine lp_fu (F := fun kb => Sf_goes_37b 0 kb (nI n) (nI x)) (z := fun _ _ => none) n (fun k A => ∀ μ1, CtxC (poP (zP z)) 42 1 μ1 (dyN (poP (zP z)) (poL (zP z)) (poH (zP z)) (poW (zP z)) (poN (zP z)) k) (poL (zP z)) (poH (zP z)) → WeaC μ1 (poW (zP z)) → Off (CR 42) μ μ1 → Ev (A (nI k) μ1) (fun r μ' => r = goA (poP (zP z)) (dyN (poP (zP z)) (poL (zP z)) (poH (zP z)) (poW (zP z)) (poN (zP z)) n).1 x ∧ RepC μ' y z ∧ InC μ μ')) (by omega) ?_ ?_ 0 (by omega)
    · intro A μ1 g1 g2 g3
      show Ev (Sf_goes_37b 0 A _ _ _ μ1) _
      have hr := repC_thought hy hA hR g1 g3
      unfold Sf_goes_37b goA
      simp only [Nat.reduceAdd]
      rw [if_pos (nI_le (Nat.le_refl _) (by omega))]
      rcases (show x = 0 ∨ x = 1 ∨ x = 2 ∨ x = 3 by omega) with rfl | rfl | rfl | rfl
      · rw [if_pos (by rfl), show (1 : Int32) = nI 1 from rfl, fg_total g1.1 (by omega), cl_eq]; exact ev_some ⟨rfl, hr⟩
      · rw [if_neg (by decide), if_pos (by rfl), gF_eq, g1.1.2.2.2.1 5 (by omega) (by omega)]; exact ev_some ⟨rfl, hr⟩
      · rw [if_neg (by decide), if_neg (by decide), if_pos (by rfl), show (2 : Int32) = nI 2 from rfl, fg_total g1.1 (by omega), cl_eq]; exact ev_some ⟨rfl, hr⟩
      · rw [if_neg (by decide), if_neg (by decide), if_neg (by decide), show (4 : Int32) = nI 4 from rfl, fg_total g1.1 (by omega), cl_eq]; exact ev_some ⟨rfl, hr⟩
    · intro k A hk ih μ1 g1 g2 g3
      show Ev (Sf_goes_37b 0 A _ _ _ μ1) _
      unfold Sf_goes_37b
      simp only [Nat.reduceAdd]
      rw [if_neg (nI_ge hk (by omega))]
      refine ev_cl (ev_mono (day_c hA g1 g2) (fun _ μ2 e => ?_))
      rw [nI_1]; exact ih μ2 e.1 e.2.1 (off_trans g3 e.2.2)
  · obtain ⟨h1, i1⟩ := mo_t hR
    unfold Mo_goes
    rw [pF_eq, isIn_eq, cl_eq, if_neg c1, if_neg (show ¬ (1 : Int32) = 0 by decide), isIn_eq, cl_eq, if_neg c2, if_neg (show ¬ (1 : Int32) = 0 by decide)]
    refine ev_cl (ev_mono (thm_begin h1) (fun _ ν0 h0 => ?_))
    suffices K : ∀ ν1, ThM (up2 ν 59 0 0) z ν1 0 → Ev (Mo_goes_34 59 (nI n) (nI x) FU (nI 0) ν1) (fun r ν' => r = goA (poP (zP z)) (dyN (poP (zP z)) (poL (zP z)) (poH (zP z)) (poW (zP z)) (poN (zP z)) n).1 x ∧ RepM ν' z ∧ InM ν ν') from K ν0 h0
    unfold Mo_goes_34
    refine lp_fu (F := fun kb => Mo_goes_34b 59 kb (nI n) (nI x)) (z := fun _ _ => none) n (fun k A => ∀ ν1, ThM (up2 ν 59 0 0) z ν1 k → Ev (A (nI k) ν1) (fun r ν' => r = goA (poP (zP z)) (dyN (poP (zP z)) (poL (zP z)) (poH (zP z)) (poW (zP z)) (poN (zP z)) n).1 x ∧ RepM ν' z ∧ InM ν ν')) (by omega) ?_ ?_ 0 (by omega)
    · intro A ν1 g
      show Ev (Mo_goes_34b 59 A _ _ _ ν1) _
      have fin : ∀ r, r = goA (poP (zP z)) (dyN (poP (zP z)) (poL (zP z)) (poH (zP z)) (poW (zP z)) (poN (zP z)) n).1 x → Ev (Mo_goes_97 59 r ν1) (fun r ν' => r = goA (poP (zP z)) (dyN (poP (zP z)) (poL (zP z)) (poH (zP z)) (poW (zP z)) (poN (zP z)) n).1 x ∧ RepM ν' z ∧ InM ν ν') := by
        intro r hr
        unfold Mo_goes_97
        exact ev_cl (ev_mono (thm_end hA h1 g) (fun _ ν' e => ev_some ⟨hr, e.1, fun k hk => (e.2 k hk).trans (i1 k hk)⟩))
      unfold Mo_goes_34b
      simp only [Nat.reduceAdd]
      rw [if_pos (nI_le (Nat.le_refl _) (by omega))]
      have h6 := g.1.2.2.2.1
      have h60 := g.1.1
      rcases (show x = 0 ∨ x = 1 ∨ x = 2 ∨ x = 3 by omega) with rfl | rfl | rfl | rfl
      · rw [if_pos (by rfl), show (22 : Int32) = nI 22 from rfl, mo_sumOf h6 hP h60 (by omega), cl_eq]; exact fin _ rfl
      · rw [if_neg (by decide), if_pos (by rfl), ldA_li (i := 4) (by decide) (by decide)]
        exact fin _ (congrFun h60 4)
      · rw [if_neg (by decide), if_neg (by decide), if_pos (by rfl), show (38 : Int32) = nI 38 from rfl, mo_sumOf h6 hP h60 (by omega), cl_eq]; exact fin _ rfl
      · rw [if_neg (by decide), if_neg (by decide), if_neg (by decide), show (70 : Int32) = nI 70 from rfl, mo_sumOf h6 hP h60 (by omega), cl_eq]; exact fin _ rfl
    · intro k A hk ih ν1 g
      show Ev (Mo_goes_34b 59 A _ _ _ ν1) _
      unfold Mo_goes_34b
      rw [if_neg (nI_ge hk (by omega))]
      refine ev_cl (ev_mono (thm_day hA h1 g) (fun _ ν2 e => ?_))
      rw [nI_1]; exact ih ν2 e
