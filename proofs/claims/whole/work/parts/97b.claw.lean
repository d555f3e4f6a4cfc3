/-! L3: THE CLASS READS A LAW -/
def liS (T : Nat → Nat) (n p : Nat) : Except (Nat × Nat) ((Cds × Cds) × Nat) := match suS T n (tE T n p) with
  | .error e => .error e
  | .ok q => if tK T n q.2 = 4 then (match cnS T n (tE T n q.2) with
      | .error e => .error e
      | .ok q2 => if tK T n q2.2 = 59 then .ok ((q.1, q2.1), tE T n q2.2) else .error (1, tF T n q2.2))
    else if tK T n q.2 = 59 then .ok ((q.1, []), tE T n q.2) else .error (1, tF T n q.2)
def lwS (T : Nat → Nat) (n : Nat) : Nat → Nat → Nat → Except (Nat × Nat) LawL
  | 0, _, _ => .error (0, 0)
  | m + 1, k, p => if tK T n p = 0 then .ok [] else if tK T n p ≤ 3 then (if k = 16 then .error (3, tF T n p) else (match liS T n p with
      | .error e => .error e
      | .ok q => (match lwS T n m (k + 1) q.2 with
        | .error e => .error e
        | .ok r => .ok ((tK T n p - 1, q.1.1, q.1.2) :: r)))) else .error (1, tF T n p)
theorem lwS_succ (T : Nat → Nat) (n m k p : Nat) : lwS T n (m + 1) k p = if tK T n p = 0 then .ok [] else if tK T n p ≤ 3 then (if k = 16 then .error (3, tF T n p) else (match liS T n p with
      | .error e => .error e
      | .ok q => (match lwS T n m (k + 1) q.2 with
        | .error e => .error e
        | .ok r => .ok ((tK T n p - 1, q.1.1, q.1.2) :: r)))) else .error (1, tF T n p) := rfl
theorem li_sz {T : Nat → Nat} {n p : Nat} {q : (Cds × Cds) × Nat} (hp : p ≤ n) (hk : tK T n p ≠ 0) (h : liS T n p = .ok q) : p < q.2 ∧ q.2 ≤ n ∧ xl q.1.1 + xl q.1.2 + p ≤ q.2 ∧ runT q.1.1 [] = some [false] ∧ (q.1.2 = [] ∨ runT q.1.2 [] = some [true]) := by
  have hg := tE_gt hp hk
  have hE := tE_le (T := T) hp
  unfold liS at h
  cases hu : suS T n (tE T n p) with
  | error e => rw [hu] at h; cases h
  | ok q1 =>
    rw [hu] at h
    obtain ⟨a1, a2, a3, a4⟩ := su_sz (c := q1.1) (p' := q1.2) hE hu
    have h' : (if tK T n q1.2 = 4 then (match cnS T n (tE T n q1.2) with
      | .error e => .error e
      | .ok q2 => if tK T n q2.2 = 59 then .ok ((q1.1, q2.1), tE T n q2.2) else .error (1, tF T n q2.2))
      else if tK T n q1.2 = 59 then .ok ((q1.1, []), tE T n q1.2) else .error (1, tF T n q1.2)) = Except.ok q := h
    have hE2 := tE_le (T := T) a2
    by_cases c4 : tK T n q1.2 = 4
    · have hg2 := tE_gt (T := T) a2 (by omega)
      rw [if_pos c4] at h'
      cases hv : cnS T n (tE T n q1.2) with
      | error e => rw [hv] at h'; cases h'
      | ok q2 =>
        rw [hv] at h'
        have h2 : (if tK T n q2.2 = 59 then Except.ok ((q1.1, q2.1), tE T n q2.2) else .error (1, tF T n q2.2)) = Except.ok q := h'
        obtain ⟨b1, b2, b3, b4⟩ := cn_sz (c := q2.1) (p' := q2.2) hE2 hv
        by_cases c59 : tK T n q2.2 = 59
        · rw [if_pos c59] at h2
          have hg3 := tE_gt (T := T) b2 (by omega)
          have hE3 := tE_le (T := T) b2
          cases h2
          exact ⟨by show p < tE T n q2.2; omega, hE3, by show xl q1.1 + xl q2.1 + p ≤ tE T n q2.2; omega, a4 [] (by decide), Or.inr b4⟩
        · rw [if_neg c59] at h2; cases h2
    · rw [if_neg c4] at h'
      by_cases c59 : tK T n q1.2 = 59
      · rw [if_pos c59] at h'
        have hg3 := tE_gt (T := T) a2 (by omega)
        cases h'
        exact ⟨by show p < tE T n q1.2; omega, hE2, by show xl q1.1 + 0 + p ≤ tE T n q1.2; omega, a4 [] (by decide), Or.inl rfl⟩
      · rw [if_neg c59] at h'; cases h'
/-- the lines of a law, told so far: their codes below sz -/
def LcI (a : Nat) (μ : Mu) (L : LawL) (sz : Nat) : Prop := ∃ f : Nat → Nat, ∀ l, l < L.length → μ (a + 1) l = nI ((L.getD l d0L).1 + 1) ∧ μ (a + 2) l = nI (f l) ∧ μ (a + 3) l = nI (f l + (L.getD l d0L).2.1.length) ∧ μ (a + 4) l = nI (f l + (L.getD l d0L).2.1.length + (L.getD l d0L).2.2.length) ∧ f l + (L.getD l d0L).2.1.length + (L.getD l d0L).2.2.length ≤ sz ∧ (∀ i, i < (L.getD l d0L).2.1.length → μ (a + 5) (f l + i) = encC ((L.getD l d0L).2.1.getD i (0, 0))) ∧ ∀ i, i < (L.getD l d0L).2.2.length → μ (a + 5) (f l + (L.getD l d0L).2.1.length + i) = encC ((L.getD l d0L).2.2.getD i (0, 0))
theorem lawC_I {a : Nat} {μ : Mu} {L : LawL} {sz : Nat} (h : LcI a μ L sz) (hs : sz ≤ 400) (h0 : μ a 0 = nI L.length) (h1 : μ a 1 = nI sz) : LawC a μ L := by
  obtain ⟨f, h⟩ := h
  exact ⟨f, sz, hs, h0, h1, h⟩
theorem lcI_of {a : Nat} {μ μ' : Mu} {L : LawL} {sz sz' : Nat} (h1 : ∀ r j, 1 ≤ r → r ≤ 4 → j < L.length → μ' (a + r) j = μ (a + r) j) (h2 : ∀ i, i < sz → μ' (a + 5) i = μ (a + 5) i) (hs : sz ≤ sz') (h : LcI a μ L sz) : LcI a μ' L sz' := by
  obtain ⟨f, h⟩ := h
  refine ⟨f, fun l hl => ?_⟩
  obtain ⟨g1, g2, g3, g4, g5, g6, g7⟩ := h l hl
  refine ⟨(h1 1 l (by omega) (by omega) hl).trans g1, (h1 2 l (by omega) (by omega) hl).trans g2, (h1 3 l (by omega) (by omega) hl).trans g3, (h1 4 l (by omega) (by omega) hl).trans g4, by omega, fun i hi => ?_, fun i hi => ?_⟩
  · rw [h2 _ (by omega)]; exact g6 i hi
  · rw [h2 _ (by omega)]; exact g7 i hi
theorem getD_last {α : Type} (L : List α) (x d : α) : (L ++ [x]).getD L.length d = x := by
  rw [List.getD_eq_getElem?_getD, List.getElem?_append_right (Nat.le_refl _), Nat.sub_self]; rfl
theorem getD_front {α : Type} {L : List α} {x d : α} {l : Nat} (h : l < L.length) : (L ++ [x]).getD l d = L.getD l d := by
  rw [List.getD_eq_getElem?_getD, List.getD_eq_getElem?_getD, List.getElem?_append_left h]
theorem getD_fr {α : Type} {L M : List α} {d : α} {l : Nat} (h : l < L.length) : (L ++ M).getD l d = L.getD l d := by
  rw [List.getD_eq_getElem?_getD, List.getD_eq_getElem?_getD, List.getElem?_append_left h]
theorem getD_bk {α : Type} (L M : List α) (d : α) (i : Nat) : (L ++ M).getD (L.length + i) d = M.getD i d := by
  rw [List.getD_eq_getElem?_getD, List.getD_eq_getElem?_getD, List.getElem?_append_right (by omega), Nat.add_sub_cancel_left]
def kfL (f : Nat → Nat) (n sz l : Nat) : Nat := if l = n then sz else f l
theorem lcI_push {a : Nat} {μ : Mu} {L : LawL} {sz : Nat} (x : Nat × Cds × Cds) (h : LcI a μ L sz) (h1 : μ (a + 1) L.length = nI (x.1 + 1)) (h2 : μ (a + 2) L.length = nI sz) (h3 : μ (a + 3) L.length = nI (sz + x.2.1.length)) (h4 : μ (a + 4) L.length = nI (sz + x.2.1.length + x.2.2.length)) (h5 : ∀ i, i < x.2.1.length → μ (a + 5) (sz + i) = encC (x.2.1.getD i (0, 0))) (h6 : ∀ i, i < x.2.2.length → μ (a + 5) (sz + x.2.1.length + i) = encC (x.2.2.getD i (0, 0))) : LcI a μ (L ++ [x]) (sz + x.2.1.length + x.2.2.length) := by
  obtain ⟨f, h⟩ := h
  refine ⟨kfL f L.length sz, fun l hl => ?_⟩
  rw [List.length_append] at hl
  have hl2 : l < L.length + 1 := hl
  by_cases z : l = L.length
  · subst z
    rw [getD_last, show kfL f L.length sz L.length = sz from if_pos rfl]
    exact ⟨h1, h2, h3, h4, Nat.le_refl _, h5, h6⟩
  · rw [getD_front (by omega), show kfL f L.length sz l = f l from if_neg z]
    obtain ⟨g1, g2, g3, g4, g5, g6, g7⟩ := h l (by omega)
    exact ⟨g1, g2, g3, g4, by omega, g6, g7⟩
/-- what a law's reading leaves as it was -/
def FrL (μ μ' : Mu) : Prop := (∀ k, k ∉ [48, 50, 51, 52, 53, 54, 55, 57] → μ' k = μ k) ∧ ∀ j, j ∉ [3, 4, 5, 6, 8, 9, 10] → μ' 48 j = μ 48 j
theorem frL_refl (μ : Mu) : FrL μ μ := ⟨fun _ _ => rfl, fun _ _ => rfl⟩
theorem frL_trans {a b c : Mu} (h1 : FrL a b) (h2 : FrL b c) : FrL a c := ⟨fun k h => (h2.1 k h).trans (h1.1 k h), fun j h => (h2.2 j h).trans (h1.2 j h)⟩
theorem frL_P {a b : Mu} (h : FrP a b) : FrL a b := ⟨fun k hk => h.1 k (fun z => hk (by
  simp only [List.mem_cons, List.not_mem_nil, or_false] at z ⊢
  omega)), fun j hj => h.2.1 j (fun z => hj (by
  simp only [List.mem_cons, List.not_mem_nil, or_false] at z ⊢
  omega))⟩
theorem frL_U {a b : Mu} (h : FrU a b) : FrL a b := ⟨fun k hk => h.1 k (fun z => hk (by rw [z]; decide)), fun j hj => h.2 j (fun z => hj (by
  simp only [List.mem_cons, List.not_mem_nil, or_false] at z ⊢
  omega))⟩
theorem frL_E {a b : Mu} (h : FrE a b) : FrL a b := ⟨fun k hk => h.1 k (fun z => hk (by rw [z]; decide)) (fun z => hk (by rw [z]; decide)), h.2⟩
theorem frL_up {a b : Mu} {k i : Nat} {v : Int32} (h1 : FrL a b) (h : k ∈ [50, 51, 52, 53, 54, 55]) : FrL a (up2 b k i v) := by
  have h2 : k = 50 ∨ k = 51 ∨ k = 52 ∨ k = 53 ∨ k = 54 ∨ k = 55 := by
    simp only [List.mem_cons, List.not_mem_nil, or_false] at h; exact h
  refine ⟨fun j hj => (up2_ne (fun z => hj ?_)).trans (h1.1 j hj), fun j hj => (up2_off (Or.inl (by omega))).trans (h1.2 j hj)⟩
  rw [z]
  rcases h2 with z | z | z | z | z | z <;> rw [z] <;> decide
/-- at a line's start -/
def LnC (μ0 : Mu) (T : Nat → Nat) (n p : Nat) (L : LawL) (cs : Cds) (μ : Mu) : Prop := FrL μ0 μ ∧ GdC μ T n p cs μ ∧ μ 50 0 = nI L.length ∧ μ 48 10 = nI L.length ∧ LcI 50 μ L cs.length ∧ xl cs ≤ p ∧ LwOk L
/-- the law is told, or there is a fault -/
def LwR (μ0 : Mu) (T : Nat → Nat) (n : Nat) (L : LawL) (x : Except (Nat × Nat) LawL) (μ : Mu) : Prop := match x with
  | .error e => FrL μ0 μ ∧ μ 48 8 = nI e.1 ∧ (1 ≤ e.1 ∧ e.1 ≤ 3) ∧ μ 48 9 = nI e.2
  | .ok r => FrL μ0 μ ∧ μ 48 8 = 0 ∧ μ 48 10 = nI (L ++ r).length ∧ LawC 50 μ (L ++ r) ∧ LwOk (L ++ r)
theorem gdC_T {μ0 : Mu} {T : Nat → Nat} {n p : Nat} {cs : Cds} {μ : Mu} (h : GdC μ0 T n p cs μ) : GdT μ T n p μ := ⟨frU_refl μ, h.2.1, h.2.2.1, h.2.2.2.1, h.2.2.2.2.1⟩
theorem gdC_of {μ0 μ1 : Mu} {T : Nat → Nat} {n p p' : Nat} {cs : Cds} {μ μ' : Mu} (h : GdC μ0 T n p cs μ) (g : GdT μ1 T n p' μ') (h50 : μ' 50 1 = μ 50 1) (h55 : μ' 55 = μ 55) : GdC μ' T n p' cs μ' := ⟨frP_refl μ', g.2.1, g.2.2.1, g.2.2.2.1, g.2.2.2.2, h50.trans h.2.2.2.2.2.1, h.2.2.2.2.2.2.1, fun i hi => by rw [h55]; exact h.2.2.2.2.2.2.2 i hi⟩
theorem gdC_self {μ0 : Mu} {T : Nat → Nat} {n p : Nat} {cs : Cds} {μ : Mu} (h : GdC μ0 T n p cs μ) : GdC μ T n p cs μ := ⟨frP_refl μ, h.2⟩
theorem gdC_L {μ0 : Mu} {T : Nat → Nat} {n p : Nat} {cs : Cds} {μ : Mu} {k i : Nat} {v : Int32} (h : GdC μ0 T n p cs μ) (hk : k ≠ 48 ∧ k ≠ 49 ∧ k ≠ 55 ∧ (k ≠ 50 ∨ i ≠ 1)) : GdC (up2 μ k i v) T n p cs (up2 μ k i v) := by
  refine ⟨frP_refl _, rdI_of h.2.1 ?_ ?_, h.2.2.1, ?_, tokC_of ?_ h.2.2.2.2.1, ?_, h.2.2.2.2.2.2.1, fun j hj => ?_⟩
  · rw [up2_off (Or.inl (Ne.symm hk.1))]
  · rw [up2_ne (Ne.symm hk.2.1)]
  · rw [up2_off (Or.inl (Ne.symm hk.1))]; exact h.2.2.2.1
  · rw [up2_ne (Ne.symm hk.1)]
  · rw [up2_off (hk.2.2.2.elim (fun z => Or.inl (Ne.symm z)) (fun z => Or.inr (Ne.symm z)))]; exact h.2.2.2.2.2.1
  · rw [up2_ne (Ne.symm hk.2.2.1)]; exact h.2.2.2.2.2.2.2 j hj
/-- a fault within a line: its end -/
theorem bd_line {μ0 μ1 : Mu} {T : Nat → Nat} {n : Nat} {L : LawL} {e : Nat × Nat} {μ : Mu} {kb : Int32 → Mu → Option (Unit × Mu)} (hF : FrL μ0 μ) (h : BdC μ1 T n e μ) (k : Nat) (hk : k ≤ 16) (h50 : μ 50 0 = nI k) (i : Int32) (hkb : ∀ μ', FrL μ0 μ' → BdT μ' T n e μ' → Ev (kb (i + 1) μ') (fun _ μ2 => LwR μ0 T n L (.error e) μ2)) : Ev (Rd_readLaw_94 48 kb i μ) (fun _ μ' => LwR μ0 T n L (.error e) μ') := by
  obtain ⟨z, hz, hz1⟩ := h.2.2.2.2.2.2.2
  have h' : BdT μ T n e μ := ⟨frU_refl μ, h.2.1, h.2.2.1, h.2.2.2.1, h.2.2.2.2.1, h.2.2.2.2.2.1, h.2.2.2.2.2.2.1⟩
  have hb : ∀ k j v, k ∈ [50, 51, 52, 53, 54, 55] → ∀ μ2, FrL μ0 μ2 → BdT μ2 T n e μ2 → FrL μ0 (up2 μ2 k j v) ∧ BdT (up2 μ2 k j v) T n e (up2 μ2 k j v) := by
    intro k j v hk μ2 g1 g2
    have h2 : k = 50 ∨ k = 51 ∨ k = 52 ∨ k = 53 ∨ k = 54 ∨ k = 55 := by
      simp only [List.mem_cons, List.not_mem_nil, or_false] at hk; exact hk
    have n48 : (48 : Nat) ≠ k := by omega
    refine ⟨frL_up g1 hk, frU_refl _, rdI_of g2.2.1 (up2_off (Or.inl n48)) (up2_ne (by omega)), ?_, g2.2.2.2.1, ?_, ?_, ?_⟩
    · rw [up2_off (Or.inl n48)]; exact g2.2.2.1
    · rw [up2_off (Or.inl n48)]; exact g2.2.2.2.2.1
    · rw [up2_off (Or.inl n48)]; exact g2.2.2.2.2.2.1
    · obtain ⟨q, hq, h6⟩ := g2.2.2.2.2.2.2
      exact ⟨q, hq, by rw [up2_off (Or.inl n48)]; exact h6⟩
  have fin : ∀ μ2, FrL μ0 μ2 → BdT μ2 T n e μ2 → Ev (cl (Rd_ends 48 (-1) (-1) (-1) (-1) μ2) (fun _ μ3 => kb (i + 1) μ3)) (fun _ μ' => LwR μ0 T n L (.error e) μ') := by
    intro μ2 g1 g2
    refine ev_cl (ev_mono (bt_ends g2 (-1) (-1) (-1) (-1)) (fun _ μ3 g3 => ?_))
    exact hkb μ3 (frL_trans g1 (frL_U g3.1)) ⟨frU_refl _, g3.2⟩
  unfold Rd_readLaw_94 Lw_lineEnds
  simp only [Nat.reduceAdd]
  rw [gF_eq, h50]
  by_cases c : k = 16
  · rw [if_pos (show (16 : Int32) ≤ nI k from nI_le (a := 16) (by omega) (by omega)), cl_eq]
    exact fin μ hF h'
  · rw [if_neg (show ¬ (16 : Int32) ≤ nI k from nI_ge (b := 16) (by omega) (by omega)), gF_eq, gF_eq, h50, hz1, stA_nI (by omega) (by omega), gF_eq, pF_eq, cl_eq]
    obtain ⟨a1, a2⟩ := hb 54 k (nI z) (by decide) μ hF h'
    obtain ⟨b1, b2⟩ := hb 50 0 (up2 μ 54 k (nI z) 50 0 + 1) (by decide) _ a1 a2
    exact fin _ b1 b2
theorem gd_law {μ0 : Mu} {T : Nat → Nat} {n : Nat} : ∀ (m p fuel : Nat) (L : LawL) (cs : Cds) (μ : Mu), n - p < m → n - p < fuel → LnC μ0 T n p L cs μ → Ev (Rd_readLaw_9 48 fuel (nI L.length) μ) (fun _ μ' => LwR μ0 T n L (lwS T n m L.length p) μ') := by
  intro m
  induction m with
  | zero => intro p fuel L cs μ hm; omega
  | succ m ih =>
    intro p fuel L cs μ hm hfu h
    obtain ⟨f, rfl⟩ : ∃ k, fuel = k + 1 := ⟨fuel - 1, by omega⟩
    obtain ⟨hF, hG, h50, h10, hL, hx, hok⟩ := h
    have hn := gd_n hG
    have hp := hG.2.2.1
    have hT := gdC_T hG
    have hk16 := hok.1
    have hE := tE_le (T := T) hp
    have hk63 := tK_lt (T := T) hp
    have hcl : cs.length ≤ 400 := hG.2.2.2.2.2.2.1
    -- behind a fault the reading ends
    have stop : ∀ (e : Nat × Nat) (i : Int32) (μ' : Mu) (g : Nat), 0 < g → FrL μ0 μ' → BdT μ' T n e μ' → Ev (Rd_readLaw_9 48 g i μ') (fun _ μ2 => LwR μ0 T n L (.error e) μ2) := by
      intro e i μ' g hg g1 g2
      obtain ⟨g', rfl⟩ : ∃ k, g = k + 1 := ⟨g - 1, by omega⟩
      have r : LwR μ0 T n L (.error e) μ' := ⟨g1, g2.2.2.1, g2.2.2.2.1, g2.2.2.2.2.1⟩
      show Ev (Rd_readLaw_9b 48 (Rd_readLaw_9 48 g') i μ') _
      unfold Rd_readLaw_9b
      by_cases c : 16 < i
      · rw [if_pos c]; exact ev_some r
      · rw [if_neg c, gF_eq, bt_k g2, if_neg (by decide), if_neg (by decide), if_neg (by decide)]
        unfold Rd_readLaw_40 Rd_readLaw_51
        rw [if_pos rfl, bt_begins g2, cl_eq, if_pos rfl]; exact ev_some r
    show Ev (Rd_readLaw_9b 48 (Rd_readLaw_9 48 f) (nI L.length) μ) _
    unfold Rd_readLaw_9b
    rw [if_neg (show ¬ (16 : Int32) < nI L.length from nI_nlt (a := 16) hk16 (by omega)), gF_eq, gd_k hG, lwS_succ]
    by_cases c3 : 1 ≤ tK T n p ∧ tK T n p ≤ 3
    · have hg := tE_gt (T := T) hp (by omega)
      have c0 : ¬ tK T n p = 0 := by omega
      rw [if_neg c0, if_pos c3.2]
      have main : Ev (Rd_readLaw_51 48 (Rd_readLaw_9 48 f) (nI L.length) (nI (tK T n p)) (nI (tK T n p)) μ) (fun _ μ' => LwR μ0 T n L (if L.length = 16 then .error (3, tF T n p) else (match liS T n p with
        | .error e => .error e
        | .ok q => (match lwS T n m (L.length + 1) q.2 with
          | .error e => .error e
          | .ok r => .ok ((tK T n p - 1, q.1.1, q.1.2) :: r)))) μ') := by
        unfold Rd_readLaw_51
        simp only [Nat.reduceAdd]
        refine ev_cl (ev_mono (gt_begins hT (tK T n p) L.length rfl (by omega) hk16 h10) (fun r μ1 h1 => ?_))
        rw [if_neg c0, if_pos rfl] at h1
        by_cases c16 : L.length = 16
        · rw [if_neg (by omega)] at h1
          rw [h1.1, if_pos rfl, if_pos c16]
          exact ev_some ⟨frL_trans hF (frL_U h1.2.1), h1.2.2.2.1, h1.2.2.2.2.1, h1.2.2.2.2.2.1⟩
        rw [if_pos (by omega)] at h1
        rw [h1.1, if_neg (show ¬ (1 : Int32) = 0 by decide), if_neg c16]
        have g1 : GdC μ1 T n (tE T n p) cs μ1 := gdC_of hG h1.2 (by rw [h1.2.1.1 50 (by decide)]) (h1.2.1.1 55 (by decide))
        have f1 := frL_trans hF (frL_U h1.2.1)
        have k50 : μ1 50 0 = nI L.length := by rw [h1.2.1.1 50 (by decide)]; exact h50
        have k10 : μ1 48 10 = nI L.length := (h1.2.1.2 10 (by decide)).trans h10
        have kL : LcI 50 μ1 L cs.length := lcI_of (fun r j h1' h4' _ => by rw [h1.2.1.1 (50 + r) (by omega)]) (fun i _ => by rw [h1.2.1.1 55 (by decide)]) (Nat.le_refl _) hL
        unfold Lw_begin
        simp only [Nat.reduceAdd]
        rw [gF_eq, k50, if_neg (show ¬ (16 : Int32) ≤ nI L.length from nI_ge (b := 16) (by omega) (by omega)), gF_eq, k50, stA_nI (by omega) (by omega), gF_eq, gF_eq, up2_off (Or.inl (by decide)), up2_off (Or.inl (by decide)), k50, g1.2.2.2.2.2.1, stA_nI (by omega) (by omega), cl_eq]
        have g2 := gdC_L (k := 52) (i := L.length) (v := nI cs.length) (gdC_L (k := 51) (i := L.length) (v := nI (tK T n p)) g1 (by omega)) (by omega)
        have f2 := frL_up (k := 52) (i := L.length) (v := nI cs.length) (frL_up (k := 51) (i := L.length) (v := nI (tK T n p)) f1 (by decide)) (by decide)
        have k50b : up2 (up2 μ1 51 L.length (nI (tK T n p))) 52 L.length (nI cs.length) 50 0 = nI L.length := by rw [up2_off (Or.inl (by decide)), up2_off (Or.inl (by decide)), k50]
        have k10b : up2 (up2 μ1 51 L.length (nI (tK T n p))) 52 L.length (nI cs.length) 48 10 = nI L.length := by rw [up2_off (Or.inl (by decide)), up2_off (Or.inl (by decide)), k10]
        have k51 : up2 (up2 μ1 51 L.length (nI (tK T n p))) 52 L.length (nI cs.length) 51 L.length = nI (tK T n p) := by rw [up2_off (Or.inl (by decide)), up2_same]
        have k52 : up2 (up2 μ1 51 L.length (nI (tK T n p))) 52 L.length (nI cs.length) 52 L.length = nI cs.length := up2_same _ _ _ _
        have kL2 : LcI 50 (up2 (up2 μ1 51 L.length (nI (tK T n p))) 52 L.length (nI cs.length)) L cs.length := lcI_of (fun r j h1' h4' hj => by rw [up2_off (Or.inr (by omega)), up2_off (Or.inr (by omega))]) (fun i _ => by rw [up2_off (Or.inl (by decide)), up2_off (Or.inl (by decide))]) (Nat.le_refl _) kL
        generalize up2 (up2 μ1 51 L.length (nI (tK T n p))) 52 L.length (nI cs.length) = μ2 at g2 f2 k50b k10b k51 k52 kL2 ⊢
        refine ev_cl (ev_mono (gd_sum g2 (by omega) (by omega)) (fun _ μ3 h3 => ?_))
        unfold liS
        cases hu : suS T n (tE T n p) with
        | error er =>
          rw [hu] at h3
          have q50 : μ3 50 0 = nI L.length := (h3.1.2.2 0 (by decide)).trans k50b
          have f3 := frL_trans f2 (frL_P h3.1)
          obtain ⟨z, hz, hz1⟩ := h3.2.2.2.2.2.2.2
          unfold Lw_sumEnds
          simp only [Nat.reduceAdd]
          rw [gF_eq, q50, if_neg (show ¬ (16 : Int32) ≤ nI L.length from nI_ge (b := 16) (by omega) (by omega)), gF_eq, gF_eq, q50, hz1, stA_nI (by omega) (by omega), cl_eq]
          have h4 : BdC (up2 μ3 53 L.length (nI z)) T n er (up2 μ3 53 L.length (nI z)) := by
            obtain ⟨_, b1, b2, b3, b4, b5, ⟨q, hq, b6⟩, ⟨z', hz', b7⟩⟩ := h3
            refine ⟨frP_refl _, rdI_of b1 (up2_off (Or.inl (by decide))) (up2_ne (by decide)), ?_, b3, ?_, ?_, ⟨q, hq, ?_⟩, ⟨z', hz', ?_⟩⟩
            · rw [up2_off (Or.inl (by decide))]; exact b2
            · rw [up2_off (Or.inl (by decide))]; exact b4
            · rw [up2_off (Or.inl (by decide))]; exact b5
            · rw [up2_off (Or.inl (by decide))]; exact b6
            · rw [up2_off (Or.inl (by decide))]; exact b7
          have q50c : up2 μ3 53 L.length (nI z) 50 0 = nI L.length := by rw [up2_off (Or.inl (by decide)), q50]
          rw [gF_eq, bd_k h4, if_neg (by decide)]
          exact bd_line (frL_up f3 (by decide)) h4 L.length hk16 q50c _ (fun μ' e1 e2 => stop er _ μ' f (by omega) e1 e2)
        | ok q =>
          rw [hu] at h3
          obtain ⟨a1, a2, a3, a4⟩ := su_sz (c := q.1) (p' := q.2) hE hu
          have h3' : GdC μ2 T n q.2 (cs ++ q.1) μ3 := h3
          have hE2 := tE_le (T := T) a2
          have q50 : μ3 50 0 = nI L.length := (h3'.1.2.2 0 (by decide)).trans k50b
          have q10 : μ3 48 10 = nI L.length := (h3'.1.2.1 10 (by decide)).trans k10b
          have f3 := frL_trans f2 (frL_P h3'.1)
          have hcl2 : (cs ++ q.1).length = cs.length + q.1.length := List.length_append
          have hcl3 : (cs ++ q.1).length ≤ 400 := h3'.2.2.2.2.2.2.1
          have hqx := xl_len q.1
          have hcx := xl_len cs
          have q51 : μ3 51 L.length = nI (tK T n p) := by rw [h3'.1.1 51 (by decide)]; exact k51
          have q52 : μ3 52 L.length = nI cs.length := by rw [h3'.1.1 52 (by decide)]; exact k52
          have qold : ∀ i, i < cs.length → μ3 55 i = μ2 55 i := fun i hi => by
            rw [h3'.2.2.2.2.2.2.2 i (by omega), g2.2.2.2.2.2.2.2 i hi, getD_fr hi]
          have qL : LcI 50 μ3 L cs.length := lcI_of (fun r j h1' h4' hj => by rw [h3'.1.1 (50 + r) (by
            simp only [List.mem_cons, List.not_mem_nil, or_false]
            omega)]) qold (Nat.le_refl _) kL2
          unfold Lw_sumEnds
          simp only [Nat.reduceAdd]
          rw [gF_eq, q50, if_neg (show ¬ (16 : Int32) ≤ nI L.length from nI_ge (b := 16) (by omega) (by omega)), gF_eq, gF_eq, q50, h3'.2.2.2.2.2.1, stA_nI (by omega) (by omega), cl_eq]
          have g4 := gdC_L (k := 53) (i := L.length) (v := nI (cs ++ q.1).length) h3' (by omega)
          have f4 := frL_up (k := 53) (i := L.length) (v := nI (cs ++ q.1).length) f3 (by decide)
          have r50 : up2 μ3 53 L.length (nI (cs ++ q.1).length) 50 0 = nI L.length := by rw [up2_off (Or.inl (by decide)), q50]
          have r10 : up2 μ3 53 L.length (nI (cs ++ q.1).length) 48 10 = nI L.length := by rw [up2_off (Or.inl (by decide)), q10]
          have r51 : up2 μ3 53 L.length (nI (cs ++ q.1).length) 51 L.length = nI (tK T n p) := by rw [up2_off (Or.inl (by decide)), q51]
          have r52 : up2 μ3 53 L.length (nI (cs ++ q.1).length) 52 L.length = nI cs.length := by rw [up2_off (Or.inl (by decide)), q52]
          have r53 : up2 μ3 53 L.length (nI (cs ++ q.1).length) 53 L.length = nI (cs ++ q.1).length := up2_same _ _ _ _
          have rL : LcI 50 (up2 μ3 53 L.length (nI (cs ++ q.1).length)) L cs.length := lcI_of (fun r j h1' h4' hj => by rw [up2_off (Or.inr (by omega))]) (fun i _ => by rw [up2_off (Or.inl (by decide))]) (Nat.le_refl _) qL
          generalize up2 μ3 53 L.length (nI (cs ++ q.1).length) = μ4 at g4 f4 r50 r10 r51 r52 r53 rL ⊢
          -- a line's end
          have endl : ∀ (d : Cds) (p2 : Nat) (μ5 : Mu), FrL μ0 μ5 → GdC μ5 T n p2 (cs ++ q.1 ++ d) μ5 → q.2 ≤ p2 → xl (cs ++ q.1 ++ d) ≤ p2 → (d = [] ∨ runT d [] = some [true]) → μ5 50 0 = nI L.length → μ5 48 10 = nI L.length → μ5 51 L.length = nI (tK T n p) → μ5 52 L.length = nI cs.length → μ5 53 L.length = nI (cs ++ q.1).length → LcI 50 μ5 L cs.length →
              Ev (Rd_readLaw_94 48 (Rd_readLaw_9 48 f) (nI L.length) μ5) (fun _ μ' => LwR μ0 T n L (match (if tK T n p2 = 59 then Except.ok ((q.1, d), tE T n p2) else Except.error (1, tF T n p2) : Except (Nat × Nat) ((Cds × Cds) × Nat)) with
                | .error e => .error e
                | .ok q => (match lwS T n m (L.length + 1) q.2 with
                  | .error e => .error e
                  | .ok r => .ok ((tK T n p - 1, q.1.1, q.1.2) :: r))) μ') := by
            intro d p2 μ5 f5 g5 hqp hxd hd s50 s10 s51 s52 s53 sL
            have hp2 := g5.2.2.1
            have hcl5 : (cs ++ q.1 ++ d).length = cs.length + q.1.length + d.length := by rw [List.length_append, hcl2]
            have hcl6 : (cs ++ q.1 ++ d).length ≤ 400 := g5.2.2.2.2.2.2.1
            unfold Rd_readLaw_94 Lw_lineEnds
            simp only [Nat.reduceAdd]
            rw [gF_eq, s50, if_neg (show ¬ (16 : Int32) ≤ nI L.length from nI_ge (b := 16) (by omega) (by omega)), gF_eq, gF_eq, s50, g5.2.2.2.2.2.1, stA_nI (by omega) (by omega), gF_eq, up2_off (Or.inl (by decide)), s50, pF_eq, nI_1, cl_eq]
            have g6 := gdC_L (k := 50) (i := 0) (v := nI (L.length + 1)) (gdC_L (k := 54) (i := L.length) (v := nI (cs ++ q.1 ++ d).length) g5 (by omega)) (by omega)
            have f6 := frL_up (k := 50) (i := 0) (v := nI (L.length + 1)) (frL_up (k := 54) (i := L.length) (v := nI (cs ++ q.1 ++ d).length) f5 (by decide)) (by decide)
            have t50 : up2 (up2 μ5 54 L.length (nI (cs ++ q.1 ++ d).length)) 50 0 (nI (L.length + 1)) 50 0 = nI (L.length + 1) := up2_same _ _ _ _
            have t10 : up2 (up2 μ5 54 L.length (nI (cs ++ q.1 ++ d).length)) 50 0 (nI (L.length + 1)) 48 10 = nI L.length := by rw [up2_off (Or.inl (by decide)), up2_off (Or.inl (by decide)), s10]
            have tL : LcI 50 (up2 (up2 μ5 54 L.length (nI (cs ++ q.1 ++ d).length)) 50 0 (nI (L.length + 1))) (L ++ [(tK T n p - 1, q.1, d)]) (cs ++ q.1 ++ d).length := by
              rw [hcl5]
              refine lcI_push (tK T n p - 1, q.1, d) (sz := cs.length) ?_ ?_ ?_ ?_ ?_ (fun i hi => ?_) (fun i hi => ?_)
              · exact lcI_of (fun r j h1' h4' hj => by rw [up2_off (Or.inl (by omega)), up2_off (Or.inr (by omega))]) (fun i _ => by rw [up2_off (Or.inl (by decide)), up2_off (Or.inl (by decide))]) (Nat.le_refl _) sL
              · rw [up2_off (Or.inl (by decide)), up2_off (Or.inl (by decide)), s51]
                show nI (tK T n p) = nI (tK T n p - 1 + 1)
                congr 1; omega
              · rw [up2_off (Or.inl (by decide)), up2_off (Or.inl (by decide)), s52]
              · rw [up2_off (Or.inl (by decide)), up2_off (Or.inl (by decide)), s53, hcl2]
              · exact (up2_off (Or.inl (by decide))).trans (up2_same _ _ _ _)
              · have hi2 : i < q.1.length := hi
                rw [up2_off (Or.inl (by decide)), up2_off (Or.inl (by decide)), g5.2.2.2.2.2.2.2 _ (by omega), List.append_assoc, getD_bk, getD_fr hi2]
              · have hi2 : i < d.length := hi
                rw [up2_off (Or.inl (by decide)), up2_off (Or.inl (by decide))]
                show μ5 55 (cs.length + q.1.length + i) = _
                rw [g5.2.2.2.2.2.2.2 _ (by omega), ← hcl2, getD_bk]
            generalize up2 (up2 μ5 54 L.length (nI (cs ++ q.1 ++ d).length)) 50 0 (nI (L.length + 1)) = μ6 at g6 f6 t50 t10 tL ⊢
            refine ev_cl (ev_mono (gt_ends (gdC_T g6) (-1) (-1) (-1) (-1) L.length (by omega) t10) (fun _ μ7 h7 => ?_))
            by_cases c59 : tK T n p2 = 59
            · rw [if_pos c59] at h7
              rw [if_pos c59]
              obtain ⟨e1, e2, e3, e4, e5, e6, _⟩ := h7
              have hg2 := tE_gt (T := T) hp2 (by omega)
              have hE3 := tE_le (T := T) hp2
              have hll : (L ++ [(tK T n p - 1, q.1, d)]).length = L.length + 1 := List.length_append
              have g7 : LnC μ0 T n (tE T n p2) (L ++ [(tK T n p - 1, q.1, d)]) (cs ++ q.1 ++ d) μ7 := by
                refine ⟨frL_trans f6 (frL_E e1), ⟨frP_refl _, e2, hE3, e3, e4, ?_, hcl6, fun i hi => ?_⟩, ?_, ?_, ?_, by omega, ?_, fun l hl => ?_⟩
                · rw [e1.1 50 (by decide) (by decide)]; exact g6.2.2.2.2.2.1
                · rw [e1.1 55 (by decide) (by decide)]; exact g6.2.2.2.2.2.2.2 i hi
                · rw [e1.1 50 (by decide) (by decide), t50, hll]
                · rw [e5, hll]
                · exact lcI_of (fun r j h1' h4' _ => by rw [e1.1 (50 + r) (by omega) (by omega)]) (fun i _ => by rw [e1.1 55 (by decide) (by decide)]) (Nat.le_refl _) tL
                · rw [hll]; omega
                · rw [hll] at hl
                  by_cases z : l = L.length
                  · rw [z, getD_last]
                    exact ⟨by show tK T n p - 1 ≤ 2; omega, a4 [] (by decide), hd⟩
                  · rw [getD_front (by omega)]; exact hok.2 l (by omega)
              rw [← hll]
              refine ev_mono (ih (tE T n p2) f _ _ μ7 (by omega) (by omega) g7) (fun _ μ8 h8 => ?_)
              show LwR μ0 T n L (match lwS T n m (L ++ [(tK T n p - 1, q.1, d)]).length (tE T n p2) with
                  | .error e => .error e
                  | .ok r => .ok ((tK T n p - 1, q.1, d) :: r)) μ8
              cases hlw : lwS T n m (L ++ [(tK T n p - 1, q.1, d)]).length (tE T n p2) with
              | error er => rw [hlw] at h8; exact h8
              | ok r =>
                rw [hlw] at h8
                obtain ⟨y1, y2, y3, y4, y5⟩ := h8
                rw [List.append_assoc] at y3 y4 y5
                exact ⟨y1, y2, y3, y4, y5⟩
            · rw [if_neg c59] at h7
              rw [if_neg c59]
              exact stop _ _ μ7 f (by omega) (frL_trans f6 (frL_U h7.1)) ⟨frU_refl _, h7.2⟩
          show Ev _ (fun _ μ' => LwR μ0 T n L (match (if tK T n q.2 = 4 then (match cnS T n (tE T n q.2) with
              | .error e => .error e
              | .ok q2 => if tK T n q2.2 = 59 then .ok ((q.1, q2.1), tE T n q2.2) else .error (1, tF T n q2.2))
            else if tK T n q.2 = 59 then .ok ((q.1, []), tE T n q.2) else .error (1, tF T n q.2) : Except (Nat × Nat) ((Cds × Cds) × Nat)) with
                | .error e => .error e
                | .ok q => (match lwS T n m (L.length + 1) q.2 with
                  | .error e => .error e
                  | .ok r => .ok ((tK T n p - 1, q.1.1, q.1.2) :: r))) μ')
          rw [gF_eq, gd_k g4]
          by_cases c4 : tK T n q.2 = 4
          · have hg2 := tE_gt (T := T) a2 (by omega)
            rw [if_pos (show nI (tK T n q.2) = 4 by rw [c4]; rfl), if_pos c4]
            refine ev_cl (ev_mono (gd_next g4) (fun _ μ5 g5 => ?_))
            have hx2 : xl (cs ++ q.1) ≤ q.2 := by rw [xl_app]; omega
            refine ev_cl (ev_mono (gd_cond (gdC_self g5) (by omega) (by omega)) (fun _ μ6 h6 => ?_))
            have f5 := frL_trans f4 (frL_P g5.1)
            cases hv : cnS T n (tE T n q.2) with
            | error er =>
              rw [hv] at h6
              have u50 : μ6 50 0 = nI L.length := (h6.1.2.2 0 (by decide)).trans ((g5.1.2.2 0 (by decide)).trans r50)
              exact bd_line (frL_trans f5 (frL_P h6.1)) h6 L.length hk16 u50 _ (fun μ' e1 e2 => stop er _ μ' f (by omega) e1 e2)
            | ok q2 =>
              rw [hv] at h6
              obtain ⟨b1, b2, b3, b4⟩ := cn_sz (c := q2.1) (p' := q2.2) hE2 hv
              have h6' : GdC μ5 T n q2.2 (cs ++ q.1 ++ q2.1) μ6 := h6
              have tr : ∀ k, k ∈ [51, 52, 53, 54] → μ6 k = μ4 k := fun k hk => by
                have hk2 : k ∉ [48, 50, 55] := by
                  simp only [List.mem_cons, List.not_mem_nil, or_false] at hk ⊢; omega
                rw [h6'.1.1 k hk2, g5.1.1 k hk2]
              refine endl q2.1 q2.2 μ6 (frL_trans f5 (frL_P h6'.1)) (gdC_self h6') (by omega) (by rw [xl_app]; omega) (Or.inr b4) ((h6'.1.2.2 0 (by decide)).trans ((g5.1.2.2 0 (by decide)).trans r50)) ((h6'.1.2.1 10 (by decide)).trans ((g5.1.2.1 10 (by decide)).trans r10)) (by rw [tr 51 (by decide)]; exact r51) (by rw [tr 52 (by decide)]; exact r52) (by rw [tr 53 (by decide)]; exact r53) ?_
              refine lcI_of (fun r j h1' h4' _ => by rw [tr (50 + r) (by
                simp only [List.mem_cons, List.not_mem_nil, or_false]; omega)]) (fun i hi => ?_) (Nat.le_refl _) rL
              show μ6 55 i = μ4 55 i
              rw [h6'.2.2.2.2.2.2.2 i (by rw [List.length_append]; omega), g4.2.2.2.2.2.2.2 i (by omega), getD_fr (by omega)]
          · rw [if_neg (fun z : nI (tK T n q.2) = 4 => c4 ((tK_is a2 4 (by omega)).mp z)), if_neg c4]
            refine endl [] q.2 μ4 f4 ?_ (Nat.le_refl _) ?_ (Or.inl rfl) r50 r10 r51 r52 r53 rL
            · rw [List.append_nil]; exact g4
            · rw [List.append_nil, xl_app]; omega
      unfold Rd_readLaw_35 Rd_readLaw_40
      by_cases d1 : tK T n p = 1
      · rw [if_pos (show nI (tK T n p) = 1 by rw [d1]; rfl), if_neg (show ¬ (1 : Int32) = 0 by decide)]; exact main
      rw [if_neg (fun z : nI (tK T n p) = 1 => d1 ((tK_is hp 1 (by omega)).mp z))]
      by_cases d2 : tK T n p = 2
      · rw [if_pos (show nI (tK T n p) = 2 by rw [d2]; rfl), if_neg (show ¬ (1 : Int32) = 0 by decide)]; exact main
      rw [if_neg (fun z : nI (tK T n p) = 2 => d2 ((tK_is hp 2 (by omega)).mp z)), if_pos (show nI (tK T n p) = 3 by rw [show tK T n p = 3 by omega]; rfl), if_neg (show ¬ (1 : Int32) = 0 by decide)]
      exact main
    · rw [if_neg (fun z : nI (tK T n p) = 1 => c3 (by have := (tK_is hp 1 (by omega)).mp z; omega)), if_neg (fun z : nI (tK T n p) = 2 => c3 (by have := (tK_is hp 2 (by omega)).mp z; omega)), if_neg (fun z : nI (tK T n p) = 3 => c3 (by have := (tK_is hp 3 (by omega)).mp z; omega))]
      unfold Rd_readLaw_40 Rd_readLaw_51
      rw [if_pos rfl]
      refine ev_cl (ev_mono (gt_begins hT (v := 1) 1 L.length rfl (by omega) hk16 h10) (fun r μ1 h1 => ?_))
      by_cases c0 : tK T n p = 0
      · rw [if_pos c0] at h1
        rw [h1.1, if_pos rfl, if_pos c0, h1.2]
        refine ev_some ⟨hF, hG.2.2.2.1, ?_, ?_, ?_⟩
        · rw [List.append_nil]; exact h10
        · rw [List.append_nil]; exact lawC_I hL hcl h50 hG.2.2.2.2.2.1
        · rw [List.append_nil]; exact hok
      · rw [if_neg c0, if_neg (by omega)] at h1
        rw [h1.1, if_pos rfl, if_neg c0, if_neg (by omega)]
        exact ev_some ⟨frL_trans hF (frL_U h1.2.1), h1.2.2.2.1, h1.2.2.2.2.1, h1.2.2.2.2.2.1⟩
