/-! L3: THE CLASS READS A SUM -/
def FrP (μ μ' : Mu) : Prop := (∀ k, k ∉ [48, 50, 55] → μ' k = μ k) ∧ (∀ j, j ∉ [3, 4, 5, 6, 8, 9] → μ' 48 j = μ 48 j) ∧ ∀ j, j ≠ 1 → μ' 50 j = μ 50 j
theorem frP_refl (μ : Mu) : FrP μ μ := ⟨fun _ _ => rfl, fun _ _ => rfl, fun _ _ => rfl⟩
theorem frP_48 {a b : Mu} {j : Nat} {v : Int32} (h1 : FrP a b) (h : j ∈ [3, 4, 5, 6, 8, 9]) : FrP a (up2 b 48 j v) := ⟨fun k hk => (up2_ne (fun z => hk (by rw [z]; decide))).trans (h1.1 k hk), fun i hi => (up2_off (Or.inr (fun z => hi (by rw [z]; exact h)))).trans (h1.2.1 i hi), fun i hi => (up2_off (Or.inl (by decide))).trans (h1.2.2 i hi)⟩
theorem frP_50 {a b : Mu} {v : Int32} (h1 : FrP a b) : FrP a (up2 b 50 1 v) := ⟨fun k hk => (up2_ne (fun z => hk (by rw [z]; decide))).trans (h1.1 k hk), fun i hi => (up2_off (Or.inl (by decide))).trans (h1.2.1 i hi), fun i hi => (up2_off (Or.inr hi)).trans (h1.2.2 i hi)⟩
theorem frP_55 {a b : Mu} {i : Nat} {v : Int32} (h1 : FrP a b) : FrP a (up2 b 55 i v) := ⟨fun k hk => (up2_ne (fun z => hk (by rw [z]; decide))).trans (h1.1 k hk), fun i hi => (up2_off (Or.inl (by decide))).trans (h1.2.1 i hi), fun i hi => (up2_off (Or.inl (by decide))).trans (h1.2.2 i hi)⟩
theorem frP_T {a b c : Mu} (h1 : FrP a b) (h2 : FrT b c) : FrP a c := ⟨fun k hk => (h2.1 k (fun z => hk (by rw [z]; decide))).trans (h1.1 k hk), fun i hi => (h2.2 i (fun z => hi (by
  simp only [List.mem_cons, List.not_mem_nil, or_false] at z ⊢
  omega))).trans (h1.2.1 i hi), fun i hi => by rw [h2.1 50 (by decide)]; exact h1.2.2 i hi⟩
theorem rdI_of {T : Nat → Nat} {n : Nat} {μ μ' : Mu} (hI : RdI T n μ) (h2 : μ' 48 2 = μ 48 2) (h49 : μ' 49 = μ 49) : RdI T n μ' := ⟨hI.1, hI.2.1, h2.trans hI.2.2.1, fun i hi => by rw [h49]; exact hI.2.2.2 i hi⟩
theorem tokC_of {T : Nat → Nat} {n p : Nat} {μ μ' : Mu} (h : μ' 48 = μ 48) (ht : TokC T n p μ) : TokC T n p μ' := by
  unfold TokC at *
  rw [h]; exact ht
/-- no fault, at the token from p on, these codes told -/
def GdC (μ0 : Mu) (T : Nat → Nat) (n p : Nat) (cs : Cds) (μ : Mu) : Prop := FrP μ0 μ ∧ RdI T n μ ∧ p ≤ n ∧ μ 48 8 = 0 ∧ TokC T n p μ ∧ μ 50 1 = nI cs.length ∧ cs.length ≤ 400 ∧ ∀ i, i < cs.length → μ 55 i = encC (cs.getD i (0, 0))
/-- a fault -/
def BdC (μ0 : Mu) (T : Nat → Nat) (n : Nat) (e : Nat × Nat) (μ : Mu) : Prop := FrP μ0 μ ∧ RdI T n μ ∧ μ 48 8 = nI e.1 ∧ (1 ≤ e.1 ∧ e.1 ≤ 3) ∧ μ 48 9 = nI e.2 ∧ μ 48 3 = 0 ∧ (∃ q, q ≤ n ∧ μ 48 6 = nI q) ∧ ∃ z, z ≤ 400 ∧ μ 50 1 = nI z
def StC (μ0 : Mu) (T : Nat → Nat) (n : Nat) (cs : Cds) (x : PR) (μ : Mu) : Prop := match x with
  | .error e => BdC μ0 T n e μ
  | .ok q => GdC μ0 T n q.2 (cs ++ q.1) μ
theorem stC_prp {μ0 : Mu} {T : Nat → Nat} {n : Nat} {cs d : Cds} {x : PR} {μ : Mu} (h : StC μ0 T n (cs ++ d) x μ) : StC μ0 T n cs (prp d x) μ := by
  cases x with
  | error e => exact h
  | ok q =>
    have h' : GdC μ0 T n q.2 ((cs ++ d) ++ q.1) μ := h
    rw [List.append_assoc] at h'
    exact h'
section Sums
variable {μ0 : Mu} {T : Nat → Nat} {n p : Nat} {cs : Cds} {μ : Mu} {e : Nat × Nat}
theorem gd_n (h : GdC μ0 T n p cs μ) : n ≤ 400 := h.2.1.1
theorem gd_k (h : GdC μ0 T n p cs μ) : μ 48 3 = nI (tK T n p) := h.2.2.2.2.1.1
theorem bd_8 (h : BdC μ0 T n e μ) : μ 48 8 ≠ 0 := by
  rw [h.2.2.1]
  exact nI_ne0 h.2.2.2.1.1 (by have := h.2.2.2.1.2; omega)
theorem bd_k (h : BdC μ0 T n e μ) : μ 48 3 = 0 := h.2.2.2.2.2.1
theorem gd_next (h : GdC μ0 T n p cs μ) : Ev (Rd_next 48 μ) (fun _ μ' => GdC μ0 T n (tE T n p) cs μ') := by
  obtain ⟨hF, hI, hp, h8, ht, h1, hl, hc⟩ := h
  refine ev_mono (rd_next hI (tE_le hp) ht.2.2.2 h8) (fun _ μ' q => ?_)
  obtain ⟨q1, q2⟩ := q
  refine ⟨frP_T hF q2, rdI_fr q2 hI, tE_le hp, (q2.2 8 (by decide)).trans h8, q1, ?_, hl, fun i hi => ?_⟩
  · rw [q2.1 50 (by decide)]; exact h1
  · rw [q2.1 55 (by decide)]; exact hc i hi
theorem bd_next (h : BdC μ0 T n e μ) : Ev (Rd_next 48 μ) (fun _ μ' => BdC μ0 T n e μ') := by
  have h80 := bd_8 h
  obtain ⟨hF, hI, h8, h13, h9, h3, ⟨q, hq, h6⟩, ⟨z, hz, h1⟩⟩ := h
  refine ev_mono (rd_next_bad hI hq h6 h80) (fun _ μ' y => ?_)
  obtain ⟨y1, y2, y3⟩ := y
  exact ⟨frP_T hF y3, rdI_fr y3 hI, (y3.2 8 (by decide)).trans h8, h13, (y3.2 9 (by decide)).trans h9, y1, y2, z, hz, by rw [y3.1 50 (by decide)]; exact h1⟩
theorem gd_fail (h : GdC μ0 T n p cs μ) {v : Int32} (k : Nat) (hv : v = nI k) (hk : 1 ≤ k ∧ k ≤ 3) : Ev (Rd_fail 48 v μ) (fun _ μ' => BdC μ0 T n (k, tF T n p) μ') := by
  obtain ⟨hF, hI, hp, h8, ht, h1, hl, hc⟩ := h
  unfold Rd_fail Rd_fail_20
  rw [gF_eq, h8, if_pos rfl, pF_eq, gF_eq, up2_off (Or.inr (by decide)), ht.2.2.1, pF_eq, pF_eq, hv]
  refine ev_some ⟨frP_48 (frP_48 (frP_48 hF (by decide)) (by decide)) (by decide), rdI_of hI ?_ ?_, ?_, hk, ?_, up2_same _ _ _ _, ⟨tE T n p, tE_le hp, ?_⟩, ⟨cs.length, hl, ?_⟩⟩
  · rw [up2_off (Or.inr (by decide)), up2_off (Or.inr (by decide)), up2_off (Or.inr (by decide))]
  · rw [up2_ne (by decide), up2_ne (by decide), up2_ne (by decide)]
  · rw [up2_off (Or.inr (by decide)), up2_off (Or.inr (by decide)), up2_same]
  · rw [up2_off (Or.inr (by decide)), up2_same]; rfl
  · rw [up2_off (Or.inr (by decide)), up2_off (Or.inr (by decide)), up2_off (Or.inr (by decide))]; exact ht.2.2.2
  · rw [up2_off (Or.inl (by decide)), up2_off (Or.inl (by decide)), up2_off (Or.inl (by decide))]; exact h1
theorem bd_fail (h : BdC μ0 T n e μ) (v : Int32) : Ev (Rd_fail 48 v μ) (fun _ μ' => BdC μ0 T n e μ') := by
  have h80 := bd_8 h
  obtain ⟨hF, hI, h8, h13, h9, h3, ⟨q, hq, h6⟩, ⟨z, hz, h1⟩⟩ := h
  unfold Rd_fail Rd_fail_20
  rw [gF_eq, if_neg h80, pF_eq]
  refine ev_some ⟨frP_48 hF (by decide), rdI_of hI ?_ ?_, ?_, h13, ?_, up2_same _ _ _ _, ⟨q, hq, ?_⟩, ⟨z, hz, ?_⟩⟩
  · rw [up2_off (Or.inr (by decide))]
  · rw [up2_ne (by decide)]
  · rw [up2_off (Or.inr (by decide))]; exact h8
  · rw [up2_off (Or.inr (by decide))]; exact h9
  · rw [up2_off (Or.inr (by decide))]; exact h6
  · rw [up2_off (Or.inl (by decide))]; exact h1
theorem gd_emit (h : GdC μ0 T n p cs μ) (hc4 : cs.length < 400) {v1 v2 : Int32} (op num : Nat) (h1 : v1 = nI op) (h2 : v2 = nI num) : Ev (Lw_emit 50 v1 v2 μ) (fun _ μ' => GdC μ0 T n p (cs ++ [(op, num)]) μ') := by
  obtain ⟨hF, hI, hp, h8, ht, hs, hl, hc⟩ := h
  unfold Lw_emit
  simp only [Nat.reduceAdd]
  rw [gF_eq, hs, if_neg (show ¬ (400 : Int32) ≤ nI cs.length from nI_ge (b := 400) hc4 (by omega)), gF_eq, hs, stA_nI hc4 (by omega), gF_eq, up2_off (Or.inl (by decide)), hs, pF_eq, nI_1]
  have hv : v1 * 10000 + v2 = encC (op, num) := by
    rw [h1, h2]
    show nI op * nI 10000 + nI num = nI (op * 10000 + num)
    rw [pk_mul, nI_add]
  rw [hv]
  refine ev_some ⟨frP_50 (frP_55 hF), rdI_of hI ?_ ?_, hp, ?_, tokC_of ?_ ht, ?_, ?_, fun i hi => ?_⟩
  · rw [up2_off (Or.inl (by decide)), up2_off (Or.inl (by decide))]
  · rw [up2_ne (by decide), up2_ne (by decide)]
  · rw [up2_off (Or.inl (by decide)), up2_off (Or.inl (by decide))]; exact h8
  · rw [up2_ne (by decide), up2_ne (by decide)]
  · rw [up2_same, List.length_append]; rfl
  · rw [List.length_append]; show cs.length + 1 ≤ 400; omega
  · rw [List.length_append] at hi
    have hi2 : i < cs.length + 1 := hi
    rw [up2_off (Or.inl (by decide))]
    by_cases z : i = cs.length
    · rw [z, up2_same]
      congr 1
      rw [List.getD_eq_getElem?_getD, List.getElem?_append_right (Nat.le_refl _), Nat.sub_self]; rfl
    · rw [up2_off (Or.inr z), hc i (by omega), List.getD_eq_getElem?_getD, List.getD_eq_getElem?_getD, List.getElem?_append_left (by omega)]
theorem bd_emit (h : BdC μ0 T n e μ) (v1 v2 : Int32) : Ev (Lw_emit 50 v1 v2 μ) (fun _ μ' => BdC μ0 T n e μ') := by
  obtain ⟨hF, hI, h8, h13, h9, h3, h6, ⟨z, hz, h1⟩⟩ := id h
  unfold Lw_emit
  simp only [Nat.reduceAdd]
  rw [gF_eq, h1]
  by_cases c : 400 ≤ z
  · rw [if_pos (show (400 : Int32) ≤ nI z from nI_le (a := 400) c (by omega))]; exact ev_some h
  · rw [if_neg (show ¬ (400 : Int32) ≤ nI z from nI_ge (b := 400) (by omega) (by omega)), gF_eq, h1, stA_nI (by omega) (by omega), gF_eq, up2_off (Or.inl (by decide)), h1, pF_eq, nI_1]
    obtain ⟨q, hq, h6⟩ := h6
    refine ev_some ⟨frP_50 (frP_55 hF), rdI_of hI ?_ ?_, ?_, h13, ?_, ?_, ⟨q, hq, ?_⟩, ⟨z + 1, by omega, up2_same _ _ _ _⟩⟩
    · rw [up2_off (Or.inl (by decide)), up2_off (Or.inl (by decide))]
    · rw [up2_ne (by decide), up2_ne (by decide)]
    · rw [up2_off (Or.inl (by decide)), up2_off (Or.inl (by decide))]; exact h8
    · rw [up2_off (Or.inl (by decide)), up2_off (Or.inl (by decide))]; exact h9
    · rw [up2_off (Or.inl (by decide)), up2_off (Or.inl (by decide))]; exact h3
    · rw [up2_off (Or.inl (by decide)), up2_off (Or.inl (by decide))]; exact h6
theorem tK_is (hp : p ≤ n) (k : Nat) (hk : k < 2 ^ 31) : nI (tK T n p) = nI k ↔ tK T n p = k := nI_eq (by have := tK_lt (T := T) hp; omega) hk
theorem gd_take (h : GdC μ0 T n p cs μ) {v : Int32} (k : Nat) (hv : v = nI k) (hk : k < 2 ^ 31) : Ev (Rd_take 48 v μ) (fun _ μ' => if tK T n p = k then GdC μ0 T n (tE T n p) cs μ' else BdC μ0 T n (1, tF T n p) μ') := by
  unfold Rd_take
  rw [gF_eq, gd_k h, hv]
  by_cases c : tK T n p = k
  · rw [if_pos (by rw [c])]
    refine ev_cl (ev_mono (gd_next h) (fun _ μ1 h1 => ev_some ?_))
    rw [if_pos c]; exact h1
  · rw [if_neg (fun z => c ((tK_is h.2.2.1 k hk).mp z))]
    refine ev_cl (ev_mono (gd_fail h 1 rfl (by omega)) (fun _ μ1 h1 => ev_some ?_))
    rw [if_neg c]; exact h1
theorem bd_take (h : BdC μ0 T n e μ) (v : Int32) (hv : v ≠ 0) : Ev (Rd_take 48 v μ) (fun _ μ' => BdC μ0 T n e μ') := by
  unfold Rd_take
  rw [gF_eq, bd_k h, if_neg (fun z => hv z.symm)]
  exact ev_cl (ev_mono (bd_fail h 1) (fun _ μ1 h1 => ev_some h1))
theorem gd_number (h : GdC μ0 T n p cs μ) (v1 v2 v3 : Int32) : Ev (Rd_number 48 v1 v2 v3 μ) (fun r μ' => if tK T n p = 30 then (if nI (tV T n p) < v1 ∨ v2 < nI (tV T n p) ∨ nI (tV T n p) = v3 then r = -1 ∧ BdC μ0 T n (2, tF T n p) μ' else r = nI (tV T n p) ∧ GdC μ0 T n (tE T n p) cs μ') else r = -1 ∧ BdC μ0 T n (1, tF T n p) μ') := by
  unfold Rd_number
  rw [gF_eq, gd_k h]
  by_cases c : tK T n p = 30
  · have h4 : μ 48 4 = nI (tV T n p) := h.2.2.2.2.1.2.1 c
    rw [if_pos (show nI (tK T n p) = 30 by rw [c]; rfl), gF_eq, h4]
    simp only [if_pos c]
    have bad : (nI (tV T n p) < v1 ∨ v2 < nI (tV T n p) ∨ nI (tV T n p) = v3) → Ev (Rd_number_40 48 μ) (fun r μ' => if nI (tV T n p) < v1 ∨ v2 < nI (tV T n p) ∨ nI (tV T n p) = v3 then r = -1 ∧ BdC μ0 T n (2, tF T n p) μ' else r = nI (tV T n p) ∧ GdC μ0 T n (tE T n p) cs μ') := by
      intro z
      unfold Rd_number_40
      refine ev_cl (ev_mono (gd_fail h 2 rfl (by omega)) (fun _ μ1 h1 => ev_some ?_))
      rw [if_pos z]; exact ⟨rfl, h1⟩
    by_cases c1 : nI (tV T n p) < v1
    · rw [if_pos c1]; exact bad (Or.inl c1)
    rw [if_neg c1, gF_eq, h4]
    by_cases c2 : v2 < nI (tV T n p)
    · rw [if_pos c2]; exact bad (Or.inr (Or.inl c2))
    rw [if_neg c2, gF_eq, h4]
    by_cases c3 : nI (tV T n p) = v3
    · rw [if_pos c3]; exact bad (Or.inr (Or.inr c3))
    rw [if_neg c3, gF_eq, h4]
    refine ev_cl (ev_mono (gd_next h) (fun _ μ1 h1 => ev_some ?_))
    rw [if_neg (by rintro (z | z | z); exact c1 z; exact c2 z; exact c3 z)]
    exact ⟨rfl, h1⟩
  · rw [if_neg (fun z : nI (tK T n p) = 30 => c ((tK_is h.2.2.1 30 (by omega)).mp z))]
    simp only [if_neg c]
    exact ev_cl (ev_mono (gd_fail h 1 rfl (by omega)) (fun _ μ1 h1 => ev_some ⟨rfl, h1⟩))
theorem bd_number (h : BdC μ0 T n e μ) (v1 v2 v3 : Int32) : Ev (Rd_number 48 v1 v2 v3 μ) (fun r μ' => r = -1 ∧ BdC μ0 T n e μ') := by
  unfold Rd_number
  rw [gF_eq, bd_k h, if_neg (by decide)]
  exact ev_cl (ev_mono (bd_fail h 1) (fun _ μ1 h1 => ev_some ⟨rfl, h1⟩))
theorem gd_operand (h : GdC μ0 T n p cs μ) (hc : cs.length < 400) : Ev (Rd_operand 48 μ) (fun _ μ' => StC μ0 T n cs (unS T n p) μ') := by
  unfold Rd_operand Rd_operand_59
  simp only [Nat.reduceAdd]
  rw [gF_eq, gd_k h]
  unfold unS
  have hk63 := tK_lt (T := T) h.2.2.1
  by_cases c : tK T n p = 30
  · have h4 : μ 48 4 = nI (tV T n p) := h.2.2.2.2.1.2.1 c
    rw [if_pos (show nI (tK T n p) = 30 by rw [c]; rfl), if_pos c, gF_eq, h4]
    exact ev_cl (ev_mono (gd_emit h hc 30 (tV T n p) rfl rfl) (fun _ μ1 h1 => ev_cl (ev_mono (gd_next h1) (fun _ μ2 h2 => ev_some h2))))
  rw [if_neg (fun z : nI (tK T n p) = 30 => c ((tK_is h.2.2.1 30 (by omega)).mp z)), if_neg c]
  by_cases c1 : tK T n p < 8
  · rw [if_pos (show nI (tK T n p) < (8 : Int32) from nI_lt (b := 8) c1 (by omega)), if_neg (by omega)]
    exact ev_cl (ev_mono (gd_fail h 1 rfl (by omega)) (fun _ μ1 h1 => ev_some h1))
  rw [if_neg (show ¬ nI (tK T n p) < (8 : Int32) from nI_nlt (b := 8) (by omega) (by omega))]
  by_cases c2 : 18 ≤ tK T n p
  · rw [if_pos (show (18 : Int32) ≤ nI (tK T n p) from nI_le (a := 18) c2 (by omega)), if_neg (by omega)]
    exact ev_cl (ev_mono (gd_fail h 1 rfl (by omega)) (fun _ μ1 h1 => ev_some h1))
  rw [if_neg (show ¬ (18 : Int32) ≤ nI (tK T n p) from nI_ge (b := 18) (by omega) (by omega)), if_pos (by omega)]
  exact ev_cl (ev_mono (gd_emit h hc (tK T n p) 0 rfl rfl) (fun _ μ1 h1 => ev_cl (ev_mono (gd_next h1) (fun _ μ2 h2 => ev_some h2))))
theorem bd_operand (h : BdC μ0 T n e μ) : Ev (Rd_operand 48 μ) (fun _ μ' => BdC μ0 T n e μ') := by
  unfold Rd_operand Rd_operand_59
  rw [gF_eq, bd_k h, if_neg (by decide), if_pos (by decide)]
  exact ev_cl (ev_mono (bd_fail h 1) (fun _ μ1 h1 => ev_some h1))
def wI : Option Nat → Int32
  | none => -1
  | some k => nI k
theorem tK_n (hp : n ≤ p) : tK T n p = 0 := by
  have h1 : p ≤ tkF T n p := rE_ge _ _ _
  have h2 := tk_end (T := T) (n := n) (p := p) (by omega)
  show (tk T n p).1 = 0
  rw [h2]
theorem gd_118 (h : GdC μ0 T n p cs μ) (w : Option Nat) (hw : ∀ k, w = some k → k = 43 ∨ k = 45) (hx : xl cs + wn w ≤ p) : Ev (Rd_sum_118 48 (wI w) μ) (fun _ μ' => GdC μ0 T n p (cs ++ wL w) μ') := by
  have hn := gd_n h
  have hl := xl_len cs
  unfold Rd_sum_118
  cases w with
  | none =>
    rw [if_pos (show wI none = -1 from rfl)]
    refine ev_some ?_
    show GdC μ0 T n p (cs ++ []) μ
    rw [List.append_nil]; exact h
  | some k =>
    have hx2 : xl cs + 1 ≤ p := hx
    have hk := hw k rfl
    rw [if_neg (show ¬ wI (some k) = -1 by show ¬ nI k = -1; rw [n1_ne (by omega)]; exact id)]
    have hp := h.2.2.1
    exact ev_cl (ev_mono (gd_emit h (by omega) k 0 rfl rfl) (fun _ μ1 h1 => ev_some h1))
theorem bd_118 (h : BdC μ0 T n e μ) (w : Int32) : Ev (Rd_sum_118 48 w μ) (fun _ μ' => BdC μ0 T n e μ') := by
  unfold Rd_sum_118
  by_cases c : w = -1
  · rw [if_pos c]; exact ev_some h
  · rw [if_neg c]
    exact ev_cl (ev_mono (bd_emit h w 0) (fun _ μ1 h1 => ev_some h1))
theorem bd_sumL (h : BdC μ0 T n e μ) (w i : Int32) {fuel : Nat} (hf : 0 < fuel) : Ev (Rd_sum_8 48 fuel w i μ) (fun _ μ' => BdC μ0 T n e μ') := by
  obtain ⟨m, rfl⟩ : ∃ m, fuel = m + 1 := ⟨fuel - 1, by omega⟩
  show Ev (Rd_sum_8b 48 (Rd_sum_8 48 m) w i μ) _
  unfold Rd_sum_8b
  by_cases c : 400 ≤ i
  · rw [if_pos c]; exact bd_118 h w
  · rw [if_neg c, gF_eq, bd_k h, if_neg (by decide), if_neg (by decide), if_neg (by decide), if_neg (by decide)]
    exact bd_118 h w
end Sums
theorem gd_sumL {μ0 : Mu} {T : Nat → Nat} {n : Nat} : ∀ (m : Nat) (w : Option Nat) (p : Nat) (cs : Cds) (i fuel : Nat) (μ : Mu), n - p < m → (∀ k, w = some k → k = 43 ∨ k = 45) → xl cs + wn w ≤ p → i ≤ p → n - p < fuel → GdC μ0 T n p cs μ → Ev (Rd_sum_8 48 fuel (wI w) (nI i) μ) (fun _ μ' => StC μ0 T n cs (suL T n m w p) μ') := by
  intro m
  induction m with
  | zero => intro w p cs i fuel μ hm; omega
  | succ m ih =>
    intro w p cs i fuel μ hm hw hx hi hfu h
    obtain ⟨f, rfl⟩ : ∃ f, fuel = f + 1 := ⟨fuel - 1, by omega⟩
    have hn := gd_n h
    have hp := h.2.2.1
    have hl := xl_len cs
    have hE := tE_le (T := T) hp
    show Ev (Rd_sum_8b 48 (Rd_sum_8 48 f) (wI w) (nI i) μ) _
    unfold Rd_sum_8b
    simp only [Nat.reduceAdd]
    rw [suL_succ]
    by_cases c0 : 400 ≤ i
    · have hk : tK T n p = 0 := tK_n (by omega)
      rw [if_pos (show (400 : Int32) ≤ nI i from nI_le (a := 400) c0 (by omega)), if_neg (by omega), if_neg (by omega), if_neg (by omega)]
      exact gd_118 h w hw hx
    rw [if_neg (show ¬ (400 : Int32) ≤ nI i from nI_ge (b := 400) (by omega) (by omega)), gF_eq, gd_k h]
    by_cases c1 : tK T n p = 42
    · have hg := tE_gt (T := T) hp (by omega)
      rw [if_pos (show nI (tK T n p) = 42 by rw [c1]; rfl), if_pos c1]
      refine ev_cl (ev_mono (gd_next h) (fun _ μ1 h1 => ev_cl (ev_mono (gd_operand h1 (by omega)) (fun _ μ2 h2 => ?_))))
      cases hu : unS T n (tE T n p) with
      | error er =>
        rw [hu] at h2
        exact ev_cl (ev_mono (bd_emit h2 _ _) (fun _ μ3 h3 => bd_sumL h3 _ _ (by omega)))
      | ok q =>
        rw [hu] at h2
        obtain ⟨a1, a2, a3, a4⟩ := un_sz (c := q.1) (p' := q.2) hE hu
        have hx3 : xl (cs ++ q.1) = xl cs + 1 := by rw [xl_app, a3]
        have hl3 := xl_len (cs ++ q.1)
        refine ev_cl (ev_mono (gd_emit h2 (by omega) 42 0 (by rw [c1]) rfl) (fun _ μ3 h3 => ?_))
        unfold Rd_sum_112
        rw [nI_1]
        refine ev_mono (ih w q.2 _ (i + 1) f μ3 (by omega) hw ?_ (by omega) (by omega) h3) (fun _ μ4 h4 => ?_)
        · rw [xl_app, hx3, xl_one (c := (42, 0)) (by decide)]; omega
        · refine stC_prp (d := q.1 ++ [(42, 0)]) ?_
          rw [← List.append_assoc]; exact h4
    rw [if_neg (fun z : nI (tK T n p) = 42 => c1 ((tK_is hp 42 (by omega)).mp z)), if_neg c1]
    by_cases c2 : tK T n p = 47
    · have hg := tE_gt (T := T) hp (by omega)
      rw [if_pos (show nI (tK T n p) = 47 by rw [c2]; rfl), if_pos c2]
      refine ev_cl (ev_mono (gd_next h) (fun _ μ1 h1 => ev_cl (ev_mono (gd_number h1 1 9999 (-1)) (fun r μ2 h2 => ?_))))
      by_cases d1 : tK T n (tE T n p) = 30
      · have hv := tV_lt hE d1
        have hg2 := tE_gt (T := T) hE (by omega)
        have hE2 := tE_le (T := T) hE
        rw [if_pos d1] at h2
        rw [if_pos d1]
        by_cases d2 : tV T n (tE T n p) = 0
        · rw [if_pos (Or.inl (by rw [d2]; decide))] at h2
          rw [if_pos d2]
          exact ev_cl (ev_mono (bd_emit h2.2 _ _) (fun _ μ3 h3 => bd_sumL h3 _ _ (by omega)))
        · rw [if_neg (by
            rintro (z | z | z)
            · exact (show ¬ nI (tV T n (tE T n p)) < (1 : Int32) from nI_nlt (b := 1) (by omega) (by omega)) z
            · exact (show ¬ (9999 : Int32) < nI (tV T n (tE T n p)) from nI_nlt (a := 9999) (by omega) (by omega)) z
            · rw [n1_ne (by omega)] at z; exact z)] at h2
          rw [if_neg d2, h2.1]
          refine ev_cl (ev_mono (gd_emit h2.2 (by omega) 47 (tV T n (tE T n p)) (by rw [c2]) rfl) (fun _ μ3 h3 => ?_))
          unfold Rd_sum_112
          rw [nI_1]
          refine ev_mono (ih w _ _ (i + 1) f μ3 (by omega) hw ?_ (by omega) (by omega) h3) (fun _ μ4 h4 => stC_prp h4)
          rw [xl_app, xl_div]; omega
      · rw [if_neg d1] at h2
        rw [if_neg d1]
        exact ev_cl (ev_mono (bd_emit h2.2 _ _) (fun _ μ3 h3 => bd_sumL h3 _ _ (by omega)))
    rw [if_neg (fun z : nI (tK T n p) = 47 => c2 ((tK_is hp 47 (by omega)).mp z)), if_neg c2]
    by_cases c3 : tK T n p = 43 ∨ tK T n p = 45
    · have hg := tE_gt (T := T) hp (by omega)
      rw [if_pos c3]
      have main : Ev (Rd_sum_88 48 (Rd_sum_8 48 f) (wI w) (nI i) (nI (tK T n p)) μ) (fun _ μ' => StC μ0 T n cs (pbd (unS T n (tE T n p)) (fun c p1 => prp (wL w ++ c) (suL T n m (some (tK T n p)) p1))) μ') := by
        unfold Rd_sum_88 Rd_sum_106 Rd_sum_112
        simp only [Nat.reduceAdd]
        refine ev_cl (ev_mono (gd_next h) (fun _ μ1 h1 => ?_))
        have tail : ∀ μ2, GdC μ0 T n (tE T n p) (cs ++ wL w) μ2 → Ev (cl (Rd_operand 48 μ2) (fun _ μ3 => Rd_sum_8 48 f (nI (tK T n p)) (nI i + 1) μ3)) (fun _ μ' => StC μ0 T n cs (pbd (unS T n (tE T n p)) (fun c p1 => prp (wL w ++ c) (suL T n m (some (tK T n p)) p1))) μ') := by
          intro μ2 h2
          have hxw : xl (wL w) = wn w := by
            cases w with
            | none => rfl
            | some k => exact xl_one (by show k ≠ 47; have := hw k rfl; omega)
          have hl2 := xl_len (cs ++ wL w)
          rw [xl_app, hxw] at hl2
          refine ev_cl (ev_mono (gd_operand h2 (by omega)) (fun _ μ3 h3 => ?_))
          cases hu : unS T n (tE T n p) with
          | error er =>
            rw [hu] at h3
            exact bd_sumL h3 _ _ (by omega)
          | ok q =>
            rw [hu] at h3
            obtain ⟨a1, a2, a3, a4⟩ := un_sz (c := q.1) (p' := q.2) hE hu
            rw [nI_1]
            refine ev_mono (ih (some (tK T n p)) q.2 _ (i + 1) f μ3 (by omega) (fun k hk => by cases hk; exact c3) ?_ (by omega) (by omega) h3) (fun _ μ4 h4 => ?_)
            · rw [xl_app, xl_app, a3, hxw]; show xl cs + wn w + 1 + 1 ≤ q.2; omega
            · refine stC_prp (d := wL w ++ q.1) ?_
              rw [← List.append_assoc]; exact h4
        cases w with
        | none =>
          rw [if_pos (show wI none = -1 from rfl)]
          refine tail μ1 ?_
          show GdC μ0 T n (tE T n p) (cs ++ []) μ1
          rw [List.append_nil]; exact h1
        | some k =>
          have hk := hw k rfl
          have hx2 : xl cs + 1 ≤ p := hx
          rw [if_neg (show ¬ wI (some k) = -1 by show ¬ nI k = -1; rw [n1_ne (by omega)]; exact id)]
          exact ev_cl (ev_mono (gd_emit h1 (by omega) k 0 rfl rfl) (fun _ μ2 h2 => tail μ2 h2))
      rcases c3 with c3 | c3
      · rw [if_pos (show nI (tK T n p) = 43 by rw [c3]; rfl)]; exact main
      · rw [if_neg (fun z : nI (tK T n p) = 43 => by have := (tK_is hp 43 (by omega)).mp z; omega), if_pos (show nI (tK T n p) = 45 by rw [c3]; rfl)]; exact main
    rw [if_neg (fun z : nI (tK T n p) = 43 => c3 (Or.inl ((tK_is hp 43 (by omega)).mp z))), if_neg (fun z : nI (tK T n p) = 45 => c3 (Or.inr ((tK_is hp 45 (by omega)).mp z))), if_neg c3]
    exact gd_118 h w hw hx
theorem gd_sum {μ0 : Mu} {T : Nat → Nat} {n p : Nat} {cs : Cds} {μ : Mu} (h : GdC μ0 T n p cs μ) (hx : xl cs ≤ p) (hk : xl cs < 400) : Ev (Rd_sum 48 μ) (fun _ μ' => StC μ0 T n cs (suS T n p) μ') := by
  have hn := gd_n h
  have hl := xl_len cs
  unfold Rd_sum suS
  refine ev_cl (ev_mono (gd_operand h (by omega)) (fun _ μ1 h1 => ?_))
  cases hu : unS T n p with
  | error er =>
    rw [hu] at h1
    exact bd_sumL h1 _ _ (by unfold FU; omega)
  | ok q =>
    rw [hu] at h1
    obtain ⟨a1, a2, a3, a4⟩ := un_sz (c := q.1) (p' := q.2) h.2.2.1 hu
    refine ev_mono (gd_sumL 401 none q.2 _ 0 FU μ1 (by omega) (fun k hk => by cases hk) ?_ (by omega) (by unfold FU; omega) h1) (fun _ μ2 h2 => stC_prp h2)
    rw [xl_app, a3]; show xl cs + 1 + 0 ≤ q.2; omega
theorem bd_sum {μ0 : Mu} {T : Nat → Nat} {n : Nat} {e : Nat × Nat} {μ : Mu} (h : BdC μ0 T n e μ) : Ev (Rd_sum 48 μ) (fun _ μ' => BdC μ0 T n e μ') := by
  unfold Rd_sum
  exact ev_cl (ev_mono (bd_operand h) (fun _ μ1 h1 => bd_sumL h1 _ _ (by unfold FU; omega)))
