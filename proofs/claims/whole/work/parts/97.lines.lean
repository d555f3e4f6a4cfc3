/-! L3: THE CLASS'S TOKENS WITHOUT CODES; LINES BEGIN AND END -/
def FrU (μ μ' : Mu) : Prop := (∀ k, k ≠ 48 → μ' k = μ k) ∧ ∀ j, j ∉ [3, 4, 5, 6, 8, 9] → μ' 48 j = μ 48 j
theorem frU_refl (μ : Mu) : FrU μ μ := ⟨fun _ _ => rfl, fun _ _ => rfl⟩
theorem frU_trans {a b c : Mu} (h1 : FrU a b) (h2 : FrU b c) : FrU a c := ⟨fun k h => (h2.1 k h).trans (h1.1 k h), fun j h => (h2.2 j h).trans (h1.2 j h)⟩
theorem frU_up {a b : Mu} {j : Nat} {v : Int32} (h1 : FrU a b) (h : j ∈ [3, 4, 5, 6, 8, 9]) : FrU a (up2 b 48 j v) := ⟨fun k hk => (up2_ne hk).trans (h1.1 k hk), fun i hi => (up2_off (Or.inr (fun z => hi (by rw [z]; exact h)))).trans (h1.2 i hi)⟩
theorem frU_T {a b c : Mu} (h1 : FrU a b) (h2 : FrT b c) : FrU a c := ⟨fun k hk => (h2.1 k hk).trans (h1.1 k hk), fun i hi => (h2.2 i (fun z => hi (by
  simp only [List.mem_cons, List.not_mem_nil, or_false] at z ⊢
  omega))).trans (h1.2 i hi)⟩
def GdT (μ0 : Mu) (T : Nat → Nat) (n p : Nat) (μ : Mu) : Prop := FrU μ0 μ ∧ RdI T n μ ∧ p ≤ n ∧ μ 48 8 = 0 ∧ TokC T n p μ
def BdT (μ0 : Mu) (T : Nat → Nat) (n : Nat) (e : Nat × Nat) (μ : Mu) : Prop := FrU μ0 μ ∧ RdI T n μ ∧ μ 48 8 = nI e.1 ∧ (1 ≤ e.1 ∧ e.1 ≤ 3) ∧ μ 48 9 = nI e.2 ∧ μ 48 3 = 0 ∧ ∃ q, q ≤ n ∧ μ 48 6 = nI q
section Toks
variable {μ0 : Mu} {T : Nat → Nat} {n p : Nat} {μ : Mu} {e : Nat × Nat}
theorem gt_n (h : GdT μ0 T n p μ) : n ≤ 400 := h.2.1.1
theorem gt_k (h : GdT μ0 T n p μ) : μ 48 3 = nI (tK T n p) := h.2.2.2.2.1
theorem bt_8 (h : BdT μ0 T n e μ) : μ 48 8 ≠ 0 := by
  rw [h.2.2.1]
  exact nI_ne0 h.2.2.2.1.1 (by have := h.2.2.2.1.2; omega)
theorem bt_k (h : BdT μ0 T n e μ) : μ 48 3 = 0 := h.2.2.2.2.2.1
theorem gt_next (h : GdT μ0 T n p μ) : Ev (Rd_next 48 μ) (fun _ μ' => GdT μ0 T n (tE T n p) μ') := by
  obtain ⟨hF, hI, hp, h8, ht⟩ := h
  refine ev_mono (rd_next hI (tE_le hp) ht.2.2.2 h8) (fun _ μ' q => ?_)
  obtain ⟨q1, q2⟩ := q
  exact ⟨frU_T hF q2, rdI_fr q2 hI, tE_le hp, (q2.2 8 (by decide)).trans h8, q1⟩
theorem bt_next (h : BdT μ0 T n e μ) : Ev (Rd_next 48 μ) (fun _ μ' => BdT μ0 T n e μ') := by
  have h80 := bt_8 h
  obtain ⟨hF, hI, h8, h13, h9, h3, ⟨q, hq, h6⟩⟩ := h
  refine ev_mono (rd_next_bad hI hq h6 h80) (fun _ μ' y => ?_)
  obtain ⟨y1, y2, y3⟩ := y
  exact ⟨frU_T hF y3, rdI_fr y3 hI, (y3.2 8 (by decide)).trans h8, h13, (y3.2 9 (by decide)).trans h9, y1, y2⟩
theorem gt_fail (h : GdT μ0 T n p μ) {v : Int32} (k : Nat) (hv : v = nI k) (hk : 1 ≤ k ∧ k ≤ 3) : Ev (Rd_fail 48 v μ) (fun _ μ' => BdT μ0 T n (k, tF T n p) μ') := by
  obtain ⟨hF, hI, hp, h8, ht⟩ := h
  unfold Rd_fail Rd_fail_20
  rw [gF_eq, h8, if_pos rfl, pF_eq, gF_eq, up2_off (Or.inr (by decide)), ht.2.2.1, pF_eq, pF_eq, hv]
  refine ev_some ⟨frU_up (frU_up (frU_up hF (by decide)) (by decide)) (by decide), rdI_of hI ?_ ?_, ?_, hk, ?_, up2_same _ _ _ _, ⟨tE T n p, tE_le hp, ?_⟩⟩
  · rw [up2_off (Or.inr (by decide)), up2_off (Or.inr (by decide)), up2_off (Or.inr (by decide))]
  · rw [up2_ne (by decide), up2_ne (by decide), up2_ne (by decide)]
  · rw [up2_off (Or.inr (by decide)), up2_off (Or.inr (by decide)), up2_same]
  · rw [up2_off (Or.inr (by decide)), up2_same]; rfl
  · rw [up2_off (Or.inr (by decide)), up2_off (Or.inr (by decide)), up2_off (Or.inr (by decide))]; exact ht.2.2.2
theorem bt_fail (h : BdT μ0 T n e μ) (v : Int32) : Ev (Rd_fail 48 v μ) (fun _ μ' => BdT μ0 T n e μ') := by
  have h80 := bt_8 h
  obtain ⟨hF, hI, h8, h13, h9, h3, ⟨q, hq, h6⟩⟩ := h
  unfold Rd_fail Rd_fail_20
  rw [gF_eq, if_neg h80, pF_eq]
  refine ev_some ⟨frU_up hF (by decide), rdI_of hI ?_ ?_, ?_, h13, ?_, up2_same _ _ _ _, ⟨q, hq, ?_⟩⟩
  · rw [up2_off (Or.inr (by decide))]
  · rw [up2_ne (by decide)]
  · rw [up2_off (Or.inr (by decide))]; exact h8
  · rw [up2_off (Or.inr (by decide))]; exact h9
  · rw [up2_off (Or.inr (by decide))]; exact h6
theorem gt_take (h : GdT μ0 T n p μ) {v : Int32} (k : Nat) (hv : v = nI k) (hk : k < 2 ^ 31) : Ev (Rd_take 48 v μ) (fun _ μ' => if tK T n p = k then GdT μ0 T n (tE T n p) μ' else BdT μ0 T n (1, tF T n p) μ') := by
  unfold Rd_take
  rw [gF_eq, gt_k h, hv]
  by_cases c : tK T n p = k
  · rw [if_pos (by rw [c])]
    refine ev_cl (ev_mono (gt_next h) (fun _ μ1 h1 => ev_some ?_))
    rw [if_pos c]; exact h1
  · rw [if_neg (fun z => c ((tK_is h.2.2.1 k hk).mp z))]
    refine ev_cl (ev_mono (gt_fail h 1 rfl (by omega)) (fun _ μ1 h1 => ev_some ?_))
    rw [if_neg c]; exact h1
theorem bt_take (h : BdT μ0 T n e μ) (v : Int32) (hv : v ≠ 0) : Ev (Rd_take 48 v μ) (fun _ μ' => BdT μ0 T n e μ') := by
  unfold Rd_take
  rw [gF_eq, bt_k h, if_neg (fun z => hv z.symm)]
  exact ev_cl (ev_mono (bt_fail h 1) (fun _ μ1 h1 => ev_some h1))
theorem gt_number (h : GdT μ0 T n p μ) (v1 v2 v3 : Int32) : Ev (Rd_number 48 v1 v2 v3 μ) (fun r μ' => if tK T n p = 30 then (if nI (tV T n p) < v1 ∨ v2 < nI (tV T n p) ∨ nI (tV T n p) = v3 then r = -1 ∧ BdT μ0 T n (2, tF T n p) μ' else r = nI (tV T n p) ∧ GdT μ0 T n (tE T n p) μ') else r = -1 ∧ BdT μ0 T n (1, tF T n p) μ') := by
  unfold Rd_number
  rw [gF_eq, gt_k h]
  by_cases c : tK T n p = 30
  · have h4 : μ 48 4 = nI (tV T n p) := h.2.2.2.2.2.1 c
    rw [if_pos (show nI (tK T n p) = 30 by rw [c]; rfl), gF_eq, h4]
    simp only [if_pos c]
    have bad : (nI (tV T n p) < v1 ∨ v2 < nI (tV T n p) ∨ nI (tV T n p) = v3) → Ev (Rd_number_40 48 μ) (fun r μ' => if nI (tV T n p) < v1 ∨ v2 < nI (tV T n p) ∨ nI (tV T n p) = v3 then r = -1 ∧ BdT μ0 T n (2, tF T n p) μ' else r = nI (tV T n p) ∧ GdT μ0 T n (tE T n p) μ') := by
      intro z
      unfold Rd_number_40
      refine ev_cl (ev_mono (gt_fail h 2 rfl (by omega)) (fun _ μ1 h1 => ev_some ?_))
      rw [if_pos z]; exact ⟨rfl, h1⟩
    by_cases c1 : nI (tV T n p) < v1
    · rw [if_pos c1]; exact bad (Or.inl c1)
    rw [if_neg c1, gF_eq, h4]
    by_cases c2 : v2 < nI (tV T n p)
    · rw [if_pos c2]; exact bad (Or.inr (Or.inl c2))
    rw [if_neg c2, gF_eq, h4]
    by_cases c3 : nI (tV T n p) = v3
    · rw [if_pos c3]; exact bad (Or.inr (Or.inr c3))
    rw [if_neg c3, gF_eq, h4]
    refine ev_cl (ev_mono (gt_next h) (fun _ μ1 h1 => ev_some ?_))
    rw [if_neg (by rintro (z | z | z); exact c1 z; exact c2 z; exact c3 z)]
    exact ⟨rfl, h1⟩
  · rw [if_neg (fun z : nI (tK T n p) = 30 => c ((tK_is h.2.2.1 30 (by omega)).mp z))]
    simp only [if_neg c]
    exact ev_cl (ev_mono (gt_fail h 1 rfl (by omega)) (fun _ μ1 h1 => ev_some ⟨rfl, h1⟩))
theorem bt_number (h : BdT μ0 T n e μ) (v1 v2 v3 : Int32) : Ev (Rd_number 48 v1 v2 v3 μ) (fun r μ' => r = -1 ∧ BdT μ0 T n e μ') := by
  unfold Rd_number
  rw [gF_eq, bt_k h, if_neg (by decide)]
  exact ev_cl (ev_mono (bt_fail h 1) (fun _ μ1 h1 => ev_some ⟨rfl, h1⟩))
theorem gt_begins (h : GdT μ0 T n p μ) {v : Int32} (t k : Nat) (hv : v = nI t) (ht : 0 < t ∧ t < 63) (hk : k ≤ 16) (h10 : μ 48 10 = nI k) : Ev (Rd_begins 48 v μ) (fun r μ' => if tK T n p = 0 then r = 0 ∧ μ' = μ else if tK T n p = t then (if k < 16 then r = 1 ∧ GdT μ0 T n (tE T n p) μ' else r = 0 ∧ BdT μ0 T n (3, tF T n p) μ') else r = 0 ∧ BdT μ0 T n (1, tF T n p) μ') := by
  unfold Rd_begins
  rw [gF_eq, gt_k h, hv]
  by_cases c0 : tK T n p = 0
  · rw [if_pos (show nI (tK T n p) = 0 by rw [c0]; rfl)]
    simp only [if_pos c0]
    exact ev_some ⟨rfl, rfl⟩
  rw [if_neg (fun z : nI (tK T n p) = 0 => c0 ((tK_is h.2.2.1 0 (by omega)).mp z)), gF_eq, gt_k h]
  simp only [if_neg c0]
  by_cases c1 : tK T n p = t
  · rw [if_pos (by rw [c1]), gF_eq, h10]
    simp only [if_pos c1]
    by_cases c2 : k < 16
    · rw [if_pos (show nI k < (16 : Int32) from nI_lt (b := 16) c2 (by omega))]
      simp only [if_pos c2]
      exact ev_cl (ev_mono (gt_next h) (fun _ μ1 h1 => ev_some ⟨rfl, h1⟩))
    · rw [if_neg (show ¬ nI k < (16 : Int32) from nI_nlt (b := 16) (by omega) (by omega))]
      simp only [if_neg c2]
      exact ev_cl (ev_mono (gt_fail h 3 rfl (by omega)) (fun _ μ1 h1 => ev_some ⟨rfl, h1⟩))
  · rw [if_neg (fun z => c1 ((tK_is h.2.2.1 t (by omega)).mp z))]
    simp only [if_neg c1]
    exact ev_cl (ev_mono (gt_fail h 1 rfl (by omega)) (fun _ μ1 h1 => ev_some ⟨rfl, h1⟩))
theorem bt_begins (h : BdT μ0 T n e μ) (v : Int32) : Rd_begins 48 v μ = some (0, μ) := by
  unfold Rd_begins
  rw [gF_eq, bt_k h, if_pos rfl]
/-- a line ends: its four numbers -/
def FrE (μ μ' : Mu) : Prop := (∀ k, k ≠ 48 → k ≠ 57 → μ' k = μ k) ∧ ∀ j, j ∉ [3, 4, 5, 6, 8, 9, 10] → μ' 48 j = μ 48 j
theorem gt_ends (h : GdT μ T n p μ) (v1 v2 v3 v4 : Int32) (k : Nat) (hk : k < 16) (h10 : μ 48 10 = nI k) : Ev (Rd_ends 48 v1 v2 v3 v4 μ) (fun _ μ' => if tK T n p = 59 then (FrE μ μ' ∧ RdI T n μ' ∧ μ' 48 8 = 0 ∧ TokC T n (tE T n p) μ' ∧ μ' 48 10 = nI (k + 1) ∧ (∀ i, (i < 4 * k ∨ 4 * k + 4 ≤ i) → μ' 57 i = μ 57 i) ∧ μ' 57 (4 * k) = v1 ∧ μ' 57 (4 * k + 1) = v2 ∧ μ' 57 (4 * k + 2) = v3 ∧ μ' 57 (4 * k + 3) = v4) else BdT μ T n (1, tF T n p) μ') := by
  unfold Rd_ends
  simp only [Nat.reduceAdd]
  refine ev_cl (ev_mono (gt_take h (v := 59) 59 rfl (by omega)) (fun _ μ1 h1 => ?_))
  by_cases c : tK T n p = 59
  · rw [if_pos c] at h1
    simp only [if_pos c]
    obtain ⟨hF, hI, hp, h8, ht⟩ := h1
    have k10 : μ1 48 10 = nI k := (hF.2 10 (by decide)).trans h10
    have hm : nI k * 4 = nI (4 * k) := by show nI k * nI 4 = _; rw [pk_mul, Nat.mul_comm]
    have a1 : nI (4 * k) + 1 = nI (4 * k + 1) := nI_add _ 1
    have a2 : nI (4 * k) + 2 = nI (4 * k + 2) := nI_add _ 2
    have a3 : nI (4 * k) + 3 = nI (4 * k + 3) := nI_add _ 3
    rw [gF_eq, h8, if_pos rfl, gF_eq, k10, if_neg (nI_pos (by omega)), gF_eq, k10, if_pos (show nI k < (16 : Int32) from nI_lt (b := 16) hk (by omega)), gF_eq, k10, hm, a1, a2, a3, stA_nI (by omega) (by omega), stA_nI (by omega) (by omega), stA_nI (by omega) (by omega), stA_nI (by omega) (by omega), gF_eq, up2_off (Or.inl (by decide)), up2_off (Or.inl (by decide)), up2_off (Or.inl (by decide)), up2_off (Or.inl (by decide)), k10, pF_eq, nI_1]
    refine ev_some ⟨⟨fun i hi1 hi2 => ?_, fun j hj => ?_⟩, rdI_of hI ?_ ?_, ?_, ?_, up2_same _ _ _ _, fun i hi => ?_, ?_, ?_, ?_, ?_⟩
    · rw [up2_ne hi1, up2_ne hi2, up2_ne hi2, up2_ne hi2, up2_ne hi2]; exact hF.1 i hi1
    · rw [up2_off (Or.inr (fun z => hj (by rw [z]; decide))), up2_off (Or.inl (by decide)), up2_off (Or.inl (by decide)), up2_off (Or.inl (by decide)), up2_off (Or.inl (by decide))]
      exact hF.2 j (fun z => hj (by
        simp only [List.mem_cons, List.not_mem_nil, or_false] at z ⊢
        omega))
    · rw [up2_off (Or.inr (by decide)), up2_off (Or.inl (by decide)), up2_off (Or.inl (by decide)), up2_off (Or.inl (by decide)), up2_off (Or.inl (by decide))]
    · rw [up2_ne (by decide), up2_ne (by decide), up2_ne (by decide), up2_ne (by decide), up2_ne (by decide)]
    · rw [up2_off (Or.inr (by decide)), up2_off (Or.inl (by decide)), up2_off (Or.inl (by decide)), up2_off (Or.inl (by decide)), up2_off (Or.inl (by decide))]; exact h8
    · obtain ⟨t1, t2, t3, t4⟩ := ht
      have q : ∀ j, j ≠ 10 → up2 (up2 (up2 (up2 (up2 μ1 57 (4 * k) v1) 57 (4 * k + 1) v2) 57 (4 * k + 2) v3) 57 (4 * k + 3) v4) 48 10 (nI (k + 1)) 48 j = μ1 48 j := fun j hj => by
        rw [up2_off (Or.inr hj), up2_off (Or.inl (by decide)), up2_off (Or.inl (by decide)), up2_off (Or.inl (by decide)), up2_off (Or.inl (by decide))]
      exact ⟨(q 3 (by decide)).trans t1, fun z => (q 4 (by decide)).trans (t2 z), (q 5 (by decide)).trans t3, (q 6 (by decide)).trans t4⟩
    · rw [up2_off (Or.inl (by decide)), up2_off (Or.inr (by omega)), up2_off (Or.inr (by omega)), up2_off (Or.inr (by omega)), up2_off (Or.inr (by omega)), hF.1 57 (by decide)]
    · rw [up2_off (Or.inl (by decide)), up2_off (Or.inr (by omega)), up2_off (Or.inr (by omega)), up2_off (Or.inr (by omega)), up2_same]
    · rw [up2_off (Or.inl (by decide)), up2_off (Or.inr (by omega)), up2_off (Or.inr (by omega)), up2_same]
    · rw [up2_off (Or.inl (by decide)), up2_off (Or.inr (by omega)), up2_same]
    · rw [up2_off (Or.inl (by decide)), up2_same]
  · rw [if_neg c] at h1
    simp only [if_neg c]
    rw [gF_eq, if_neg (bt_8 h1)]
    exact ev_some h1
theorem bt_ends (h : BdT μ0 T n e μ) (v1 v2 v3 v4 : Int32) : Ev (Rd_ends 48 v1 v2 v3 v4 μ) (fun _ μ' => BdT μ0 T n e μ') := by
  unfold Rd_ends
  refine ev_cl (ev_mono (bt_take h 59 (by decide)) (fun _ μ1 h1 => ?_))
  rw [gF_eq, if_neg (bt_8 h1)]
  exact ev_some h1
end Toks
