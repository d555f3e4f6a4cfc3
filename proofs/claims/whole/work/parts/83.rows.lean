/-! L3: ROW, DATE -/
def RowsM (ν : Mu) (f s : List Int32) : Prop := RwM ν 85 0 86 10 f ∧ ν 85 1 = nI s.length ∧ s.length ≤ 10 ∧ ∀ j, j < s.length → ν 86 (10 + j) = s.getD j 0
theorem rowsM_congr {ν ν' : Mu} {f s : List Int32} (h1 : ν' 85 = ν 85) (h2 : ν' 86 = ν 86) (h : RowsM ν f s) : RowsM ν' f s := by
  unfold RowsM at *
  refine ⟨rwM_congr (by rw [h1]) h2 h.1, by rw [h1]; exact h.2.1, h.2.2.1, fun j hj => by rw [h2]; exact h.2.2.2 j hj⟩
def roS (f s : List Int32) (v w : Int32) : List Int32 × List Int32 × Int32 := if v = 0 then ((tl0 0 9 10 f w).1, s, (tl0 0 9 10 f w).2) else if v = 1 then (f, (tl0 0 9 10 s w).1, (tl0 0 9 10 s w).2) else (f, s, -1)
theorem c_row {μ : Mu} {f s : List Int32} (hf : RwC μ 25 10 0 9 f) (hs : RwC μ 27 10 0 9 s) (v w : Int32) : Ev (Sf_row 0 v w μ) (fun r μ' => r = (roS f s v w).2.2 ∧ RwC μ' 25 10 0 9 (roS f s v w).1 ∧ RwC μ' 27 10 0 9 (roS f s v w).2.1) := by
  unfold Sf_row roS
  simp only [Nat.reduceAdd]
  by_cases c : v = 0
  · rw [if_pos c, if_pos c]
    obtain ⟨μ1, e, h⟩ := rw_tell hf w
    have fr1 := fr_Rw_tell (P := fun k => k = 25 ∨ k = 26) (a := 25) (n := 10) (v1 := w) (μ := μ) (Or.inl rfl) (Or.inr rfl) _ _ e
    rw [e, cl_eq]
    exact ev_some ⟨rfl, h, rwC_congr (fr1 27 (by omega)) (fr1 28 (by omega)) hs⟩
  rw [if_neg c, if_neg c]
  by_cases d : v = 1
  · rw [if_pos d, if_pos d]
    obtain ⟨μ1, e, h⟩ := rw_tell hs w
    have fr1 := fr_Rw_tell (P := fun k => k = 27 ∨ k = 28) (a := 27) (n := 10) (v1 := w) (μ := μ) (Or.inl rfl) (Or.inr rfl) _ _ e
    rw [e, cl_eq]
    exact ev_some ⟨rfl, rwC_congr (fr1 25 (by omega)) (fr1 26 (by omega)) hf, h⟩
  · rw [if_neg d, if_neg d]; exact ev_some ⟨rfl, hf, hs⟩
theorem m_row1 {ν : Mu} {f s : List Int32} (h : RowsM ν f s) (w : Int32) : Ev (Mo_row 59 1 w ν) (fun r ν' => r = (tl0 0 9 10 s w).2 ∧ RowsM ν' f (tl0 0 9 10 s w).1) := by
  have h' : RowsM (up2 ν 59 0 0) f s := rowsM_congr (up2_ne (by omega)) (up2_ne (by omega)) h
  unfold Mo_row tl0
  rw [pF_eq]
  generalize up2 ν 59 0 0 = ν1 at h'
  obtain ⟨h1, h2, h3, h4⟩ := id h'
  have f10 := h1.2.1
  simp only [Nat.reduceAdd]
  rw [isIn_eq, cl_eq, if_neg (show ¬ ((1 : Int32) < 0 ∨ (1 : Int32) < 1) by decide), if_neg (show ¬ (1 : Int32) = 0 by decide)]
  have keepf : ∀ (μ2 : Mu), μ2 85 0 = ν1 85 0 → (∀ j, j < 10 → μ2 86 j = ν1 86 j) → RwM μ2 85 0 86 10 f := fun μ2 e1 e2 => ⟨e1.trans h1.1, f10, h1.2.2.1, fun j hj => (e2 j (by omega)).trans (h1.2.2.2 j hj)⟩
  by_cases c : w = -1
  · rw [if_pos c, if_pos c, stA_at 1 (show (1 : Int32) = nI 1 from rfl) (by omega) (by omega)]
    exact ev_some ⟨rfl, keepf _ (up2_off (Or.inr (by omega))) (fun j _ => up2_off (Or.inl (by omega))), by rw [up2_same]; rfl, by show 0 ≤ 10; omega, fun j hj => absurd hj (by show ¬ j < 0; omega)⟩
  rw [if_neg c, if_neg c, isIn_eq, cl_eq]
  by_cases c1 : w < 0 ∨ 9 < w
  · rw [if_pos c1, if_pos rfl, tl_in (by rcases c1 with z | z; exact Or.inl z; exact Or.inr (Or.inl z))]
    exact ev_some ⟨rfl, h'⟩
  rw [if_neg c1, if_neg (show ¬ (1 : Int32) = 0 by decide), ldA_at 1 (show (1 : Int32) = nI 1 from rfl) (by omega) (by omega), h2]
  by_cases c2 : 10 ≤ s.length
  · rw [if_pos (show nI s.length = 10 by rw [show s.length = 10 by omega]; rfl), tl_in (Or.inr (Or.inr c2))]
    exact ev_some ⟨rfl, h'⟩
  rw [if_neg (fun z : nI s.length = 10 => c2 (by have := (nI_eq (a := s.length) (b := 10) (by omega) (by omega)).mp z; omega)), tl_out c1 c2, ldA_at 1 (show (1 : Int32) = nI 1 from rfl) (by omega) (by omega), h2]
  rw [stA_at (10 + s.length) (by show (10 : Int32) * 1 + nI s.length = _; rw [show (10 : Int32) * 1 = nI 10 by decide, nI_add]) (by omega) (by omega), ldA_at 1 (show (1 : Int32) = nI 1 from rfl) (by omega) (by omega), up2_off (Or.inl (by omega)), h2, stA_at 1 (show (1 : Int32) = nI 1 from rfl) (by omega) (by omega), ldA_at 1 (show (1 : Int32) = nI 1 from rfl) (by omega) (by omega), up2_same]
  refine ev_some ⟨nI_add s.length 1, keepf _ (by rw [up2_off (Or.inr (by omega)), up2_off (Or.inl (by omega))]) (fun j hj => by rw [up2_off (Or.inl (by omega)), up2_off (Or.inr (by omega))]), ?_, ?_, fun j hj => ?_⟩
  · rw [up2_same, List.length_append]; exact nI_add s.length 1
  · show (s ++ [w]).length ≤ 10; rw [List.length_append]; show s.length + 1 ≤ 10; omega
  · have hj' : j < s.length + 1 := by have : j < (s ++ [w]).length := hj; rw [List.length_append] at this; exact this
    show up2 _ 85 1 _ 86 (10 + j) = (s ++ [w]).getD j 0
    rw [up2_off (Or.inl (by omega)), pt_len]
    by_cases y : j < s.length
    · rw [if_pos y, up2_off (Or.inr (by omega))]; exact h4 j y
    · rw [if_neg y, if_pos (show j = s.length by omega), show j = s.length by omega, up2_same]
theorem m_row {ν : Mu} {f s : List Int32} (h : RowsM ν f s) (v w : Int32) : Ev (Mo_row 59 v w ν) (fun r ν' => r = (roS f s v w).2.2 ∧ RowsM ν' (roS f s v w).1 (roS f s v w).2.1) := by
  unfold roS
  by_cases c : v = 0
  · subst c
    rw [if_pos rfl]
    obtain ⟨μ1, e, h1, h2, h3⟩ := mo_row0 (a := 59) h.1 w
    exact ⟨_, _, e, rfl, h1, h2.trans h.2.1, h.2.2.1, fun j hj => (h3 (10 + j) (by omega)).trans (h.2.2.2 j hj)⟩
  rw [if_neg c]
  by_cases d : v = 1
  · subst d
    rw [if_pos rfl]; exact m_row1 h w
  · rw [if_neg d]
    unfold Mo_row
    rw [pF_eq, isIn_eq, cl_eq, if_pos (show v < 0 ∨ 1 < v by
      refine Classical.byContradiction (fun z => ?_)
      obtain ⟨k, k1, k2, rfl⟩ := nI_rng (lo := 0) (n := 1) (by omega) (by omega) (fun q => z (Or.inl q)) (fun q => z (Or.inr q))
      rcases (show k = 0 ∨ k = 1 by omega) with rfl | rfl
      · exact c rfl
      · exact d rfl), if_pos rfl]
    exact ev_some ⟨rfl, rowsM_congr (up2_ne (by omega)) (up2_ne (by omega)) h⟩
theorem date_both {μ ν : Mu} {t : Int32} (hc : μ 18 0 = t) (hm : ν 59 41 = t) (y m d : Int32) : ∃ r t', Ev (Sf_date 0 y m d μ) (fun x μ' => x = r ∧ μ' 18 0 = t' ∧ Off [18] μ μ') ∧ Ev (Mo_date 59 y m d ν) (fun x ν' => x = r ∧ ν' 59 41 = t') := by
  unfold Sf_date Mo_date
  simp only [Nat.reduceAdd]
  rw [pF_eq]
  have hm1 : (up2 ν 59 0 0) 59 41 = t := by rw [up2_off (Or.inr (by omega))]; exact hm
  generalize up2 ν 59 0 0 = ν1 at hm1
  rcases is_both μ ν1 y m d with ⟨ok, e1, e2⟩ | ⟨-, e1, e2⟩
  · obtain ⟨n, -, e3, e4⟩ := dn_both μ ν1 ok
    rw [e1, cl_eq, e2, cl_eq, if_neg (show ¬ (1 : Int32) = 0 by decide), if_neg (show ¬ (1 : Int32) = 0 by decide), e3, cl_eq, e4, cl_eq, pF_eq, pF_eq]
    exact ⟨1, nI n, ev_some ⟨rfl, up2_same _ _ _ _, off_up List.mem_cons_self⟩, ev_some ⟨rfl, up2_same _ _ _ _⟩⟩
  · rw [e1, cl_eq, e2, cl_eq, if_pos rfl, if_pos rfl]
    exact ⟨0, t, ev_some ⟨rfl, hc, off_refl _ _⟩, ev_some ⟨rfl, hm1⟩⟩
