/-! L3: FIGURES: the reference's row of 118 numbers, the class's cells of Figures -/
def whoN (P : Nat) (N : Nat → Int32) (s : Nat) : Int32 := let k := fa_first (fun p => decide (N (102 + p) = nI (s + 1))) P; if k < P then nI k else -1
theorem whoN_no {P : Nat} {N : Nat → Int32} {s : Nat} (h : ∀ p, p < P → N (102 + p) ≠ nI (s + 1)) : whoN P N s = -1 := by
  unfold whoN
  have h1 := fa_first_yes (fun p => decide (N (102 + p) = nI (s + 1))) P
  simp only
  rw [if_neg]
  intro hk
  have := h1 hk
  simp only [decide_eq_true_eq] at this
  exact h _ hk this
theorem whoN_at {P : Nat} {N : Nat → Int32} {s k : Nat} (hk : k < P) (h : N (102 + k) = nI (s + 1)) (h2 : ∀ j, j < k → N (102 + j) ≠ nI (s + 1)) : whoN P N s = nI k := by
  unfold whoN
  have h1 := fa_first_yes (fun p => decide (N (102 + p) = nI (s + 1))) P
  have h3 := fa_first_no (fun p => decide (N (102 + p) = nI (s + 1))) P
  simp only
  generalize fa_first (fun p => decide (N (102 + p) = nI (s + 1))) P = q at h1 h3
  have e : q = k := by
    rcases Nat.lt_trichotomy q k with c | c | c
    · have := h1 (by omega)
      simp only [decide_eq_true_eq] at this
      exact absurd this (h2 q c)
    · exact c
    · have := h3 k c
      simp only [decide_eq_false_iff_not] at this
      exact absurd h this
  rw [e, if_pos hk]
theorem whoN_is {P : Nat} {N : Nat → Int32} {s : Nat} : (∃ p, p < P ∧ whoN P N s = nI p ∧ N (102 + p) = nI (s + 1) ∧ ∀ j, j < p → N (102 + j) ≠ nI (s + 1)) ∨ (whoN P N s = -1 ∧ ∀ p, p < P → N (102 + p) ≠ nI (s + 1)) := by
  by_cases h : ∃ p, p < P ∧ N (102 + p) = nI (s + 1)
  · obtain ⟨p, hp, he, hn⟩ := fb_first (p := fun p => N (102 + p) = nI (s + 1)) h
    exact Or.inl ⟨p, hp, whoN_at hp he hn, he, hn⟩
  · exact Or.inr ⟨whoN_no (fun p hp z => h ⟨p, hp, z⟩), fun p hp z => h ⟨p, hp, z⟩⟩
theorem whoN_congr {P : Nat} {N N' : Nat → Int32} (h : ∀ p, p < P → N' (102 + p) = N (102 + p)) (s : Nat) : whoN P N' s = whoN P N s := by
  rcases whoN_is (P := P) (N := N) (s := s) with ⟨p, hp, e, h1, h2⟩ | ⟨e, h1⟩
  · rw [e]; exact whoN_at hp (by rw [h p hp, h1]) (fun j hj => by rw [h j (by omega)]; exact h2 j hj)
  · rw [e]; exact whoN_no (fun p hp => by rw [h p hp]; exact h1 p hp)
/-- what holds of a row -/
def NOk (P : Nat) (N : Nat → Int32) : Prop := P ≤ 16 ∧ (∀ p, p < P → ∃ s, s ≤ 9999 ∧ N (22 + p) = nI s) ∧ (∀ p, p < P → N (86 + p) = 0 ∨ (N (86 + p) = 1 ∧ N (102 + p) = 0 ∧ N (22 + p) = 0)) ∧ (∀ p, p < P → ∃ t, t ≤ 16 ∧ N (102 + p) = nI t) ∧ (∀ p q, p < P → q < P → N (102 + p) = N (102 + q) → p = q ∨ N (102 + p) = 0) ∧ ∃ l, l ≤ 150 ∧ N 2 = nI l
/-- the cells c, c + 1, c + 2 of the class are the row -/
def FigC (P c : Nat) (th : Int32) (μ : Mu) (N : Nat → Int32) : Prop := P ≤ 16 ∧ μ c 0 = th ∧ μ c 3 = nI P ∧ (∀ j, 4 ≤ j → j < 10 → μ c j = N ((j + 5) % 6)) ∧ (∀ p f, p < P → f < 5 → μ (c + 1) (7 * p + f) = N (6 + 16 * f + p)) ∧ (∀ p, p < P → μ (c + 1) (7 * p + 5) = 1 - N (86 + p)) ∧ (∀ p, p < P → μ (c + 1) (7 * p + 6) = N (102 + p) - 1) ∧ (∀ s, s < 16 → μ (c + 2) s = whoN P N s) ∧ ∀ p f, P ≤ p → p < 16 → 1 ≤ f → f < 5 → μ (c + 1) (7 * p + f) = 0
theorem figC_congr {P c : Nat} {th : Int32} {μ μ' : Mu} {N : Nat → Int32} (h0 : μ' c = μ c) (h1 : μ' (c + 1) = μ (c + 1)) (h2 : μ' (c + 2) = μ (c + 2)) (h : FigC P c th μ N) : FigC P c th μ' N := by
  unfold FigC at *
  rw [h0, h1, h2]; exact h
theorem figC_row {P c : Nat} {th : Int32} {μ : Mu} {N N' : Nat → Int32} (e : ∀ k, k < 118 → N' k = N k) (h : FigC P c th μ N) : FigC P c th μ N' := by
  obtain ⟨h1, h2, h3, h4, h5, h6, h7, h8, h9⟩ := h
  refine ⟨h1, h2, h3, fun j a b => ?_, fun p f a b => ?_, fun p a => ?_, fun p a => ?_, fun s a => ?_, h9⟩
  · rw [e _ (by omega)]; exact h4 j a b
  · rw [e _ (by omega)]; exact h5 p f a b
  · rw [e _ (by omega)]; exact h6 p a
  · rw [e _ (by omega)]; exact h7 p a
  · rw [whoN_congr (fun p hp => e _ (by omega))]; exact h8 s a
theorem figC_sc {P c : Nat} {th : Int32} {μ : Mu} {N : Nat → Int32} (h : FigC P c th μ N) (j : Nat) (hj : 4 ≤ j) (hj2 : j < 10) (v : Int32) : FigC P c th (up2 μ c j v) (upd N ((j + 5) % 6) v) := by
  obtain ⟨h1, h2, h3, h4, h5, h6, h7, h8, h9⟩ := h
  refine ⟨h1, ?_, ?_, fun i a b => ?_, fun p f a b => ?_, fun p a => ?_, fun p a => ?_, fun s a => ?_, fun p f a b x y => by rw [up2_off (Or.inl (by omega))]; exact h9 p f a b x y⟩
  · rw [up2_off (Or.inr (by omega)), h2]
  · rw [up2_off (Or.inr (by omega)), h3]
  · by_cases e : i = j
    · subst e; rw [up2_same, fu_same]
    · rw [up2_off (Or.inr e), fu_off (by omega), h4 i a b]
  · rw [up2_off (Or.inl (by omega)), fu_off (by omega), h5 p f a b]
  · rw [up2_off (Or.inl (by omega)), fu_off (by omega), h6 p a]
  · rw [up2_off (Or.inl (by omega)), fu_off (by omega), h7 p a]
  · rw [up2_off (Or.inl (by omega)), whoN_congr (fun p hp => fu_off (by omega)), h8 s a]
theorem figC_put {P c : Nat} {th : Int32} {μ : Mu} {N : Nat → Int32} (h : FigC P c th μ N) (p f : Nat) (hp : p < P) (hf : f < 5) (v : Int32) : FigC P c th (up2 μ (c + 1) (7 * p + f) v) (upd N (6 + 16 * f + p) v) := by
  obtain ⟨h1, h2, h3, h4, h5, h6, h7, h8, h9⟩ := h
  refine ⟨h1, ?_, ?_, fun i a b => ?_, fun q g a b => ?_, fun q a => ?_, fun q a => ?_, fun s a => ?_, fun q g a b x y => by rw [up2_off (Or.inr (by omega))]; exact h9 q g a b x y⟩
  · rw [up2_off (Or.inl (by omega)), h2]
  · rw [up2_off (Or.inl (by omega)), h3]
  · rw [up2_off (Or.inl (by omega)), fu_off (by omega), h4 i a b]
  · by_cases e : q = p ∧ g = f
    · obtain ⟨rfl, rfl⟩ := e; rw [up2_same, fu_same]
    · rw [up2_off (Or.inr (by omega)), fu_off (by omega), h5 q g a b]
  · rw [up2_off (Or.inr (by omega)), fu_off (by omega), h6 q a]
  · rw [up2_off (Or.inr (by omega)), fu_off (by omega), h7 q a]
  · rw [up2_off (Or.inl (by omega)), whoN_congr (fun p hp => fu_off (by omega)), h8 s a]
theorem figC_dead {P c : Nat} {th : Int32} {μ : Mu} {N : Nat → Int32} (h : FigC P c th μ N) (p : Nat) (hp : p < P) (v : Int32) : FigC P c th (up2 μ (c + 1) (7 * p + 5) (1 - v)) (upd N (86 + p) v) := by
  obtain ⟨h1, h2, h3, h4, h5, h6, h7, h8, h9⟩ := h
  refine ⟨h1, ?_, ?_, fun i a b => ?_, fun q g a b => ?_, fun q a => ?_, fun q a => ?_, fun s a => ?_, fun q g a b x y => by rw [up2_off (Or.inr (by omega))]; exact h9 q g a b x y⟩
  · rw [up2_off (Or.inl (by omega)), h2]
  · rw [up2_off (Or.inl (by omega)), h3]
  · rw [up2_off (Or.inl (by omega)), fu_off (by omega), h4 i a b]
  · rw [up2_off (Or.inr (by omega)), fu_off (by omega), h5 q g a b]
  · by_cases e : q = p
    · subst e; rw [up2_same, fu_same]
    · rw [up2_off (Or.inr (by omega)), fu_off (by omega), h6 q a]
  · rw [up2_off (Or.inr (by omega)), fu_off (by omega), h7 q a]
  · rw [up2_off (Or.inl (by omega)), whoN_congr (fun p hp => fu_off (by omega)), h8 s a]
theorem ix7 (p f : Nat) : nI p * 7 + nI f = nI (7 * p + f) := by
  rw [show (7 : Int32) = nI 7 from rfl, pk_mul, nI_add]; congr 1; omega
theorem fg_get {P c : Nat} {th : Int32} {μ : Mu} {N : Nat → Int32} (h : FigC P c th μ N) (p f : Nat) (hp : p < P) (hf : f < 7) : Fg_get c (nI p) (nI f) μ = some (μ (c + 1) (7 * p + f), μ) := by
  obtain ⟨h1, h2, h3, h4, h5, h6, h7, h8, h9⟩ := h
  unfold Fg_get Fg_get_27 Fg_get_26 Fg_get_27
  simp (disch := omega) only [gF_eq, h3, lt0_nI, nI_leI, li_le, if_neg, if_false, ix7, ldA_nI]
  simp
theorem fg_get_no {P c : Nat} {th : Int32} {μ : Mu} {N : Nat → Int32} (h : FigC P c th μ N) (v f : Int32) (hv : v < 0 ∨ nI P ≤ v) : Fg_get c v f μ = some (-1, μ) := by
  obtain ⟨h1, h2, h3, h4, h5, h6, h7, h8, h9⟩ := h
  unfold Fg_get Fg_get_26 Fg_get_27
  rw [gF_eq, h3]
  rcases hv with q | q
  · rw [if_pos q]; rfl
  · by_cases z : v < 0
    · rw [if_pos z]; rfl
    · rw [if_neg z, if_pos q]; rfl
theorem fg_g0 {P c : Nat} {th : Int32} {μ : Mu} {N : Nat → Int32} (h : FigC P c th μ N) {p : Nat} (hp : p < P) : Fg_get c (nI p) 0 μ = some (N (6 + p), μ) := (fg_get h p 0 hp (by omega)).trans (by rw [h.2.2.2.2.1 p 0 hp (by omega)])
theorem fg_g1 {P c : Nat} {th : Int32} {μ : Mu} {N : Nat → Int32} (h : FigC P c th μ N) {p : Nat} (hp : p < P) : Fg_get c (nI p) 1 μ = some (N (22 + p), μ) := (fg_get h p 1 hp (by omega)).trans (by rw [h.2.2.2.2.1 p 1 hp (by omega)])
theorem fg_g2 {P c : Nat} {th : Int32} {μ : Mu} {N : Nat → Int32} (h : FigC P c th μ N) {p : Nat} (hp : p < P) : Fg_get c (nI p) 2 μ = some (N (38 + p), μ) := (fg_get h p 2 hp (by omega)).trans (by rw [h.2.2.2.2.1 p 2 hp (by omega)])
theorem fg_g3 {P c : Nat} {th : Int32} {μ : Mu} {N : Nat → Int32} (h : FigC P c th μ N) {p : Nat} (hp : p < P) : Fg_get c (nI p) 3 μ = some (N (54 + p), μ) := (fg_get h p 3 hp (by omega)).trans (by rw [h.2.2.2.2.1 p 3 hp (by omega)])
theorem fg_g4 {P c : Nat} {th : Int32} {μ : Mu} {N : Nat → Int32} (h : FigC P c th μ N) {p : Nat} (hp : p < P) : Fg_get c (nI p) 4 μ = some (N (70 + p), μ) := (fg_get h p 4 hp (by omega)).trans (by rw [h.2.2.2.2.1 p 4 hp (by omega)])
theorem fg_g5 {P c : Nat} {th : Int32} {μ : Mu} {N : Nat → Int32} (h : FigC P c th μ N) {p : Nat} (hp : p < P) : Fg_get c (nI p) 5 μ = some (1 - N (86 + p), μ) := (fg_get h p 5 hp (by omega)).trans (by rw [h.2.2.2.2.2.1 p hp])
theorem fg_g6 {P c : Nat} {th : Int32} {μ : Mu} {N : Nat → Int32} (h : FigC P c th μ N) {p : Nat} (hp : p < P) : Fg_get c (nI p) 6 μ = some (N (102 + p) - 1, μ) := (fg_get h p 6 hp (by omega)).trans (by rw [h.2.2.2.2.2.2.1 p hp])
theorem fg_put {P c : Nat} {th : Int32} {μ : Mu} {N : Nat → Int32} (h : FigC P c th μ N) (p f : Nat) (hp : p < P) (hf : f < 7) (v : Int32) : Fg_put c (nI p) (nI f) v μ = some ((), up2 μ (c + 1) (7 * p + f) v) := by
  obtain ⟨h1, h2, h3, h4, h5, h6, h7, h8, h9⟩ := h
  unfold Fg_put
  simp (disch := omega) only [gF_eq, h3, lt0_nI, nI_leI, li_le, if_neg, if_false, ix7, stA_nI]
theorem fg_put_no {P c : Nat} {th : Int32} {μ : Mu} {N : Nat → Int32} (h : FigC P c th μ N) (v f x : Int32) (hv : v < 0 ∨ nI P ≤ v) : Fg_put c v f x μ = some ((), μ) := by
  obtain ⟨h1, h2, h3, h4, h5, h6, h7, h8, h9⟩ := h
  unfold Fg_put
  rw [gF_eq, h3]
  rcases hv with q | q
  · rw [if_pos q]
  · by_cases z : v < 0
    · rw [if_pos z]
    · rw [if_neg z, if_pos q]
/-- PERSON's number, or none such -/
theorem person_or {P : Nat} (hP : P ≤ 16) (v : Int32) : (v < 0 ∨ nI P ≤ v) ∨ ∃ p, p < P ∧ v = nI p := by
  rcases pk_ix v (n := P) (by omega) with h | h | h
  · exact Or.inl (Or.inl h)
  · exact Or.inl (Or.inr h)
  · exact Or.inr h
theorem fg_isAlive {P c : Nat} {th : Int32} {μ : Mu} {N : Nat → Int32} (h : FigC P c th μ N) {p : Nat} (hp : p < P) : Fg_isAlive c (nI p) μ = some (if N (86 + p) = 0 then 1 else 0, μ) := by
  unfold Fg_isAlive
  rw [fg_g5 h hp, cl_eq]
  by_cases e : N (86 + p) = 0
  · rw [if_pos e, e, if_pos (by decide)]
  · rw [if_neg e, if_neg]
    intro z
    exact e ((one_sub1 _).mp z)
theorem fg_isAlive_no {P c : Nat} {th : Int32} {μ : Mu} {N : Nat → Int32} (h : FigC P c th μ N) {v : Int32} (hv : v < 0 ∨ nI P ≤ v) : Fg_isAlive c v μ = some (0, μ) := by
  unfold Fg_isAlive
  rw [fg_get_no h v 5 hv, cl_eq, if_neg (by decide)]
theorem fg_isPerson {P c : Nat} {th : Int32} {μ : Mu} {N : Nat → Int32} (h : FigC P c th μ N) (v : Int32) : Fg_isPerson c v μ = some (if v < 0 ∨ nI P ≤ v then 0 else 1, μ) := by
  obtain ⟨h1, h2, h3, h4, h5, h6, h7, h8, h9⟩ := h
  unfold Fg_isPerson
  rw [gF_eq, h3]
  by_cases q : v < 0
  · rw [if_pos q, if_pos (Or.inl q)]
  · by_cases z : nI P ≤ v
    · rw [if_neg q, if_pos z, if_pos (Or.inr z)]
    · rw [if_neg q, if_neg z, if_neg (fun w => w.elim q z)]
theorem fg_holder {P c : Nat} {th : Int32} {μ : Mu} {N : Nat → Int32} (h : FigC P c th μ N) {s : Nat} (hs : s < 16) : Fg_holder c (nI s) μ = some (whoN P N s, μ) := by
  obtain ⟨h1, h2, h3, h4, h5, h6, h7, h8, h9⟩ := h
  unfold Fg_holder
  simp (disch := omega) only [lt0_nI, li_le, if_neg, if_false, ldA_nI, h8 s hs]
theorem fg_holder_no {c : Nat} {μ : Mu} {v : Int32} (hv : v < 0 ∨ 16 ≤ v) : Fg_holder c v μ = some (-1, μ) := by
  unfold Fg_holder
  rcases hv with q | q
  · rw [if_pos q]
  · by_cases z : v < 0
    · rw [if_pos z]
    · rw [if_neg z, if_pos q]
/-! the reference -/
theorem mo_seatOf {P : Nat} {μ : Mu} (hP : P ≤ 16) {p : Nat} (hp : p < P) : Mo_seatOf 59 (nI p) μ = some (μ 60 (102 + p) - 1, μ) := by
  unfold Mo_seatOf
  simp (disch := omega) only [li_add, ldA_nI]
theorem mo_isAlive {P : Nat} {μ : Mu} (hP : P ≤ 16) {p : Nat} (hp : p < P) : Mo_isAlive 59 (nI p) μ = some (if μ 60 (86 + p) = 0 then 1 else 0, μ) := by
  unfold Mo_isAlive
  simp (disch := omega) only [li_add, ldA_nI]
  split <;> rfl
theorem mo_isPerson {P : Nat} {μ : Mu} (h6 : μ 59 6 = nI P) (v : Int32) : Mo_isPerson 59 v μ = some (if v < 0 ∨ nI P ≤ v then 0 else 1, μ) := by
  unfold Mo_isPerson
  rw [gF_eq, h6]
  by_cases q : v < 0
  · rw [if_pos q, if_pos (Or.inl q)]
  · by_cases z : nI P ≤ v
    · rw [if_neg q, if_pos z, if_pos (Or.inr z)]
    · rw [if_neg q, if_neg z, if_neg (fun w => w.elim q z)]
theorem mo_whoHas {P : Nat} {μ : Mu} (h6 : μ 59 6 = nI P) (hP : P ≤ 16) (s : Nat) (hs : s < 1000) : Mo_whoHas 59 (nI s) μ = some (whoN P (μ 60) s, μ) := by
  unfold Mo_whoHas Mo_whoHas_2
  refine lp_fu (F := fun kb => Mo_whoHas_2b 59 kb (nI s)) (z := fun _ _ => none) P (fun k A => (∀ j, j < k → μ 60 (102 + j) ≠ nI (s + 1)) → A (nI k) μ = some (whoN P (μ 60) s, μ)) (by omega) ?_ ?_ 0 (by omega) (fun j hj => absurd hj (by omega))
  · intro A hj
    show Mo_whoHas_2b 59 A (nI s) (nI P) μ = _
    unfold Mo_whoHas_2b
    rw [gF_eq, h6, if_pos (nI_le (Nat.le_refl _) (by omega)), whoN_no hj]
  · intro k A hk ih hj
    show Mo_whoHas_2b 59 A (nI s) (nI k) μ = _
    unfold Mo_whoHas_2b
    rw [gF_eq, h6, if_neg (nI_ge hk (by omega)), mo_seatOf hP hk, cl_eq, nI_1]
    by_cases e : μ 60 (102 + k) = nI (s + 1)
    · rw [if_pos ((sub1_eq _ _).mpr (by rw [e, nI_1])), whoN_at hk e hj]
    · rw [if_neg (fun z => e (by rw [(sub1_eq _ _).mp z, nI_1]))]
      refine ih (fun j h => ?_)
      by_cases z : j = k
      · rw [z]; exact e
      · exact hj j (by omega)
theorem mo_besideOf {P : Nat} {μ : Mu} (h6 : μ 59 6 = nI P) (hP : P ≤ 16) {p t : Nat} (hp : p < P) (ht : t ≤ 16) (hs : μ 60 (102 + p) = nI t) : Mo_besideOf 59 (nI p) μ = some (if t = 0 then -1 else whoN P (μ 60) t, μ) := by
  unfold Mo_besideOf
  simp only [mo_seatOf hP hp, cl_eq, hs]
  by_cases e : t = 0
  · subst e; rw [if_pos (by decide), if_pos rfl]
  · have e1 : nI t - 1 = nI (t - 1) := by obtain ⟨k, rfl⟩ : ∃ k, t = k + 1 := ⟨t - 1, by omega⟩; rw [nI_pred]; rfl
    rw [if_neg e, e1, if_neg (by rw [n1_ne (by omega)]; exact id), nI_1, show t - 1 + 1 = t by omega, mo_whoHas h6 hP t (by omega), cl_eq]
