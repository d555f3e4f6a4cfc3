/-! L3: CALLS THAT MAKE CELLS -/
def EvA {ρ : Type} (o : Option (ρ × Mm)) (Q : ρ → Mu → Ly → Prop) : Prop := ∃ r μ' y', o = some (r, (μ', y')) ∧ Q r μ' y'
theorem eva_some {ρ : Type} {r : ρ} {μ : Mu} {y : Ly} {Q : ρ → Mu → Ly → Prop} (h : Q r μ y) : EvA (some (r, (μ, y))) Q := ⟨r, μ, y, rfl, h⟩
theorem eva_mono {ρ : Type} {o : Option (ρ × Mm)} {P Q : ρ → Mu → Ly → Prop} (h : EvA o P) (hq : ∀ r μ y, P r μ y → Q r μ y) : EvA o Q := by
  obtain ⟨r, μ, y, e, p⟩ := h
  exact ⟨r, μ, y, e, hq r μ y p⟩
theorem eva_cl {ρ ρ' : Type} {o : Option (ρ' × Mu)} {f : ρ' → Mu → Option (ρ × Mm)} {Q : ρ → Mu → Ly → Prop} (h : Ev o (fun r μ => EvA (f r μ) Q)) : EvA (cl o f) Q := by
  obtain ⟨r, μ, e, p⟩ := h
  rw [e]; exact p
theorem eva_ckP {ρ : Type} {P : Prop} {k : Option (ρ × Mm)} {Q : ρ → Mu → Ly → Prop} (hP : P) (h : EvA k Q) : EvA (ckP P k) Q := by
  rw [ckP_pos hP]; exact h
theorem eva_clm {ρ ρ' : Type} {y : Ly} {o : Option (ρ' × Mm)} {f : ρ' → Mu → Ly → Option (ρ × Mm)} {Q : ρ → Mu → Ly → Prop} (h : EvA o (fun r μ' y' => y.2 <+: y'.2 ∧ EvA (f r μ' y') Q)) : EvA (clm y o f) Q := by
  obtain ⟨r, μ, y', e, p, q⟩ := h
  rw [e]
  show EvA (ckP (y.2 <+: y'.2) (f r μ y')) Q
  rw [ckP_pos p]; exact q
theorem pre_get {y y' : Ly} (h : y.2 <+: y'.2) (k : Nat) (hk : k < mmN y) : y'.2[k]? = y.2[k]? := by
  obtain ⟨t, e⟩ := h
  rw [← e]; exact List.getElem?_append_left hk
theorem pre_N {y y' : Ly} (h : y.2 <+: y'.2) : mmN y ≤ mmN y' := h.length_le
theorem lt_of_get {y : Ly} {k : Nat} {q : Nat × Nat} (h : y.2[k]? = some q) : k < mmN y := (List.getElem?_eq_some_iff.mp h).1
theorem lyFg_ext {y y' : Ly} {a : Nat} (hN : a + 3 ≤ mmN y) (h2 : ∀ k, k < mmN y → y'.2[k]? = y.2[k]?) (h1 : y'.1 a = y.1 a) (h : LyFg y a) : LyFg y' a := by
  unfold LyFg at h ⊢
  rw [h1, h2 _ (by omega), h2 _ (by omega), h2 _ (by omega)]; exact h
theorem lySf_ext {y y' : Ly} (hN : 59 ≤ mmN y) (h2 : ∀ k, k < mmN y → y'.2[k]? = y.2[k]?) (h1 : ∀ k j, k < 58 → (k ≠ 0 ∨ j ≠ 1) → y'.1 k j = y.1 k j) (h : LySf y 0) : LySf y' 0 := by
  simp only [LySf, LyPt, LyFg, LyTx, LyLw, LyTd, LyRw, LyDy, LyTh, LyRd] at h ⊢
  simp (disch := omega) only [h1, h2]
  exact h
theorem lyPt_ext {y y' : Ly} {a : Nat} (hN : a + 38 ≤ mmN y) (h2 : ∀ k, k < mmN y → y'.2[k]? = y.2[k]?) (h1 : ∀ k, a ≤ k → k < a + 38 → y'.1 k = y.1 k) (h : LyPt y a) : LyPt y' a := by
  simp only [LyPt, LyFg, LyTx, LyLw, LyTd, LyRw] at h ⊢
  simp (disch := omega) only [h1, h2]
  exact h
theorem lyMo_ext {y y' : Ly} (hN : 98 < mmN y) (h2 : ∀ k, k < mmN y → y'.2[k]? = y.2[k]?) (h1 : y'.1 59 = y.1 59) (h : LyMo y 59) : LyMo y' 59 := by
  unfold LyMo at h ⊢
  rw [h1]
  simp (disch := omega) only [h2]
  exact h
theorem lyMo_N {y : Ly} (h : LyMo y 59) : 98 < mmN y := by
  unfold LyMo at h
  have h98 : y.2[59 + 39]? ≠ none := by
    intro z
    simp [z] at h
  rcases Nat.lt_or_ge 98 (mmN y) with c | c
  · exact c
  · exact absurd (List.getElem?_eq_none c) h98
/-! the rules -/
theorem eva_nw {ρ : Type} {μ : Mu} {y : Ly} {kd n q : Nat} {f : Nat → Mu → Ly → Option (ρ × Mm)} {Q : ρ → Mu → Ly → Prop} (hN : mmN y = q) (h : ∀ μ1 y1, y1.2 = y.2 ++ [(kd, n)] → (∀ k, k ≠ q → y1.1 k = y.1 k) → (∀ j, y1.1 q j = none) → (∀ k, k ≠ q → μ1 k = μ k) → (∀ j, μ1 q j = 0) → EvA (f q μ1 y1) Q) : EvA (nwK μ y kd n f) Q := by
  unfold nwK
  subst hN
  exact h _ _ rfl (fun k hk => funext (fun j => if_neg hk)) (fun j => if_pos rfl) (fun k hk => funext (fun j => if_neg hk)) (fun j => if_pos rfl)
theorem eva_pR {ρ : Type} {y : Ly} {a k x : Nat} {f : Ly → Option (ρ × Mm)} {Q : ρ → Mu → Ly → Prop} (h : ∀ y1 : Ly, y1.2 = y.2 → (∀ k, k ≠ a → y1.1 k = y.1 k) → (∀ j, j ≠ k → y1.1 a j = y.1 a j) → y1.1 a k = some x → EvA (f y1) Q) : EvA (pR y a k x f) Q :=
  h _ rfl (fun _ hk => funext (fun _ => if_neg (fun z => hk z.1))) (fun _ hj => if_neg (fun z => hj z.2)) (if_pos ⟨rfl, rfl⟩)
theorem eva_stR {ρ : Type} {y : Ly} {a n k x : Nat} {f : Ly → Option (ρ × Mm)} {Q : ρ → Mu → Ly → Prop} (hk : k < n) (hn : n < 2 ^ 31) (h : ∀ y1 : Ly, y1.2 = y.2 → (∀ k, k ≠ a → y1.1 k = y.1 k) → (∀ j, j ≠ k → y1.1 a j = y.1 a j) → y1.1 a k = some x → EvA (f y1) Q) : EvA (stR y a n (nI k) x f) Q := by
  have h1 : inB (nI k) n = true := by
    unfold inB
    rw [nI_clamp (by omega)]
    simp only [Bool.not_eq_true', Bool.or_eq_false_iff, decide_eq_false_iff_not]
    exact ⟨nI_pos (by omega), by omega⟩
  unfold stR
  rw [if_pos h1, nI_clamp (by omega)]
  exact h _ rfl (fun _ hk => funext (fun _ => if_neg (fun z => hk z.1))) (fun _ hj => if_neg (fun z => hj z.2)) (if_pos ⟨rfl, rfl⟩)
theorem eva_gR {ρ : Type} {y : Ly} {a k x : Nat} {fN : Option (ρ × Mm)} {fS : Nat → Option (ρ × Mm)} {Q : ρ → Mu → Ly → Prop} (hx : y.1 a k = some x) (h : EvA (fS x) Q) : EvA (gR y a k fN fS) Q := by
  unfold gR
  rw [hx]; exact h
theorem eva_gRn {ρ : Type} {y : Ly} {a k : Nat} {fN : Option (ρ × Mm)} {fS : Nat → Option (ρ × Mm)} {Q : ρ → Mu → Ly → Prop} (hx : y.1 a k = none) (h : EvA fN Q) : EvA (gR y a k fN fS) Q := by
  unfold gR
  rw [hx]; exact h
theorem ldR_nI {α : Type} {y : Ly} {a n k : Nat} {fN : Option α} {fS : Nat → Option α} (hk : k < n) (hn : n < 2 ^ 31) : ldR y a n (nI k) fN fS = (match y.1 a k with | none => fN | some x => fS x) := by
  have h1 : inB (nI k) n = true := by
    unfold inB
    rw [nI_clamp (by omega)]
    simp only [Bool.not_eq_true', Bool.or_eq_false_iff, decide_eq_false_iff_not]
    exact ⟨nI_pos (by omega), by omega⟩
  unfold ldR
  rw [if_pos h1, nI_clamp (by omega)]
  generalize y.1 a k = o
  cases o <;> rfl
theorem eva_pF {ρ : Type} {μ : Mu} {a k : Nat} {v : Int32} {f : Mu → Option (ρ × Mm)} {Q : ρ → Mu → Ly → Prop} (h : EvA (f (up2 μ a k v)) Q) : EvA (pF μ a k v f) Q := h
theorem eva_gF {ρ : Type} {μ : Mu} {a k : Nat} {v : Int32} {f : Int32 → Option (ρ × Mm)} {Q : ρ → Mu → Ly → Prop} (hv : μ a k = v) (h : EvA (f v) Q) : EvA (gF μ a k f) Q := by
  unfold gF
  rw [hv]; exact h
theorem eva_zg {ρ : Type} {v : Int32} {k : Option (ρ × Mm)} {Q : ρ → Mu → Ly → Prop} (hv : v = 0 ∨ v = 1) (h : EvA k Q) : EvA (zg v k) Q := by
  rw [zg_eq hv]; exact h
theorem app_N {y y1 : Ly} {kd n : Nat} (h : y1.2 = y.2 ++ [(kd, n)]) : mmN y1 = mmN y + 1 := by unfold mmN; rw [h, List.length_append]; rfl
theorem app_S {y y1 : Ly} {kd n : Nat} (h : y1.2 = y.2 ++ [(kd, n)]) : mmS y1 = mmS y + n := by
  unfold mmS
  rw [h, List.map_append, List.sum_append]
  simp
theorem app_pre {y y1 : Ly} {kd n : Nat} (h : y1.2 = y.2 ++ [(kd, n)]) : y.2 <+: y1.2 := h ▸ List.prefix_append _ _
theorem app_at {y y1 : Ly} {kd n q : Nat} (h : y1.2 = y.2 ++ [(kd, n)]) (hN : mmN y = q) : y1.2[q]? = some (kd, n) := by
  rw [h, ← hN]; exact List.getElem?_concat_length
theorem eq_N {y y1 : Ly} (h : y1.2 = y.2) : mmN y1 = mmN y := by unfold mmN; rw [h]
theorem eq_S {y y1 : Ly} (h : y1.2 = y.2) : mmS y1 = mmS y := by unfold mmS; rw [h]
theorem fg_init {μ : Mu} {y : Ly} {q : Nat} {v : Int32} (hN : mmN y = q + 1) (hq : y.2[q]? = some (3, 10)) (hv : v = 0 ∨ v = 1) : EvA (Fg_init q v μ y) (fun _ μ' y' => y.2 <+: y'.2 ∧ mmN y' = q + 3 ∧ mmS y' = mmS y + 128 ∧ LyFg y' q ∧ (∀ k, k < q → y'.1 k = y.1 k) ∧ (∀ k, k < q → μ' k = μ k) ∧ μ' q 0 = v ∧ (∀ j, j ≠ 0 → μ' q j = μ q j) ∧ (∀ j, μ' (q + 1) j = 0) ∧ ∀ j, j < 16 → μ' (q + 2) j = -1) := by
  unfold Fg_init
  refine eva_nw hN (fun μ1 y1 a1 a2 a3 a4 a5 => ?_)
  have h1 : y1.2[q]? = some (3, 10) := (pre_get (app_pre a1) q (by omega)).trans hq
  have n1 : mmN y1 = q + 2 := by rw [app_N a1, hN]
  refine eva_ckP h1 (eva_pR (fun y2 b1 b2 b3 b4 => ?_))
  have n2 : mmN y2 = q + 2 := (eq_N b1).trans n1
  refine eva_nw n2 (fun μ3 y3 c1 c2 c3 c4 c5 => ?_)
  have n3 : mmN y3 = q + 3 := by rw [app_N c1, n2]
  have h3 : y3.2[q]? = some (3, 10) := (pre_get (app_pre c1) q (by omega)).trans (by rw [b1]; exact h1)
  refine eva_ckP h3 (eva_pR (fun y4 d1 d2 d3 d4 => ?_))
  have h4 : y4.2[q]? = some (3, 10) := by rw [d1]; exact h3
  have h4b : y4.2[q + 2]? = some (0, 16) := by rw [d1]; exact app_at c1 n2
  have h4a : y4.2[q + 1]? = some (0, 112) := by rw [d1, pre_get (app_pre c1) (q + 1) (by omega), b1]; exact app_at a1 hN
  refine eva_ckP h4 (eva_zg hv (eva_pF (eva_ckP h4 (eva_gR d4 (eva_ckP h4b (eva_cl (ev_mono (ja_fill (r := q + 2) (n := 16) (by omega) (by omega) (-1) _) (fun _ μ' h => eva_some ⟨?_, ?_, ?_, ⟨h4, ⟨?_, h4a⟩, ⟨d4, h4b⟩, trivial⟩, fun k hk => ?_, fun k hk => ?_, ?_, fun j hj => ?_, fun j => ?_, h.1⟩))))))))
  · rw [d1]; exact (app_pre a1).trans (by rw [← b1]; exact app_pre c1)
  · rw [eq_N d1, n3]
  · rw [eq_S d1, app_S c1, eq_S b1, app_S a1]
  · rw [d3 1 (by decide), c2 q (by omega)]; exact b4
  · rw [d2 k (by omega), c2 k (by omega), b2 k (by omega), a2 k (by omega)]
  · rw [h.2 k (fun z => by
      simp only [List.mem_cons, List.not_mem_nil, or_false] at z; omega), up2_ne (by omega), c4 k (by omega), a4 k (by omega)]
  · rw [h.2 q (fun z => by
      simp only [List.mem_cons, List.not_mem_nil, or_false] at z; omega), up2_same]
  · rw [h.2 q (fun z => by
      simp only [List.mem_cons, List.not_mem_nil, or_false] at z; omega), up2_off (Or.inr hj), c4 q (by omega), a4 q (by omega)]
  · rw [h.2 (q + 1) (fun z => by
      simp only [List.mem_cons, List.not_mem_nil, or_false] at z; omega), up2_ne (by omega), c4 (q + 1) (by omega), a5 j]
