/-! L3: NO FAULT: ITS PLACE IS AS IT WAS (by program wip/whole/mk98w.py, out of 41) -/
def Fz {ρ : Type} (μ : Mu) (o : Option (ρ × Mu)) : Prop := ∀ r μ', o = some (r, μ') → μ' 48 8 = 0 → μ 48 8 = 0 ∧ μ' 48 9 = μ 48 9
section Fz0
variable {ρ ρ' : Type} {μ : Mu}
theorem fz_some {r : ρ} : Fz μ (some (r, μ)) := fun _ _ h k => by
  cases h; exact ⟨k, rfl⟩
theorem fz_none : Fz (ρ := ρ) μ none := fun _ _ h => by cases h
theorem fz_of {o : Option (ρ × Mu)} (h : Fr (fun k => k ≠ 48) μ o) : Fz μ o := fun r μ' e z => by
  have := h r μ' e 48 (fun k => k rfl)
  rw [this] at z ⊢; exact ⟨z, rfl⟩
theorem fz_ite {c : Prop} {d : Decidable c} {A B : Option (ρ × Mu)} (h1 : Fz μ A) (h2 : Fz μ B) : Fz μ (@ite _ c d A B) := by
  intro r μ' h
  by_cases hc : c
  · rw [if_pos hc] at h; exact h1 r μ' h
  · rw [if_neg hc] at h; exact h2 r μ' h
theorem fz_gF {a k : Nat} {f : Int32 → Option (ρ × Mu)} (h : ∀ x, Fz μ (f x)) : Fz μ (gF μ a k f) := h _
theorem fz_up {a k : Nat} {v : Int32} {o : Option (ρ × Mu)} (ha : a ≠ 48 ∨ (k ≠ 8 ∧ k ≠ 9)) (h : Fz (up2 μ a k v) o) : Fz μ o := fun r μ' e z => by
  have := h r μ' e z
  rw [up2_off (by omega), up2_off (by omega)] at this; exact this
theorem fz_pF {a k : Nat} {v : Int32} {f : Mu → Option (ρ × Mu)} (ha : a ≠ 48 ∨ (k ≠ 8 ∧ k ≠ 9)) (h : ∀ μ1, Fz μ1 (f μ1)) : Fz μ (pF μ a k v f) := fz_up ha (h _)
theorem fz_ldA {a n : Nat} {i : Int32} {f : Int32 → Option (ρ × Mu)} (h : ∀ x, Fz μ (f x)) : Fz μ (ldA μ a n i f) := by
  unfold ldA; split
  · exact h _
  · exact fz_none
theorem fz_stA {a n : Nat} {i v : Int32} {f : Mu → Option (ρ × Mu)} (ha : a ≠ 48) (h : ∀ μ1, Fz μ1 (f μ1)) : Fz μ (stA μ a n i v f) := by
  unfold stA; split
  · exact fz_up (Or.inl ha) (h _)
  · exact fz_none
theorem fz_nz {y : Int32} {o : Option (ρ × Mu)} (h : Fz μ o) : Fz μ (nz y o) := by
  unfold nz; split
  · exact fz_none
  · exact h
theorem fz_zg {y : Int32} {o : Option (ρ × Mu)} (h : Fz μ o) : Fz μ (zg y o) := by
  unfold zg; split
  · exact h
  · exact fz_none
theorem fz_cl {oc : Option (ρ' × Mu)} {f : ρ' → Mu → Option (ρ × Mu)} (h1 : Fz μ oc) (h2 : ∀ r μ1, Fz μ1 (f r μ1)) : Fz μ (cl oc f) := by
  intro r μ' e z
  cases hoc : oc with
  | none => rw [hoc] at e; cases e
  | some q =>
    rw [hoc] at e
    have g2 := h2 q.1 q.2 r μ' e z
    have g1 := h1 q.1 q.2 hoc g2.1
    exact ⟨g1.1, g2.2.trans g1.2⟩
end Fz0
theorem fz_Rd_fail_20 {μ : Mu} : Fz μ (Rd_fail_20 48 μ) := by
  unfold Rd_fail_20
  refine fz_pF (by decide) (fun _ => ?_)
  exact fz_some
theorem fz_Rd_fail {v1 : Int32} {μ : Mu} (hv : v1 ≠ 0) : Fz μ (Rd_fail 48 v1 μ) := by
  unfold Rd_fail
  rw [gF_eq]
  by_cases c : μ 48 8 = 0
  · rw [if_pos c, pF_eq, gF_eq, pF_eq]
    intro r μ' e z
    have := fz_Rd_fail_20 r μ' e z
    rw [up2_off (Or.inr (by decide)), up2_same] at this
    exact absurd this.1 hv
  · rw [if_neg c]
    exact fz_Rd_fail_20
theorem fz_Rd_isDigit {v0 : Int32} {μ : Mu}   : Fz μ (Rd_isDigit v0 μ) := by
  unfold Rd_isDigit
  refine fz_ite ?_ ?_
  · skip
    exact fz_some
  · skip
    refine fz_ite ?_ ?_
    · skip
      exact fz_some
    · skip
      exact fz_some
theorem fz_Rd_isLetter_24  {μ : Mu}   : Fz μ (Rd_isLetter_24 μ) := by
  unfold Rd_isLetter_24
  exact fz_some
theorem fz_Rd_isLetter_12 {v0 : Int32} {μ : Mu}   : Fz μ (Rd_isLetter_12 v0 μ) := by
  unfold Rd_isLetter_12
  refine fz_ite ?_ ?_
  · skip
    exact fz_some
  · skip
    refine fz_ite ?_ ?_
    · skip
      exact fz_some
    · skip
      exact fz_Rd_isLetter_24
theorem fz_Rd_isLetter {v0 : Int32} {μ : Mu}   : Fz μ (Rd_isLetter v0 μ) := by
  unfold Rd_isLetter
  refine fz_ite ?_ ?_
  · skip
    exact fz_Rd_isLetter_12
  · skip
    refine fz_ite ?_ ?_
    · skip
      exact fz_Rd_isLetter_24
    · skip
      exact fz_Rd_isLetter_12
theorem fz_Rd_keyword_104 {kb12 : Int32 → Int32 → Int32 → Int32 → Mu → Option (Int32 × Mu)} {v1 : Int32} {v2 : Int32} {v3 : Int32} {v4 : Int32} {μ : Mu}  (h_kb12 : ∀ (w0 : Int32) (w1 : Int32) (w2 : Int32) (w3 : Int32) (μ : Mu), Fz μ (kb12 w0 w1 w2 w3 μ)) : Fz μ (Rd_keyword_104 48 kb12 v1 v2 v3 v4 μ) := by
  unfold Rd_keyword_104
  exact h_kb12 _ _ _ _ _
theorem fz_Rd_keyword_94 {kb12 : Int32 → Int32 → Int32 → Int32 → Mu → Option (Int32 × Mu)} {v1 : Int32} {v4 : Int32} {μ : Mu}  (h_kb12 : ∀ (w0 : Int32) (w1 : Int32) (w2 : Int32) (w3 : Int32) (μ : Mu), Fz μ (kb12 w0 w1 w2 w3 μ)) : Fz μ (Rd_keyword_94 48 kb12 v1 v4 μ) := by
  unfold Rd_keyword_94
  refine fz_gF (fun _ => ?_)
  exact fz_Rd_keyword_104 h_kb12
theorem fz_Rd_keyword_73 {kb12 : Int32 → Int32 → Int32 → Int32 → Mu → Option (Int32 × Mu)} {v1 : Int32} {v2 : Int32} {v4 : Int32} {s0 : Int32} {μ : Mu}  (h_kb12 : ∀ (w0 : Int32) (w1 : Int32) (w2 : Int32) (w3 : Int32) (μ : Mu), Fz μ (kb12 w0 w1 w2 w3 μ)) : Fz μ (Rd_keyword_73 48 kb12 v1 v2 v4 s0 μ) := by
  unfold Rd_keyword_73
  exact fz_Rd_keyword_104 h_kb12
theorem fz_Rd_keyword_72 {kb12 : Int32 → Int32 → Int32 → Int32 → Mu → Option (Int32 × Mu)} {v1 : Int32} {v2 : Int32} {v4 : Int32} {μ : Mu}  (h_kb12 : ∀ (w0 : Int32) (w1 : Int32) (w2 : Int32) (w3 : Int32) (μ : Mu), Fz μ (kb12 w0 w1 w2 w3 μ)) : Fz μ (Rd_keyword_72 48 kb12 v1 v2 v4 μ) := by
  unfold Rd_keyword_72
  exact fz_Rd_keyword_73 h_kb12
theorem fz_Rd_keyword_12b {kb12 : Int32 → Int32 → Int32 → Int32 → Mu → Option (Int32 × Mu)} {v1 : Int32} {v2 : Int32} {v3 : Int32} {v4 : Int32} {μ : Mu}  (h_kb12 : ∀ (w0 : Int32) (w1 : Int32) (w2 : Int32) (w3 : Int32) (μ : Mu), Fz μ (kb12 w0 w1 w2 w3 μ)) : Fz μ (Rd_keyword_12b 48 kb12 v1 v2 v3 v4 μ) := by
  unfold Rd_keyword_12b
  refine fz_cl (fz_of (fr_Js_length)) (fun _ _ => ?_)
  refine fz_ite ?_ ?_
  · skip
    exact fz_some
  · skip
    refine fz_cl (fz_of (fr_Js_charAt)) (fun _ _ => ?_)
    refine fz_ite ?_ ?_
    · skip
      refine fz_ite ?_ ?_
      · skip
        exact fz_Rd_keyword_94 h_kb12
      · skip
        refine fz_gF (fun _ => ?_)
        refine fz_ite ?_ ?_
        · skip
          exact fz_some
        · skip
          exact fz_Rd_keyword_94 h_kb12
    · skip
      refine fz_ite ?_ ?_
      · skip
        exact fz_Rd_keyword_72 h_kb12
      · skip
        refine fz_gF (fun _ => ?_)
        refine fz_ite ?_ ?_
        · skip
          exact fz_Rd_keyword_72 h_kb12
        · skip
          refine fz_ite ?_ ?_
          · skip
            exact fz_Rd_keyword_72 h_kb12
          · skip
            refine fz_ldA (fun _ => ?_)
            refine fz_ite ?_ ?_
            · skip
              exact fz_Rd_keyword_73 h_kb12
            · skip
              exact fz_Rd_keyword_72 h_kb12
theorem fz_Rd_keyword_12   : ∀ (fu : Nat) (w0 : Int32) (w1 : Int32) (w2 : Int32) (w3 : Int32) (μ : Mu), Fz μ (Rd_keyword_12 48 fu w0 w1 w2 w3 μ) := by
  intro fu
  induction fu with
  | zero => intros; exact fz_none
  | succ fu ih => intros; exact fz_Rd_keyword_12b  ih
theorem fz_Rd_keyword {μ : Mu}   : Fz μ (Rd_keyword 48 μ) := by
  unfold Rd_keyword
  refine fz_gF (fun _ => ?_)
  exact fz_Rd_keyword_12 _ _ _ _ _ _
theorem fz_Rd_next_86 {μ : Mu}  : Fz μ (Rd_next_86 48 μ) := by
  unfold Rd_next_86
  refine fz_pF (by decide) (fun _ => ?_)
  exact fz_some
theorem fz_Rd_next_291 {s0 : Int32} {μ : Mu}  : Fz μ (Rd_next_291 48 s0 μ) := by
  unfold Rd_next_291
  refine fz_pF (by decide) (fun _ => ?_)
  exact fz_some
theorem fz_Rd_next_263 {μ : Mu}  : Fz μ (Rd_next_263 48 μ) := by
  unfold Rd_next_263
  refine fz_cl (fz_Rd_keyword) (fun _ _ => ?_)
  refine fz_pF (by decide) (fun _ => ?_)
  exact fz_some
theorem fz_Rd_next_224b {kb224 : Mu → Option (Unit × Mu)} {μ : Mu} (h_kb224 : ∀  (μ : Mu), Fz μ (kb224  μ)) : Fz μ (Rd_next_224b 48 kb224 μ) := by
  unfold Rd_next_224b
  refine fz_gF (fun _ => ?_)
  refine fz_gF (fun _ => ?_)
  refine fz_ite ?_ ?_
  · skip
    exact fz_Rd_next_263
  · skip
    refine fz_gF (fun _ => ?_)
    refine fz_ldA (fun _ => ?_)
    refine fz_cl (fz_Rd_isLetter) (fun _ _ => ?_)
    refine fz_ite ?_ ?_
    · skip
      exact fz_Rd_next_263
    · skip
      refine fz_gF (fun _ => ?_)
      refine fz_pF (by decide) (fun _ => ?_)
      exact h_kb224 _
theorem fz_Rd_next_224  : ∀ (fu : Nat)  (μ : Mu), Fz μ (Rd_next_224 48 fu  μ) := by
  intro fu
  induction fu with
  | zero => intros; exact fz_none
  | succ fu ih => intros; exact fz_Rd_next_224b  ih
theorem fz_Rd_next_211 {s0 : Int32} {μ : Mu}  : Fz μ (Rd_next_211 48 s0 μ) := by
  unfold Rd_next_211
  refine fz_pF (by decide) (fun _ => ?_)
  exact fz_some
theorem fz_Rd_next_190 {μ : Mu}  : Fz μ (Rd_next_190 48 μ) := by
  unfold Rd_next_190
  refine fz_gF (fun _ => ?_)
  refine fz_gF (fun _ => ?_)
  refine fz_ite ?_ ?_
  · skip
    exact fz_Rd_next_211
  · skip
    exact fz_Rd_next_211
theorem fz_Rd_next_127b {kb127 : Mu → Option (Unit × Mu)} {μ : Mu} (h_kb127 : ∀  (μ : Mu), Fz μ (kb127  μ)) : Fz μ (Rd_next_127b 48 kb127 μ) := by
  unfold Rd_next_127b
  refine fz_gF (fun _ => ?_)
  refine fz_gF (fun _ => ?_)
  refine fz_ite ?_ ?_
  · skip
    exact fz_Rd_next_190
  · skip
    refine fz_gF (fun _ => ?_)
    refine fz_ldA (fun _ => ?_)
    refine fz_cl (fz_Rd_isDigit) (fun _ _ => ?_)
    refine fz_ite ?_ ?_
    · skip
      exact fz_Rd_next_190
    · skip
      refine fz_gF (fun _ => ?_)
      refine fz_gF (fun _ => ?_)
      refine fz_ldA (fun _ => ?_)
      refine fz_pF (by decide) (fun _ => ?_)
      refine fz_gF (fun _ => ?_)
      refine fz_pF (by decide) (fun _ => ?_)
      exact h_kb127 _
theorem fz_Rd_next_127  : ∀ (fu : Nat)  (μ : Mu), Fz μ (Rd_next_127 48 fu  μ) := by
  intro fu
  induction fu with
  | zero => intros; exact fz_none
  | succ fu ih => intros; exact fz_Rd_next_127b  ih
theorem fz_Rd_next_60 {μ : Mu}  : Fz μ (Rd_next_60 48 μ) := by
  unfold Rd_next_60
  refine fz_gF (fun _ => ?_)
  refine fz_pF (by decide) (fun _ => ?_)
  refine fz_gF (fun _ => ?_)
  refine fz_gF (fun _ => ?_)
  refine fz_ite ?_ ?_
  · skip
    exact fz_Rd_next_86
  · skip
    refine fz_gF (fun _ => ?_)
    refine fz_ite ?_ ?_
    · skip
      refine fz_gF (fun _ => ?_)
      refine fz_ldA (fun _ => ?_)
      refine fz_gF (fun _ => ?_)
      refine fz_pF (by decide) (fun _ => ?_)
      refine fz_cl (fz_Rd_isDigit) (fun _ _ => ?_)
      refine fz_ite ?_ ?_
      · skip
        refine fz_cl (fz_Rd_isLetter) (fun _ _ => ?_)
        refine fz_ite ?_ ?_
        · skip
          refine fz_cl (fz_of (fr_Js_indexOf1)) (fun _ _ => ?_)
          refine fz_ite ?_ ?_
          · skip
            exact fz_Rd_next_291
          · skip
            exact fz_Rd_next_291
        · skip
          exact fz_Rd_next_224 _ _
      · skip
        refine fz_pF (by decide) (fun _ => ?_)
        exact fz_Rd_next_127 _ _
    · skip
      exact fz_Rd_next_86
theorem fz_Rd_next_47 {kb8 : Mu → Option (Unit × Mu)} {μ : Mu} (h_kb8 : ∀  (μ : Mu), Fz μ (kb8  μ)) : Fz μ (Rd_next_47 48 kb8 μ) := by
  unfold Rd_next_47
  refine fz_gF (fun _ => ?_)
  refine fz_pF (by decide) (fun _ => ?_)
  exact h_kb8 _
theorem fz_Rd_next_8b {kb8 : Mu → Option (Unit × Mu)} {μ : Mu} (h_kb8 : ∀  (μ : Mu), Fz μ (kb8  μ)) : Fz μ (Rd_next_8b 48 kb8 μ) := by
  unfold Rd_next_8b
  refine fz_gF (fun _ => ?_)
  refine fz_gF (fun _ => ?_)
  refine fz_ite ?_ ?_
  · skip
    exact fz_Rd_next_60
  · skip
    refine fz_gF (fun _ => ?_)
    refine fz_ldA (fun _ => ?_)
    refine fz_ite ?_ ?_
    · skip
      exact fz_Rd_next_47 h_kb8
    · skip
      refine fz_gF (fun _ => ?_)
      refine fz_ldA (fun _ => ?_)
      refine fz_ite ?_ ?_
      · skip
        exact fz_Rd_next_47 h_kb8
      · skip
        exact fz_Rd_next_60
theorem fz_Rd_next_8  : ∀ (fu : Nat)  (μ : Mu), Fz μ (Rd_next_8 48 fu  μ) := by
  intro fu
  induction fu with
  | zero => intros; exact fz_none
  | succ fu ih => intros; exact fz_Rd_next_8b  ih
theorem fz_Rd_next {μ : Mu}  : Fz μ (Rd_next 48 μ) := by
  unfold Rd_next
  refine fz_gF (fun _ => ?_)
  refine fz_pF (by decide) (fun _ => ?_)
  exact fz_Rd_next_8 _ _
theorem fz_Rd_begins {v1 : Int32} {μ : Mu}  : Fz μ (Rd_begins 48 v1 μ) := by
  unfold Rd_begins
  refine fz_gF (fun _ => ?_)
  refine fz_ite ?_ ?_
  · skip
    exact fz_some
  · skip
    refine fz_gF (fun _ => ?_)
    refine fz_ite ?_ ?_
    · skip
      refine fz_gF (fun _ => ?_)
      refine fz_ite ?_ ?_
      · skip
        refine fz_cl (fz_Rd_next) (fun _ _ => ?_)
        exact fz_some
      · skip
        refine fz_cl (fz_Rd_fail (by decide)) (fun _ _ => ?_)
        exact fz_some
    · skip
      refine fz_cl (fz_Rd_fail (by decide)) (fun _ _ => ?_)
      exact fz_some
theorem fz_Rd_operand_59 {μ : Mu}  : Fz μ (Rd_operand_59 48 μ) := by
  unfold Rd_operand_59
  refine fz_cl (fz_Rd_fail (by decide)) (fun _ _ => ?_)
  exact fz_some
theorem fz_Rd_operand {μ : Mu}  : Fz μ (Rd_operand 48 μ) := by
  unfold Rd_operand
  refine fz_gF (fun _ => ?_)
  refine fz_ite ?_ ?_
  · skip
    refine fz_gF (fun _ => ?_)
    refine fz_cl (fz_of (fr_Lw_emit (by show _ ≠ (48 : Nat); decide) (by show _ ≠ (48 : Nat); decide))) (fun _ _ => ?_)
    refine fz_cl (fz_Rd_next) (fun _ _ => ?_)
    exact fz_some
  · skip
    refine fz_ite ?_ ?_
    · skip
      exact fz_Rd_operand_59
    · skip
      refine fz_ite ?_ ?_
      · skip
        exact fz_Rd_operand_59
      · skip
        refine fz_cl (fz_of (fr_Lw_emit (by show _ ≠ (48 : Nat); decide) (by show _ ≠ (48 : Nat); decide))) (fun _ _ => ?_)
        refine fz_cl (fz_Rd_next) (fun _ _ => ?_)
        exact fz_some
theorem fz_Rd_number_40 {μ : Mu}  : Fz μ (Rd_number_40 48 μ) := by
  unfold Rd_number_40
  refine fz_cl (fz_Rd_fail (by decide)) (fun _ _ => ?_)
  exact fz_some
theorem fz_Rd_number {v1 : Int32} {v2 : Int32} {v3 : Int32} {μ : Mu}  : Fz μ (Rd_number 48 v1 v2 v3 μ) := by
  unfold Rd_number
  refine fz_gF (fun _ => ?_)
  refine fz_ite ?_ ?_
  · skip
    refine fz_gF (fun _ => ?_)
    refine fz_ite ?_ ?_
    · skip
      exact fz_Rd_number_40
    · skip
      refine fz_gF (fun _ => ?_)
      refine fz_ite ?_ ?_
      · skip
        exact fz_Rd_number_40
      · skip
        refine fz_gF (fun _ => ?_)
        refine fz_ite ?_ ?_
        · skip
          exact fz_Rd_number_40
        · skip
          refine fz_gF (fun _ => ?_)
          refine fz_cl (fz_Rd_next) (fun _ _ => ?_)
          exact fz_some
  · skip
    refine fz_cl (fz_Rd_fail (by decide)) (fun _ _ => ?_)
    exact fz_some
theorem fz_Rd_sum_118 {v1 : Int32} {μ : Mu}  : Fz μ (Rd_sum_118 48 v1 μ) := by
  unfold Rd_sum_118
  refine fz_ite ?_ ?_
  · skip
    exact fz_some
  · skip
    refine fz_cl (fz_of (fr_Lw_emit (by show _ ≠ (48 : Nat); decide) (by show _ ≠ (48 : Nat); decide))) (fun _ _ => ?_)
    exact fz_some
theorem fz_Rd_sum_112 {kb8 : Int32 → Int32 → Mu → Option (Unit × Mu)} {v1 : Int32} {v2 : Int32} {μ : Mu}  (h_kb8 : ∀ (w0 : Int32) (w1 : Int32) (μ : Mu), Fz μ (kb8 w0 w1 μ)) : Fz μ (Rd_sum_112 48 kb8 v1 v2 μ) := by
  unfold Rd_sum_112
  exact h_kb8 _ _ _
theorem fz_Rd_sum_106 {kb8 : Int32 → Int32 → Mu → Option (Unit × Mu)} {v2 : Int32} {v3 : Int32} {μ : Mu} (h_kb8 : ∀ (w0 : Int32) (w1 : Int32) (μ : Mu), Fz μ (kb8 w0 w1 μ)) : Fz μ (Rd_sum_106 48 kb8 v2 v3 μ) := by
  unfold Rd_sum_106
  refine fz_cl (fz_Rd_operand) (fun _ _ => ?_)
  exact fz_Rd_sum_112 h_kb8
theorem fz_Rd_sum_88 {kb8 : Int32 → Int32 → Mu → Option (Unit × Mu)} {v1 : Int32} {v2 : Int32} {v3 : Int32} {μ : Mu} (h_kb8 : ∀ (w0 : Int32) (w1 : Int32) (μ : Mu), Fz μ (kb8 w0 w1 μ)) : Fz μ (Rd_sum_88 48 kb8 v1 v2 v3 μ) := by
  unfold Rd_sum_88
  refine fz_cl (fz_Rd_next) (fun _ _ => ?_)
  refine fz_ite ?_ ?_
  · skip
    exact fz_Rd_sum_106 h_kb8
  · skip
    refine fz_cl (fz_of (fr_Lw_emit (by show _ ≠ (48 : Nat); decide) (by show _ ≠ (48 : Nat); decide))) (fun _ _ => ?_)
    exact fz_Rd_sum_106 h_kb8
theorem fz_Rd_sum_8b {kb8 : Int32 → Int32 → Mu → Option (Unit × Mu)} {v1 : Int32} {v2 : Int32} {μ : Mu} (h_kb8 : ∀ (w0 : Int32) (w1 : Int32) (μ : Mu), Fz μ (kb8 w0 w1 μ)) : Fz μ (Rd_sum_8b 48 kb8 v1 v2 μ) := by
  unfold Rd_sum_8b
  refine fz_ite ?_ ?_
  · skip
    exact fz_Rd_sum_118
  · skip
    refine fz_gF (fun _ => ?_)
    refine fz_ite ?_ ?_
    · skip
      refine fz_cl (fz_Rd_next) (fun _ _ => ?_)
      refine fz_cl (fz_Rd_operand) (fun _ _ => ?_)
      refine fz_cl (fz_of (fr_Lw_emit (by show _ ≠ (48 : Nat); decide) (by show _ ≠ (48 : Nat); decide))) (fun _ _ => ?_)
      exact fz_Rd_sum_112 h_kb8
    · skip
      refine fz_ite ?_ ?_
      · skip
        refine fz_cl (fz_Rd_next) (fun _ _ => ?_)
        refine fz_cl (fz_Rd_number) (fun _ _ => ?_)
        refine fz_cl (fz_of (fr_Lw_emit (by show _ ≠ (48 : Nat); decide) (by show _ ≠ (48 : Nat); decide))) (fun _ _ => ?_)
        exact fz_Rd_sum_112 h_kb8
      · skip
        refine fz_ite ?_ ?_
        · skip
          exact fz_Rd_sum_88 h_kb8
        · skip
          refine fz_ite ?_ ?_
          · skip
            exact fz_Rd_sum_88 h_kb8
          · skip
            exact fz_Rd_sum_118
theorem fz_Rd_sum_8  : ∀ (fu : Nat) (w0 : Int32) (w1 : Int32) (μ : Mu), Fz μ (Rd_sum_8 48 fu w0 w1 μ) := by
  intro fu
  induction fu with
  | zero => intros; exact fz_none
  | succ fu ih => intros; exact fz_Rd_sum_8b  ih
theorem fz_Rd_sum {μ : Mu}  : Fz μ (Rd_sum 48 μ) := by
  unfold Rd_sum
  refine fz_cl (fz_Rd_operand) (fun _ _ => ?_)
  exact fz_Rd_sum_8 _ _ _ _
theorem fz_Rd_take {v1 : Int32} {μ : Mu}  : Fz μ (Rd_take 48 v1 μ) := by
  unfold Rd_take
  refine fz_gF (fun _ => ?_)
  refine fz_ite ?_ ?_
  · skip
    refine fz_cl (fz_Rd_next) (fun _ _ => ?_)
    exact fz_some
  · skip
    refine fz_cl (fz_Rd_fail (by decide)) (fun _ _ => ?_)
    exact fz_some
theorem fz_Rd_comparisonB_72 {kr_comparison : Int32 → Mu → Option (Unit × Mu)} {kr_condition : Int32 → Mu → Option (Unit × Mu)} {v1 : Int32} {v2 : Int32} {μ : Mu} (h_kr_comparison : ∀ (w0 : Int32) (μ : Mu), Fz μ (kr_comparison w0 μ)) (h_kr_condition : ∀ (w0 : Int32) (μ : Mu), Fz μ (kr_condition w0 μ)) : Fz μ (Rd_comparisonB_72 48 kr_comparison kr_condition v1 v2 μ) := by
  unfold Rd_comparisonB_72
  refine fz_ite ?_ ?_
  · skip
    refine fz_ite ?_ ?_
    · skip
      refine fz_cl (fz_Rd_next) (fun _ _ => ?_)
      refine fz_cl (h_kr_comparison _ _) (fun _ _ => ?_)
      refine fz_cl (fz_of (fr_Lw_emit (by show _ ≠ (48 : Nat); decide) (by show _ ≠ (48 : Nat); decide))) (fun _ _ => ?_)
      exact fz_some
    · skip
      refine fz_cl (fz_Rd_next) (fun _ _ => ?_)
      refine fz_cl (h_kr_condition _ _) (fun _ _ => ?_)
      refine fz_cl (fz_Rd_take) (fun _ _ => ?_)
      exact fz_some
  · skip
    refine fz_cl (fz_Rd_fail (by decide)) (fun _ _ => ?_)
    exact fz_some
theorem fz_Rd_comparisonB_44 {kr_comparison : Int32 → Mu → Option (Unit × Mu)} {kr_condition : Int32 → Mu → Option (Unit × Mu)} {v2 : Int32} {μ : Mu} (h_kr_comparison : ∀ (w0 : Int32) (μ : Mu), Fz μ (kr_comparison w0 μ)) (h_kr_condition : ∀ (w0 : Int32) (μ : Mu), Fz μ (kr_condition w0 μ)) : Fz μ (Rd_comparisonB_44 48 kr_comparison kr_condition v2 μ) := by
  unfold Rd_comparisonB_44
  refine fz_cl (fz_Rd_next) (fun _ _ => ?_)
  refine fz_cl (fz_Rd_sum) (fun _ _ => ?_)
  refine fz_cl (fz_of (fr_Lw_emit (by show _ ≠ (48 : Nat); decide) (by show _ ≠ (48 : Nat); decide))) (fun _ _ => ?_)
  exact fz_some
theorem fz_Rd_comparisonB {kr_comparison : Int32 → Mu → Option (Unit × Mu)} {kr_condition : Int32 → Mu → Option (Unit × Mu)} {v1 : Int32} {μ : Mu} (h_kr_comparison : ∀ (w0 : Int32) (μ : Mu), Fz μ (kr_comparison w0 μ)) (h_kr_condition : ∀ (w0 : Int32) (μ : Mu), Fz μ (kr_condition w0 μ)) : Fz μ (Rd_comparisonB 48 kr_comparison kr_condition v1 μ) := by
  unfold Rd_comparisonB
  refine fz_gF (fun _ => ?_)
  refine fz_ite ?_ ?_
  · skip
    exact fz_Rd_comparisonB_72 h_kr_comparison h_kr_condition
  · skip
    refine fz_ite ?_ ?_
    · skip
      exact fz_Rd_comparisonB_72 h_kr_comparison h_kr_condition
    · skip
      refine fz_cl (fz_Rd_sum) (fun _ _ => ?_)
      refine fz_gF (fun _ => ?_)
      refine fz_ite ?_ ?_
      · skip
        exact fz_Rd_comparisonB_44 h_kr_comparison h_kr_condition
      · skip
        refine fz_ite ?_ ?_
        · skip
          exact fz_Rd_comparisonB_44 h_kr_comparison h_kr_condition
        · skip
          refine fz_ite ?_ ?_
          · skip
            exact fz_Rd_comparisonB_44 h_kr_comparison h_kr_condition
          · skip
            refine fz_cl (fz_Rd_fail (by decide)) (fun _ _ => ?_)
            exact fz_some
theorem fz_Rd_conditionB_112 {kr_comparison : Int32 → Mu → Option (Unit × Mu)} {kr_condition : Int32 → Mu → Option (Unit × Mu)} {v2 : Int32} {μ : Mu} (h_kr_comparison : ∀ (w0 : Int32) (μ : Mu), Fz μ (kr_comparison w0 μ)) (h_kr_condition : ∀ (w0 : Int32) (μ : Mu), Fz μ (kr_condition w0 μ)) : Fz μ (Rd_conditionB_112 48 kr_comparison kr_condition v2 μ) := by
  unfold Rd_conditionB_112
  refine fz_ite ?_ ?_
  · skip
    exact fz_some
  · skip
    refine fz_cl (fz_of (fr_Lw_emit (by show _ ≠ (48 : Nat); decide) (by show _ ≠ (48 : Nat); decide))) (fun _ _ => ?_)
    exact fz_some
theorem fz_Rd_conditionB_106 {kr_comparison : Int32 → Mu → Option (Unit × Mu)} {kr_condition : Int32 → Mu → Option (Unit × Mu)} {kb9 : Int32 → Int32 → Mu → Option (Unit × Mu)} {v1 : Int32} {v2 : Int32} {v3 : Int32} {μ : Mu}  (h_kr_comparison : ∀ (w0 : Int32) (μ : Mu), Fz μ (kr_comparison w0 μ)) (h_kr_condition : ∀ (w0 : Int32) (μ : Mu), Fz μ (kr_condition w0 μ)) (h_kb9 : ∀ (w0 : Int32) (w1 : Int32) (μ : Mu), Fz μ (kb9 w0 w1 μ)) : Fz μ (Rd_conditionB_106 48 kr_comparison kr_condition kb9 v1 v2 v3 μ) := by
  unfold Rd_conditionB_106
  exact h_kb9 _ _ _
theorem fz_Rd_conditionB_85 {kr_comparison : Int32 → Mu → Option (Unit × Mu)} {kr_condition : Int32 → Mu → Option (Unit × Mu)} {kb9 : Int32 → Int32 → Mu → Option (Unit × Mu)} {v1 : Int32} {v3 : Int32} {v4 : Int32} {s0 : Int32} {μ : Mu} (h_kr_comparison : ∀ (w0 : Int32) (μ : Mu), Fz μ (kr_comparison w0 μ)) (h_kr_condition : ∀ (w0 : Int32) (μ : Mu), Fz μ (kr_condition w0 μ)) (h_kb9 : ∀ (w0 : Int32) (w1 : Int32) (μ : Mu), Fz μ (kb9 w0 w1 μ)) : Fz μ (Rd_conditionB_85 48 kr_comparison kr_condition kb9 v1 v3 v4 s0 μ) := by
  unfold Rd_conditionB_85
  refine fz_cl (h_kr_comparison _ _) (fun _ _ => ?_)
  refine fz_ite ?_ ?_
  · skip
    exact fz_Rd_conditionB_106 h_kr_comparison h_kr_condition h_kb9
  · skip
    refine fz_cl (fz_of (fr_Lw_emit (by show _ ≠ (48 : Nat); decide) (by show _ ≠ (48 : Nat); decide))) (fun _ _ => ?_)
    exact fz_Rd_conditionB_106 h_kr_comparison h_kr_condition h_kb9
theorem fz_Rd_conditionB_80 {kr_comparison : Int32 → Mu → Option (Unit × Mu)} {kr_condition : Int32 → Mu → Option (Unit × Mu)} {kb9 : Int32 → Int32 → Mu → Option (Unit × Mu)} {v1 : Int32} {v3 : Int32} {v4 : Int32} {μ : Mu} (h_kr_comparison : ∀ (w0 : Int32) (μ : Mu), Fz μ (kr_comparison w0 μ)) (h_kr_condition : ∀ (w0 : Int32) (μ : Mu), Fz μ (kr_condition w0 μ)) (h_kb9 : ∀ (w0 : Int32) (w1 : Int32) (μ : Mu), Fz μ (kb9 w0 w1 μ)) : Fz μ (Rd_conditionB_80 48 kr_comparison kr_condition kb9 v1 v3 v4 μ) := by
  unfold Rd_conditionB_80
  exact fz_Rd_conditionB_85 h_kr_comparison h_kr_condition h_kb9
theorem fz_Rd_conditionB_71 {kr_comparison : Int32 → Mu → Option (Unit × Mu)} {kr_condition : Int32 → Mu → Option (Unit × Mu)} {kb9 : Int32 → Int32 → Mu → Option (Unit × Mu)} {v1 : Int32} {v2 : Int32} {v3 : Int32} {v4 : Int32} {μ : Mu} (h_kr_comparison : ∀ (w0 : Int32) (μ : Mu), Fz μ (kr_comparison w0 μ)) (h_kr_condition : ∀ (w0 : Int32) (μ : Mu), Fz μ (kr_condition w0 μ)) (h_kb9 : ∀ (w0 : Int32) (w1 : Int32) (μ : Mu), Fz μ (kb9 w0 w1 μ)) : Fz μ (Rd_conditionB_71 48 kr_comparison kr_condition kb9 v1 v2 v3 v4 μ) := by
  unfold Rd_conditionB_71
  refine fz_ite ?_ ?_
  · skip
    refine fz_ite ?_ ?_
    · skip
      exact fz_Rd_conditionB_80 h_kr_comparison h_kr_condition h_kb9
    · skip
      exact fz_Rd_conditionB_85 h_kr_comparison h_kr_condition h_kb9
  · skip
    exact fz_Rd_conditionB_80 h_kr_comparison h_kr_condition h_kb9
theorem fz_Rd_conditionB_47 {kr_comparison : Int32 → Mu → Option (Unit × Mu)} {kr_condition : Int32 → Mu → Option (Unit × Mu)} {kb9 : Int32 → Int32 → Mu → Option (Unit × Mu)} {v1 : Int32} {v2 : Int32} {v3 : Int32} {s0 : Int32} {μ : Mu} (h_kr_comparison : ∀ (w0 : Int32) (μ : Mu), Fz μ (kr_comparison w0 μ)) (h_kr_condition : ∀ (w0 : Int32) (μ : Mu), Fz μ (kr_condition w0 μ)) (h_kb9 : ∀ (w0 : Int32) (w1 : Int32) (μ : Mu), Fz μ (kb9 w0 w1 μ)) : Fz μ (Rd_conditionB_47 48 kr_comparison kr_condition kb9 v1 v2 v3 s0 μ) := by
  unfold Rd_conditionB_47
  refine fz_cl (fz_Rd_next) (fun _ _ => ?_)
  refine fz_ite ?_ ?_
  · skip
    refine fz_ite ?_ ?_
    · skip
      exact fz_Rd_conditionB_71 h_kr_comparison h_kr_condition h_kb9
    · skip
      refine fz_cl (fz_of (fr_Lw_emit (by show _ ≠ (48 : Nat); decide) (by show _ ≠ (48 : Nat); decide))) (fun _ _ => ?_)
      exact fz_Rd_conditionB_71 h_kr_comparison h_kr_condition h_kb9
  · skip
    exact fz_Rd_conditionB_71 h_kr_comparison h_kr_condition h_kb9
theorem fz_Rd_conditionB_33 {kr_comparison : Int32 → Mu → Option (Unit × Mu)} {kr_condition : Int32 → Mu → Option (Unit × Mu)} {kb9 : Int32 → Int32 → Mu → Option (Unit × Mu)} {v1 : Int32} {v2 : Int32} {v3 : Int32} {μ : Mu} (h_kr_comparison : ∀ (w0 : Int32) (μ : Mu), Fz μ (kr_comparison w0 μ)) (h_kr_condition : ∀ (w0 : Int32) (μ : Mu), Fz μ (kr_condition w0 μ)) (h_kb9 : ∀ (w0 : Int32) (w1 : Int32) (μ : Mu), Fz μ (kb9 w0 w1 μ)) : Fz μ (Rd_conditionB_33 48 kr_comparison kr_condition kb9 v1 v2 v3 μ) := by
  unfold Rd_conditionB_33
  refine fz_gF (fun _ => ?_)
  refine fz_ite ?_ ?_
  · skip
    exact fz_Rd_conditionB_47 h_kr_comparison h_kr_condition h_kb9
  · skip
    exact fz_Rd_conditionB_47 h_kr_comparison h_kr_condition h_kb9
theorem fz_Rd_conditionB_9b {kr_comparison : Int32 → Mu → Option (Unit × Mu)} {kr_condition : Int32 → Mu → Option (Unit × Mu)} {kb9 : Int32 → Int32 → Mu → Option (Unit × Mu)} {v1 : Int32} {v2 : Int32} {v3 : Int32} {μ : Mu} (h_kr_comparison : ∀ (w0 : Int32) (μ : Mu), Fz μ (kr_comparison w0 μ)) (h_kr_condition : ∀ (w0 : Int32) (μ : Mu), Fz μ (kr_condition w0 μ)) (h_kb9 : ∀ (w0 : Int32) (w1 : Int32) (μ : Mu), Fz μ (kb9 w0 w1 μ)) : Fz μ (Rd_conditionB_9b 48 kr_comparison kr_condition kb9 v1 v2 v3 μ) := by
  unfold Rd_conditionB_9b
  refine fz_ite ?_ ?_
  · skip
    exact fz_Rd_conditionB_112 h_kr_comparison h_kr_condition
  · skip
    refine fz_gF (fun _ => ?_)
    refine fz_ite ?_ ?_
    · skip
      exact fz_Rd_conditionB_33 h_kr_comparison h_kr_condition h_kb9
    · skip
      refine fz_gF (fun _ => ?_)
      refine fz_ite ?_ ?_
      · skip
        exact fz_Rd_conditionB_33 h_kr_comparison h_kr_condition h_kb9
      · skip
        exact fz_Rd_conditionB_112 h_kr_comparison h_kr_condition
theorem fz_Rd_conditionB_9 {kr_comparison : Int32 → Mu → Option (Unit × Mu)} {kr_condition : Int32 → Mu → Option (Unit × Mu)} {v1 : Int32} (h_kr_comparison : ∀ (w0 : Int32) (μ : Mu), Fz μ (kr_comparison w0 μ)) (h_kr_condition : ∀ (w0 : Int32) (μ : Mu), Fz μ (kr_condition w0 μ)) : ∀ (fu : Nat) (w0 : Int32) (w1 : Int32) (μ : Mu), Fz μ (Rd_conditionB_9 48 kr_comparison kr_condition v1 fu w0 w1 μ) := by
  intro fu
  induction fu with
  | zero => intros; exact fz_none
  | succ fu ih => intros; exact fz_Rd_conditionB_9b  (kr_comparison := kr_comparison) (kr_condition := kr_condition) (v1 := v1) h_kr_comparison h_kr_condition ih
theorem fz_Rd_conditionB {kr_comparison : Int32 → Mu → Option (Unit × Mu)} {kr_condition : Int32 → Mu → Option (Unit × Mu)} {v1 : Int32} {μ : Mu} (h_kr_comparison : ∀ (w0 : Int32) (μ : Mu), Fz μ (kr_comparison w0 μ)) (h_kr_condition : ∀ (w0 : Int32) (μ : Mu), Fz μ (kr_condition w0 μ)) : Fz μ (Rd_conditionB 48 kr_comparison kr_condition v1 μ) := by
  unfold Rd_conditionB
  refine fz_cl (h_kr_comparison _ _) (fun _ _ => ?_)
  exact fz_Rd_conditionB_9 h_kr_comparison h_kr_condition _ _ _ _
theorem fz_Rd_cc : ∀ n : Nat, (∀ (v : Int32) (μ : Mu), Fz μ (Rd_cc 48 n true v μ)) ∧ (∀ (v : Int32) (μ : Mu), Fz μ (Rd_cc 48 n false v μ)) := by
  intro n
  induction n with
  | zero => exact ⟨fun v μ => fz_none, fun v μ => fz_none⟩
  | succ n ih => exact ⟨fun v μ => fz_Rd_comparisonB ih.1 ih.2, fun v μ => fz_Rd_conditionB ih.1 ih.2⟩
theorem fz_Rd_condition {v1 : Int32} {μ : Mu}  : Fz μ (Rd_condition 48 v1 μ) := by
  unfold Rd_condition
  exact (fz_Rd_cc 60).2 _ _
theorem fz_Rd_ends {v1 : Int32} {v2 : Int32} {v3 : Int32} {v4 : Int32} {μ : Mu}  : Fz μ (Rd_ends 48 v1 v2 v3 v4 μ) := by
  unfold Rd_ends
  refine fz_cl (fz_Rd_take) (fun _ _ => ?_)
  refine fz_gF (fun _ => ?_)
  refine fz_ite ?_ ?_
  · skip
    refine fz_gF (fun _ => ?_)
    refine fz_ite ?_ ?_
    · skip
      exact fz_some
    · skip
      refine fz_gF (fun _ => ?_)
      refine fz_ite ?_ ?_
      · skip
        refine fz_gF (fun _ => ?_)
        refine fz_stA (by decide) (fun _ => ?_)
        refine fz_stA (by decide) (fun _ => ?_)
        refine fz_stA (by decide) (fun _ => ?_)
        refine fz_stA (by decide) (fun _ => ?_)
        refine fz_gF (fun _ => ?_)
        refine fz_pF (by decide) (fun _ => ?_)
        exact fz_some
      · skip
        exact fz_some
  · skip
    exact fz_some
theorem fz_Rd_readLaw_94 {kb9 : Int32 → Mu → Option (Unit × Mu)} {v1 : Int32} {μ : Mu} (h_kb9 : ∀ (w0 : Int32) (μ : Mu), Fz μ (kb9 w0 μ)) : Fz μ (Rd_readLaw_94 48 kb9 v1 μ) := by
  unfold Rd_readLaw_94
  refine fz_cl (fz_of (fr_Lw_lineEnds (by show _ ≠ (48 : Nat); decide) (by show _ ≠ (48 : Nat); decide))) (fun _ _ => ?_)
  refine fz_cl (fz_Rd_ends) (fun _ _ => ?_)
  exact h_kb9 _ _
theorem fz_Rd_readLaw_51 {kb9 : Int32 → Mu → Option (Unit × Mu)} {v1 : Int32} {v2 : Int32} {s0 : Int32} {μ : Mu} (h_kb9 : ∀ (w0 : Int32) (μ : Mu), Fz μ (kb9 w0 μ)) : Fz μ (Rd_readLaw_51 48 kb9 v1 v2 s0 μ) := by
  unfold Rd_readLaw_51
  refine fz_cl (fz_Rd_begins) (fun _ _ => ?_)
  refine fz_ite ?_ ?_
  · skip
    exact fz_some
  · skip
    refine fz_cl (fz_of (fr_Lw_begin (by show _ ≠ (48 : Nat); decide) (by show _ ≠ (48 : Nat); decide))) (fun _ _ => ?_)
    refine fz_cl (fz_Rd_sum) (fun _ _ => ?_)
    refine fz_cl (fz_of (fr_Lw_sumEnds (by show _ ≠ (48 : Nat); decide))) (fun _ _ => ?_)
    refine fz_gF (fun _ => ?_)
    refine fz_ite ?_ ?_
    · skip
      refine fz_cl (fz_Rd_next) (fun _ _ => ?_)
      refine fz_cl (fz_Rd_condition) (fun _ _ => ?_)
      exact fz_Rd_readLaw_94 h_kb9
    · skip
      exact fz_Rd_readLaw_94 h_kb9
theorem fz_Rd_readLaw_40 {kb9 : Int32 → Mu → Option (Unit × Mu)} {v1 : Int32} {v2 : Int32} {s0 : Int32} {μ : Mu} (h_kb9 : ∀ (w0 : Int32) (μ : Mu), Fz μ (kb9 w0 μ)) : Fz μ (Rd_readLaw_40 48 kb9 v1 v2 s0 μ) := by
  unfold Rd_readLaw_40
  refine fz_ite ?_ ?_
  · skip
    exact fz_Rd_readLaw_51 h_kb9
  · skip
    exact fz_Rd_readLaw_51 h_kb9
theorem fz_Rd_readLaw_35 {kb9 : Int32 → Mu → Option (Unit × Mu)} {v1 : Int32} {v2 : Int32} {μ : Mu} (h_kb9 : ∀ (w0 : Int32) (μ : Mu), Fz μ (kb9 w0 μ)) : Fz μ (Rd_readLaw_35 48 kb9 v1 v2 μ) := by
  unfold Rd_readLaw_35
  exact fz_Rd_readLaw_40 h_kb9
theorem fz_Rd_readLaw_9b {kb9 : Int32 → Mu → Option (Unit × Mu)} {v1 : Int32} {μ : Mu} (h_kb9 : ∀ (w0 : Int32) (μ : Mu), Fz μ (kb9 w0 μ)) : Fz μ (Rd_readLaw_9b 48 kb9 v1 μ) := by
  unfold Rd_readLaw_9b
  refine fz_ite ?_ ?_
  · skip
    exact fz_some
  · skip
    refine fz_gF (fun _ => ?_)
    refine fz_ite ?_ ?_
    · skip
      exact fz_Rd_readLaw_35 h_kb9
    · skip
      refine fz_ite ?_ ?_
      · skip
        exact fz_Rd_readLaw_35 h_kb9
      · skip
        refine fz_ite ?_ ?_
        · skip
          exact fz_Rd_readLaw_35 h_kb9
        · skip
          exact fz_Rd_readLaw_40 h_kb9
theorem fz_Rd_readLaw_9  : ∀ (fu : Nat) (w0 : Int32) (μ : Mu), Fz μ (Rd_readLaw_9 48 fu w0 μ) := by
  intro fu
  induction fu with
  | zero => intros; exact fz_none
  | succ fu ih => intros; exact fz_Rd_readLaw_9b  ih
theorem fz_Rd_readLaw {μ : Mu}  : Fz μ (Rd_readLaw 48 μ) := by
  unfold Rd_readLaw
  refine fz_cl (fz_of (fr_Lw_clear (by show _ ≠ (48 : Nat); decide))) (fun _ _ => ?_)
  exact fz_Rd_readLaw_9 _ _ _
theorem fz_Rd_whom {v1 : Int32} {μ : Mu}  : Fz μ (Rd_whom 48 v1 μ) := by
  unfold Rd_whom
  refine fz_gF (fun _ => ?_)
  refine fz_cl (fz_Rd_number) (fun _ _ => ?_)
  exact fz_some
theorem fz_Rd_readTable_2b {kb2 : Int32 → Mu → Option (Unit × Mu)} {v1 : Int32} {μ : Mu} (h_kb2 : ∀ (w0 : Int32) (μ : Mu), Fz μ (kb2 w0 μ)) : Fz μ (Rd_readTable_2b 48 kb2 v1 μ) := by
  unfold Rd_readTable_2b
  refine fz_ite ?_ ?_
  · skip
    exact fz_some
  · skip
    refine fz_cl (fz_Rd_begins) (fun _ _ => ?_)
    refine fz_ite ?_ ?_
    · skip
      exact fz_some
    · skip
      refine fz_cl (fz_Rd_number) (fun _ _ => ?_)
      refine fz_cl (fz_Rd_take) (fun _ _ => ?_)
      refine fz_cl (fz_Rd_whom) (fun _ _ => ?_)
      refine fz_cl (fz_Rd_ends) (fun _ _ => ?_)
      exact h_kb2 _ _
theorem fz_Rd_readTable_2  : ∀ (fu : Nat) (w0 : Int32) (μ : Mu), Fz μ (Rd_readTable_2 48 fu w0 μ) := by
  intro fu
  induction fu with
  | zero => intros; exact fz_none
  | succ fu ih => intros; exact fz_Rd_readTable_2b  ih
theorem fz_Rd_readTable {μ : Mu}  : Fz μ (Rd_readTable 48 μ) := by
  unfold Rd_readTable
  exact fz_Rd_readTable_2 _ _ _
theorem fz_Rd_readWeather_141 {kb2 : Int32 → Mu → Option (Unit × Mu)} {v1 : Int32} {v2 : Int32} {v3 : Int32} {v4 : Int32} {v5 : Int32} {μ : Mu} (h_kb2 : ∀ (w0 : Int32) (μ : Mu), Fz μ (kb2 w0 μ)) : Fz μ (Rd_readWeather_141 48 kb2 v1 v2 v3 v4 v5 μ) := by
  unfold Rd_readWeather_141
  refine fz_cl (fz_Rd_ends) (fun _ _ => ?_)
  exact h_kb2 _ _
theorem fz_Rd_readWeather_111 {kb2 : Int32 → Mu → Option (Unit × Mu)} {v1 : Int32} {v2 : Int32} {v3 : Int32} {v4 : Int32} {μ : Mu} (h_kb2 : ∀ (w0 : Int32) (μ : Mu), Fz μ (kb2 w0 μ)) : Fz μ (Rd_readWeather_111 48 kb2 v1 v2 v3 v4 μ) := by
  unfold Rd_readWeather_111
  refine fz_cl (fz_Rd_number) (fun _ _ => ?_)
  exact fz_Rd_readWeather_141 h_kb2
theorem fz_Rd_readWeather_99 {kb2 : Int32 → Mu → Option (Unit × Mu)} {v1 : Int32} {v2 : Int32} {v3 : Int32} {v4 : Int32} {v5 : Int32} {μ : Mu} (h_kb2 : ∀ (w0 : Int32) (μ : Mu), Fz μ (kb2 w0 μ)) : Fz μ (Rd_readWeather_99 48 kb2 v1 v2 v3 v4 v5 μ) := by
  unfold Rd_readWeather_99
  refine fz_ite ?_ ?_
  · skip
    exact fz_Rd_readWeather_111 h_kb2
  · skip
    refine fz_ite ?_ ?_
    · skip
      exact fz_Rd_readWeather_111 h_kb2
    · skip
      refine fz_ite ?_ ?_
      · skip
        refine fz_cl (fz_Rd_number) (fun _ _ => ?_)
        exact fz_Rd_readWeather_141 h_kb2
      · skip
        exact fz_Rd_readWeather_141 h_kb2
theorem fz_Rd_readWeather_92 {kb2 : Int32 → Mu → Option (Unit × Mu)} {v1 : Int32} {v2 : Int32} {v3 : Int32} {v5 : Int32} {μ : Mu} (h_kb2 : ∀ (w0 : Int32) (μ : Mu), Fz μ (kb2 w0 μ)) : Fz μ (Rd_readWeather_92 48 kb2 v1 v2 v3 v5 μ) := by
  unfold Rd_readWeather_92
  refine fz_cl (fz_Rd_whom) (fun _ _ => ?_)
  exact fz_Rd_readWeather_99 h_kb2
theorem fz_Rd_readWeather_80 {kb2 : Int32 → Mu → Option (Unit × Mu)} {v1 : Int32} {v2 : Int32} {v3 : Int32} {v4 : Int32} {v5 : Int32} {μ : Mu} (h_kb2 : ∀ (w0 : Int32) (μ : Mu), Fz μ (kb2 w0 μ)) : Fz μ (Rd_readWeather_80 48 kb2 v1 v2 v3 v4 v5 μ) := by
  unfold Rd_readWeather_80
  refine fz_ite ?_ ?_
  · skip
    exact fz_Rd_readWeather_92 h_kb2
  · skip
    refine fz_ite ?_ ?_
    · skip
      exact fz_Rd_readWeather_92 h_kb2
    · skip
      exact fz_Rd_readWeather_99 h_kb2
theorem fz_Rd_readWeather_68 {kb2 : Int32 → Mu → Option (Unit × Mu)} {v1 : Int32} {v2 : Int32} {v3 : Int32} {v4 : Int32} {v5 : Int32} {μ : Mu} (h_kb2 : ∀ (w0 : Int32) (μ : Mu), Fz μ (kb2 w0 μ)) : Fz μ (Rd_readWeather_68 48 kb2 v1 v2 v3 v4 v5 μ) := by
  unfold Rd_readWeather_68
  refine fz_cl (fz_Rd_next) (fun _ _ => ?_)
  exact fz_Rd_readWeather_80 h_kb2
theorem fz_Rd_readWeather_2b {kb2 : Int32 → Mu → Option (Unit × Mu)} {v1 : Int32} {μ : Mu} (h_kb2 : ∀ (w0 : Int32) (μ : Mu), Fz μ (kb2 w0 μ)) : Fz μ (Rd_readWeather_2b 48 kb2 v1 μ) := by
  unfold Rd_readWeather_2b
  refine fz_ite ?_ ?_
  · skip
    exact fz_some
  · skip
    refine fz_cl (fz_Rd_begins) (fun _ _ => ?_)
    refine fz_ite ?_ ?_
    · skip
      exact fz_some
    · skip
      refine fz_cl (fz_Rd_number) (fun _ _ => ?_)
      refine fz_gF (fun _ => ?_)
      refine fz_ite ?_ ?_
      · skip
        exact fz_Rd_readWeather_68 h_kb2
      · skip
        refine fz_ite ?_ ?_
        · skip
          exact fz_Rd_readWeather_68 h_kb2
        · skip
          refine fz_ite ?_ ?_
          · skip
            exact fz_Rd_readWeather_68 h_kb2
          · skip
            refine fz_ite ?_ ?_
            · skip
              exact fz_Rd_readWeather_68 h_kb2
            · skip
              refine fz_ite ?_ ?_
              · skip
                exact fz_Rd_readWeather_68 h_kb2
              · skip
                refine fz_cl (fz_Rd_fail (by decide)) (fun _ _ => ?_)
                exact fz_Rd_readWeather_80 h_kb2
theorem fz_Rd_readWeather_2  : ∀ (fu : Nat) (w0 : Int32) (μ : Mu), Fz μ (Rd_readWeather_2 48 fu w0 μ) := by
  intro fu
  induction fu with
  | zero => intros; exact fz_none
  | succ fu ih => intros; exact fz_Rd_readWeather_2b  ih
theorem fz_Rd_readWeather {μ : Mu}  : Fz μ (Rd_readWeather 48 μ) := by
  unfold Rd_readWeather
  exact fz_Rd_readWeather_2 _ _ _
theorem fz_Rd_readHeirs_2b {kb2 : Int32 → Mu → Option (Unit × Mu)} {v1 : Int32} {μ : Mu} (h_kb2 : ∀ (w0 : Int32) (μ : Mu), Fz μ (kb2 w0 μ)) : Fz μ (Rd_readHeirs_2b 48 kb2 v1 μ) := by
  unfold Rd_readHeirs_2b
  refine fz_ite ?_ ?_
  · skip
    exact fz_some
  · skip
    refine fz_cl (fz_Rd_begins) (fun _ _ => ?_)
    refine fz_ite ?_ ?_
    · skip
      exact fz_some
    · skip
      refine fz_cl (fz_Rd_whom) (fun _ _ => ?_)
      refine fz_cl (fz_Rd_take) (fun _ _ => ?_)
      refine fz_cl (fz_Rd_whom) (fun _ _ => ?_)
      refine fz_cl (fz_Rd_ends) (fun _ _ => ?_)
      exact h_kb2 _ _
theorem fz_Rd_readHeirs_2  : ∀ (fu : Nat) (w0 : Int32) (μ : Mu), Fz μ (Rd_readHeirs_2 48 fu w0 μ) := by
  intro fu
  induction fu with
  | zero => intros; exact fz_none
  | succ fu ih => intros; exact fz_Rd_readHeirs_2b  ih
theorem fz_Rd_readHeirs {μ : Mu}  : Fz μ (Rd_readHeirs 48 μ) := by
  unfold Rd_readHeirs
  exact fz_Rd_readHeirs_2 _ _ _
