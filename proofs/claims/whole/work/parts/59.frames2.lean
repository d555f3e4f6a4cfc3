/-! FRAMES: which cells a model of the reference may write (by program wip/whole/frames2.py) -/
def Fq {ρ : Type} (P : Nat → Nat → Prop) (μ : Mu) (o : Option (ρ × Mu)) : Prop := ∀ r μ', o = some (r, μ') → ∀ k j, ¬ P k j → μ' k j = μ k j
section Fq0
variable {ρ ρ' : Type} {P : Nat → Nat → Prop} {μ : Mu}
theorem fq_some {r : ρ} : Fq P μ (some (r, μ)) := fun _ _ h k j _ => by cases h; rfl
theorem fq_none : Fq (ρ := ρ) P μ none := fun _ _ h => by cases h
theorem fq_ite {c : Prop} {d : Decidable c} {A B : Option (ρ × Mu)} (h1 : Fq P μ A) (h2 : Fq P μ B) : Fq P μ (@ite _ c d A B) := by
  intro r μ' h
  by_cases hc : c
  · rw [if_pos hc] at h; exact h1 r μ' h
  · rw [if_neg hc] at h; exact h2 r μ' h
theorem fq_gF {a k : Nat} {f : Int32 → Option (ρ × Mu)} (h : ∀ x, Fq P μ (f x)) : Fq P μ (gF μ a k f) := h _
theorem fq_up {a k : Nat} {v : Int32} {o : Option (ρ × Mu)} (ha : P a k) (h : Fq P (up2 μ a k v) o) : Fq P μ o := fun r μ' e q i hq => (h r μ' e q i hq).trans (up2_off (by
  by_cases z : q = a
  · exact Or.inr (fun y => hq (by rw [z, y]; exact ha))
  · exact Or.inl z))
theorem fq_pF {a k : Nat} {v : Int32} {f : Mu → Option (ρ × Mu)} (ha : P a k) (h : ∀ μ1, Fq P μ1 (f μ1)) : Fq P μ (pF μ a k v f) := fq_up ha (h _)
theorem fq_ldA {a n : Nat} {i : Int32} {f : Int32 → Option (ρ × Mu)} (h : ∀ x, Fq P μ (f x)) : Fq P μ (ldA μ a n i f) := by
  unfold ldA; split
  · exact h _
  · exact fq_none
theorem fq_stA {a n : Nat} {i v : Int32} {f : Mu → Option (ρ × Mu)} (ha : ∀ j, P a j) (h : ∀ μ1, Fq P μ1 (f μ1)) : Fq P μ (stA μ a n i v f) := by
  unfold stA; split
  · exact fq_up (ha _) (h _)
  · exact fq_none
theorem fq_nz {y : Int32} {o : Option (ρ × Mu)} (h : Fq P μ o) : Fq P μ (nz y o) := by
  unfold nz; split
  · exact fq_none
  · exact h
theorem fq_zg {y : Int32} {o : Option (ρ × Mu)} (h : Fq P μ o) : Fq P μ (zg y o) := by
  unfold zg; split
  · exact h
  · exact fq_none
theorem fq_cl {oc : Option (ρ' × Mu)} {f : ρ' → Mu → Option (ρ × Mu)} (h1 : Fq P μ oc) (h2 : ∀ r μ1, Fq P μ1 (f r μ1)) : Fq P μ (cl oc f) := by
  intro r μ' e
  cases hoc : oc with
  | none => rw [hoc] at e; cases e
  | some q =>
    rw [hoc] at e
    exact fun k j hk => (h2 q.1 q.2 r μ' e k j hk).trans (h1 q.1 q.2 hoc k j hk)
end Fq0

theorem fq_Mo_isPerson {P : Nat → Nat → Prop} {a : Nat} {v1 : Int32} {μ : Mu}   : Fq P μ (Mo_isPerson a v1 μ) := by
  unfold Mo_isPerson
  refine fq_ite ?_ ?_
  · skip
    exact fq_some
  · skip
    refine fq_gF (fun _ => ?_)
    refine fq_ite ?_ ?_
    · skip
      exact fq_some
    · skip
      exact fq_some
theorem fq_Mo_isAlive {P : Nat → Nat → Prop} {a : Nat} {v1 : Int32} {μ : Mu}   : Fq P μ (Mo_isAlive a v1 μ) := by
  unfold Mo_isAlive
  refine fq_ldA (fun _ => ?_)
  refine fq_ite ?_ ?_
  · skip
    exact fq_some
  · skip
    exact fq_some
theorem fq_Mo_seatOf {P : Nat → Nat → Prop} {a : Nat} {v1 : Int32} {μ : Mu}   : Fq P μ (Mo_seatOf a v1 μ) := by
  unfold Mo_seatOf
  refine fq_ldA (fun _ => ?_)
  exact fq_some
theorem fq_Mo_isIn {P : Nat → Nat → Prop} {a : Nat} {v1 : Int32} {v2 : Int32} {v3 : Int32} {μ : Mu}   : Fq P μ (Mo_isIn a v1 v2 v3 μ) := by
  unfold Mo_isIn
  refine fq_ite ?_ ?_
  · skip
    exact fq_some
  · skip
    refine fq_ite ?_ ?_
    · skip
      exact fq_some
    · skip
      exact fq_some
theorem fq_Mo_whoHas_2b {P : Nat → Nat → Prop} {a : Nat} {kb2 : Int32 → Mu → Option (Int32 × Mu)} {v1 : Int32} {v2 : Int32} {μ : Mu}  (h_kb2 : ∀ (w0 : Int32) (μ : Mu), Fq P μ (kb2 w0 μ)) : Fq P μ (Mo_whoHas_2b a kb2 v1 v2 μ) := by
  unfold Mo_whoHas_2b
  refine fq_gF (fun _ => ?_)
  refine fq_ite ?_ ?_
  · skip
    exact fq_some
  · skip
    refine fq_cl (fq_Mo_seatOf) (fun _ _ => ?_)
    refine fq_ite ?_ ?_
    · skip
      exact fq_some
    · skip
      exact h_kb2 _ _
theorem fq_Mo_whoHas_2 {P : Nat → Nat → Prop} {a : Nat} {v1 : Int32}   : ∀ (fu : Nat) (w0 : Int32) (μ : Mu), Fq P μ (Mo_whoHas_2 a v1 fu w0 μ) := by
  intro fu
  induction fu with
  | zero => intros; exact fq_none
  | succ fu ih => intros; exact fq_Mo_whoHas_2b (a := a) (v1 := v1)   ih
theorem fq_Mo_whoHas {P : Nat → Nat → Prop} {a : Nat} {v1 : Int32} {μ : Mu}   : Fq P μ (Mo_whoHas a v1 μ) := by
  unfold Mo_whoHas
  exact fq_Mo_whoHas_2 _ _ _
theorem fq_Mo_canAct_104 {P : Nat → Nat → Prop} {a : Nat} {μ : Mu}   : Fq P μ (Mo_canAct_104 a μ) := by
  unfold Mo_canAct_104
  exact fq_some
theorem fq_Mo_canAct_95 {P : Nat → Nat → Prop} {a : Nat} {v1 : Int32} {μ : Mu}   : Fq P μ (Mo_canAct_95 a v1 μ) := by
  unfold Mo_canAct_95
  refine fq_ite ?_ ?_
  · skip
    exact fq_Mo_canAct_104
  · skip
    refine fq_ite ?_ ?_
    · skip
      exact fq_Mo_canAct_104
    · skip
      exact fq_some
theorem fq_Mo_canAct {P : Nat → Nat → Prop} {a : Nat} {v1 : Int32} {v2 : Int32} {v3 : Int32} {μ : Mu}   : Fq P μ (Mo_canAct a v1 v2 v3 μ) := by
  unfold Mo_canAct
  refine fq_cl (fq_Mo_isPerson) (fun _ _ => ?_)
  refine fq_ite ?_ ?_
  · skip
    exact fq_some
  · skip
    refine fq_cl (fq_Mo_isAlive) (fun _ _ => ?_)
    refine fq_ite ?_ ?_
    · skip
      exact fq_some
    · skip
      refine fq_ite ?_ ?_
      · skip
        refine fq_cl (fq_Mo_seatOf) (fun _ _ => ?_)
        refine fq_ite ?_ ?_
        · skip
          refine fq_cl (fq_Mo_isIn) (fun _ _ => ?_)
          refine fq_ite ?_ ?_
          · skip
            exact fq_some
          · skip
            refine fq_cl (fq_Mo_whoHas) (fun _ _ => ?_)
            refine fq_ite ?_ ?_
            · skip
              exact fq_some
            · skip
              exact fq_some
        · skip
          exact fq_some
      · skip
        refine fq_ite ?_ ?_
        · skip
          refine fq_cl (fq_Mo_seatOf) (fun _ _ => ?_)
          refine fq_ite ?_ ?_
          · skip
            exact fq_some
          · skip
            exact fq_some
        · skip
          refine fq_ite ?_ ?_
          · skip
            refine fq_ldA (fun _ => ?_)
            refine fq_ite ?_ ?_
            · skip
              exact fq_Mo_canAct_104
            · skip
              exact fq_Mo_canAct_95
          · skip
            exact fq_Mo_canAct_95
theorem fq_Mo_keepsAhead_55b {P : Nat → Nat → Prop} {a : Nat} {kb55 : Int32 → Mu → Option (Unit × Mu)} {v1 : Int32} {μ : Mu} (h0 : P (a) 3) (h1 : ∀ j, P (a + 2) j) (h_kb55 : ∀ (w0 : Int32) (μ : Mu), Fq P μ (kb55 w0 μ)) : Fq P μ (Mo_keepsAhead_55b a kb55 v1 μ) := by
  unfold Mo_keepsAhead_55b
  refine fq_ite ?_ ?_
  · skip
    refine fq_gF (fun _ => ?_)
    refine fq_pF h0 (fun _ => ?_)
    exact fq_some
  · skip
    refine fq_gF (fun _ => ?_)
    refine fq_ldA (fun _ => ?_)
    refine fq_stA h1 (fun _ => ?_)
    exact h_kb55 _ _
theorem fq_Mo_keepsAhead_55 {P : Nat → Nat → Prop} {a : Nat} (h0 : P (a) 3) (h1 : ∀ j, P (a + 2) j)  : ∀ (fu : Nat) (w0 : Int32) (μ : Mu), Fq P μ (Mo_keepsAhead_55 a fu w0 μ) := by
  intro fu
  induction fu with
  | zero => intros; exact fq_none
  | succ fu ih => intros; exact fq_Mo_keepsAhead_55b (a := a) h0 h1  ih
theorem fq_Mo_keepsAhead_53 {P : Nat → Nat → Prop} {a : Nat} {μ : Mu} (h0 : P (a) 3) (h1 : ∀ j, P (a + 2) j)  : Fq P μ (Mo_keepsAhead_53 a μ) := by
  unfold Mo_keepsAhead_53
  exact fq_Mo_keepsAhead_55 h0 h1 _ _ _
theorem fq_Mo_keepsAhead_21b {P : Nat → Nat → Prop} {a : Nat} {kb21 : Int32 → Mu → Option (Unit × Mu)} {v1 : Int32} {μ : Mu} (h0 : P (a) 3) (h1 : ∀ j, P (a + 2) j) (h_kb21 : ∀ (w0 : Int32) (μ : Mu), Fq P μ (kb21 w0 μ)) : Fq P μ (Mo_keepsAhead_21b a kb21 v1 μ) := by
  unfold Mo_keepsAhead_21b
  refine fq_gF (fun _ => ?_)
  refine fq_ite ?_ ?_
  · skip
    exact fq_Mo_keepsAhead_53 h0 h1
  · skip
    refine fq_ldA (fun _ => ?_)
    refine fq_stA h1 (fun _ => ?_)
    exact h_kb21 _ _
theorem fq_Mo_keepsAhead_21 {P : Nat → Nat → Prop} {a : Nat} (h0 : P (a) 3) (h1 : ∀ j, P (a + 2) j)  : ∀ (fu : Nat) (w0 : Int32) (μ : Mu), Fq P μ (Mo_keepsAhead_21 a fu w0 μ) := by
  intro fu
  induction fu with
  | zero => intros; exact fq_none
  | succ fu ih => intros; exact fq_Mo_keepsAhead_21b (a := a) h0 h1  ih
theorem fq_Mo_keepsAhead {P : Nat → Nat → Prop} {a : Nat} {μ : Mu} (h0 : P (a) 3) (h1 : ∀ j, P (a + 2) j)  : Fq P μ (Mo_keepsAhead a μ) := by
  unfold Mo_keepsAhead
  refine fq_gF (fun _ => ?_)
  refine fq_ite ?_ ?_
  · skip
    refine fq_gF (fun _ => ?_)
    refine fq_pF h0 (fun _ => ?_)
    exact fq_Mo_keepsAhead_21 h0 h1 _ _ _
  · skip
    exact fq_Mo_keepsAhead_53 h0 h1
theorem fq_Mo_besideOf {P : Nat → Nat → Prop} {a : Nat} {v1 : Int32} {μ : Mu}   : Fq P μ (Mo_besideOf a v1 μ) := by
  unfold Mo_besideOf
  refine fq_cl (fq_Mo_seatOf) (fun _ _ => ?_)
  refine fq_ite ?_ ?_
  · skip
    exact fq_some
  · skip
    refine fq_cl (fq_Mo_seatOf) (fun _ _ => ?_)
    refine fq_cl (fq_Mo_whoHas) (fun _ _ => ?_)
    exact fq_some
theorem fq_Mo_heirsOf_28 {P : Nat → Nat → Prop} {a : Nat} {kb4 : Int32 → Int32 → Mu → Option (Int32 × Mu)} {v1 : Int32} {v2 : Int32} {v3 : Int32} {μ : Mu}  (h_kb4 : ∀ (w0 : Int32) (w1 : Int32) (μ : Mu), Fq P μ (kb4 w0 w1 μ)) : Fq P μ (Mo_heirsOf_28 a kb4 v1 v2 v3 μ) := by
  unfold Mo_heirsOf_28
  exact h_kb4 _ _ _
theorem fq_Mo_heirsOf_4b {P : Nat → Nat → Prop} {a : Nat} {kb4 : Int32 → Int32 → Mu → Option (Int32 × Mu)} {v1 : Int32} {v2 : Int32} {v3 : Int32} {μ : Mu}  (h_kb4 : ∀ (w0 : Int32) (w1 : Int32) (μ : Mu), Fq P μ (kb4 w0 w1 μ)) : Fq P μ (Mo_heirsOf_4b a kb4 v1 v2 v3 μ) := by
  unfold Mo_heirsOf_4b
  refine fq_gF (fun _ => ?_)
  refine fq_ite ?_ ?_
  · skip
    exact fq_some
  · skip
    refine fq_ldA (fun _ => ?_)
    refine fq_ite ?_ ?_
    · skip
      exact fq_Mo_heirsOf_28  h_kb4
    · skip
      exact fq_Mo_heirsOf_28  h_kb4
theorem fq_Mo_heirsOf_4 {P : Nat → Nat → Prop} {a : Nat} {v1 : Int32}   : ∀ (fu : Nat) (w0 : Int32) (w1 : Int32) (μ : Mu), Fq P μ (Mo_heirsOf_4 a v1 fu w0 w1 μ) := by
  intro fu
  induction fu with
  | zero => intros; exact fq_none
  | succ fu ih => intros; exact fq_Mo_heirsOf_4b (a := a) (v1 := v1)   ih
theorem fq_Mo_heirsOf {P : Nat → Nat → Prop} {a : Nat} {v1 : Int32} {μ : Mu}   : Fq P μ (Mo_heirsOf a v1 μ) := by
  unfold Mo_heirsOf
  exact fq_Mo_heirsOf_4 _ _ _ _
theorem fq_Mo_asks_129 {P : Nat → Nat → Prop} {a : Nat} {v1 : Int32} {s0 : Int32} {s1 : Int32} {μ : Mu} (h0 : ∀ j, P (a + 19) j)  : Fq P μ (Mo_asks_129 a v1 s0 s1 μ) := by
  unfold Mo_asks_129
  refine fq_stA h0 (fun _ => ?_)
  refine fq_cl (fq_Mo_heirsOf) (fun _ _ => ?_)
  refine fq_stA h0 (fun _ => ?_)
  refine fq_ldA (fun _ => ?_)
  refine fq_stA h0 (fun _ => ?_)
  exact fq_some
theorem fq_Mo_asks {P : Nat → Nat → Prop} {a : Nat} {v1 : Int32} {μ : Mu} (h0 : ∀ j, P (a + 19) j)  : Fq P μ (Mo_asks a v1 μ) := by
  unfold Mo_asks
  refine fq_cl (fq_Mo_besideOf) (fun _ _ => ?_)
  refine fq_ldA (fun _ => ?_)
  refine fq_stA h0 (fun _ => ?_)
  refine fq_ldA (fun _ => ?_)
  refine fq_stA h0 (fun _ => ?_)
  refine fq_ldA (fun _ => ?_)
  refine fq_stA h0 (fun _ => ?_)
  refine fq_cl (fq_Mo_seatOf) (fun _ _ => ?_)
  refine fq_stA h0 (fun _ => ?_)
  refine fq_ldA (fun _ => ?_)
  refine fq_stA h0 (fun _ => ?_)
  refine fq_ldA (fun _ => ?_)
  refine fq_stA h0 (fun _ => ?_)
  refine fq_ldA (fun _ => ?_)
  refine fq_stA h0 (fun _ => ?_)
  refine fq_ite ?_ ?_
  · skip
    exact fq_Mo_asks_129 h0
  · skip
    refine fq_ldA (fun _ => ?_)
    exact fq_Mo_asks_129 h0
theorem fq_Mo_twoOf {P : Nat → Nat → Prop} {a : Nat} {v1 : Int32} {v2 : Int32} {v3 : Int32} {μ : Mu}   : Fq P μ (Mo_twoOf a v1 v2 v3 μ) := by
  unfold Mo_twoOf
  refine fq_ite ?_ ?_
  · skip
    exact fq_some
  · skip
    refine fq_ite ?_ ?_
    · skip
      exact fq_some
    · skip
      refine fq_ite ?_ ?_
      · skip
        exact fq_some
      · skip
        refine fq_ite ?_ ?_
        · skip
          refine fq_nz ?_
          exact fq_some
        · skip
          refine fq_ite ?_ ?_
          · skip
            refine fq_ite ?_ ?_
            · skip
              exact fq_some
            · skip
              exact fq_some
          · skip
            refine fq_ite ?_ ?_
            · skip
              refine fq_ite ?_ ?_
              · skip
                exact fq_some
              · skip
                exact fq_some
            · skip
              refine fq_ite ?_ ?_
              · skip
                refine fq_ite ?_ ?_
                · skip
                  exact fq_some
                · skip
                  exact fq_some
              · skip
                refine fq_ite ?_ ?_
                · skip
                  exact fq_some
                · skip
                  refine fq_ite ?_ ?_
                  · skip
                    exact fq_some
                  · skip
                    exact fq_some
theorem fq_Mo_runs_170 {P : Nat → Nat → Prop} {a : Nat} {kb12 : Int32 → Int32 → Mu → Option (Int32 × Mu)} {v1 : Int32} {v3 : Int32} {v4 : Int32} {v5 : Int32} {μ : Mu}  (h_kb12 : ∀ (w0 : Int32) (w1 : Int32) (μ : Mu), Fq P μ (kb12 w0 w1 μ)) : Fq P μ (Mo_runs_170 a kb12 v1 v3 v4 v5 μ) := by
  unfold Mo_runs_170
  exact h_kb12 _ _ _
theorem fq_Mo_runs_83 {P : Nat → Nat → Prop} {a : Nat} {kb12 : Int32 → Int32 → Mu → Option (Int32 × Mu)} {v1 : Int32} {v3 : Int32} {v4 : Int32} {v5 : Int32} {s0 : Int32} {s1 : Int32} {μ : Mu} (h0 : ∀ j, P (a + 20) j) (h_kb12 : ∀ (w0 : Int32) (w1 : Int32) (μ : Mu), Fq P μ (kb12 w0 w1 μ)) : Fq P μ (Mo_runs_83 a kb12 v1 v3 v4 v5 s0 s1 μ) := by
  unfold Mo_runs_83
  refine fq_stA h0 (fun _ => ?_)
  exact fq_Mo_runs_170  h_kb12
theorem fq_Mo_runs_45 {P : Nat → Nat → Prop} {a : Nat} {kb12 : Int32 → Int32 → Mu → Option (Int32 × Mu)} {v1 : Int32} {v3 : Int32} {v4 : Int32} {v5 : Int32} {μ : Mu} (h0 : ∀ j, P (a + 20) j) (h_kb12 : ∀ (w0 : Int32) (w1 : Int32) (μ : Mu), Fq P μ (kb12 w0 w1 μ)) : Fq P μ (Mo_runs_45 a kb12 v1 v3 v4 v5 μ) := by
  unfold Mo_runs_45
  refine fq_ldA (fun _ => ?_)
  refine fq_ite ?_ ?_
  · skip
    refine fq_ldA (fun _ => ?_)
    exact fq_Mo_runs_83 h0 h_kb12
  · skip
    refine fq_ldA (fun _ => ?_)
    refine fq_ldA (fun _ => ?_)
    exact fq_Mo_runs_83 h0 h_kb12
theorem fq_Mo_runs_12b {P : Nat → Nat → Prop} {a : Nat} {kb12 : Int32 → Int32 → Mu → Option (Int32 × Mu)} {v1 : Int32} {v3 : Int32} {v4 : Int32} {v5 : Int32} {μ : Mu} (h0 : ∀ j, P (a + 20) j) (h_kb12 : ∀ (w0 : Int32) (w1 : Int32) (μ : Mu), Fq P μ (kb12 w0 w1 μ)) : Fq P μ (Mo_runs_12b a kb12 v1 v3 v4 v5 μ) := by
  unfold Mo_runs_12b
  refine fq_ite ?_ ?_
  · skip
    refine fq_ldA (fun _ => ?_)
    exact fq_some
  · skip
    refine fq_ldA (fun _ => ?_)
    refine fq_ite ?_ ?_
    · skip
      exact fq_Mo_runs_45 h0 h_kb12
    · skip
      refine fq_ldA (fun _ => ?_)
      refine fq_ite ?_ ?_
      · skip
        exact fq_Mo_runs_45 h0 h_kb12
      · skip
        refine fq_ldA (fun _ => ?_)
        refine fq_ite ?_ ?_
        · skip
          refine fq_ldA (fun _ => ?_)
          refine fq_stA h0 (fun _ => ?_)
          exact fq_Mo_runs_170  h_kb12
        · skip
          refine fq_ldA (fun _ => ?_)
          refine fq_ldA (fun _ => ?_)
          refine fq_ldA (fun _ => ?_)
          refine fq_cl (fq_Mo_twoOf) (fun _ _ => ?_)
          refine fq_stA h0 (fun _ => ?_)
          exact fq_Mo_runs_170  h_kb12
theorem fq_Mo_runs_12 {P : Nat → Nat → Prop} {a : Nat} {v1 : Int32} {v3 : Int32} (h0 : ∀ j, P (a + 20) j)  : ∀ (fu : Nat) (w0 : Int32) (w1 : Int32) (μ : Mu), Fq P μ (Mo_runs_12 a v1 v3 fu w0 w1 μ) := by
  intro fu
  induction fu with
  | zero => intros; exact fq_none
  | succ fu ih => intros; exact fq_Mo_runs_12b (a := a) (v1 := v1) (v3 := v3) h0  ih
theorem fq_Mo_runs {P : Nat → Nat → Prop} {a : Nat} {v1 : Int32} {v2 : Int32} {v3 : Int32} {μ : Mu} (h0 : ∀ j, P (a + 20) j)  : Fq P μ (Mo_runs a v1 v2 v3 μ) := by
  unfold Mo_runs
  exact fq_Mo_runs_12 h0 _ _ _ _
theorem fq_Mo_lineOf_59 {P : Nat → Nat → Prop} {a : Nat} {kb2 : Int32 → Mu → Option (Int32 × Mu)} {v1 : Int32} {v2 : Int32} {μ : Mu}  (h_kb2 : ∀ (w0 : Int32) (μ : Mu), Fq P μ (kb2 w0 μ)) : Fq P μ (Mo_lineOf_59 a kb2 v1 v2 μ) := by
  unfold Mo_lineOf_59
  exact h_kb2 _ _
theorem fq_Mo_lineOf_2b {P : Nat → Nat → Prop} {a : Nat} {kb2 : Int32 → Mu → Option (Int32 × Mu)} {v1 : Int32} {v2 : Int32} {μ : Mu} (h0 : ∀ j, P (a + 20) j) (h_kb2 : ∀ (w0 : Int32) (μ : Mu), Fq P μ (kb2 w0 μ)) : Fq P μ (Mo_lineOf_2b a kb2 v1 v2 μ) := by
  unfold Mo_lineOf_2b
  refine fq_ldA (fun _ => ?_)
  refine fq_ite ?_ ?_
  · skip
    exact fq_some
  · skip
    refine fq_ldA (fun _ => ?_)
    refine fq_ite ?_ ?_
    · skip
      refine fq_ldA (fun _ => ?_)
      refine fq_ldA (fun _ => ?_)
      refine fq_ite ?_ ?_
      · skip
        exact fq_some
      · skip
        refine fq_ldA (fun _ => ?_)
        refine fq_ldA (fun _ => ?_)
        refine fq_cl (fq_Mo_runs h0) (fun _ _ => ?_)
        refine fq_ite ?_ ?_
        · skip
          exact fq_Mo_lineOf_59  h_kb2
        · skip
          exact fq_some
    · skip
      exact fq_Mo_lineOf_59  h_kb2
theorem fq_Mo_lineOf_2 {P : Nat → Nat → Prop} {a : Nat} {v1 : Int32} (h0 : ∀ j, P (a + 20) j)  : ∀ (fu : Nat) (w0 : Int32) (μ : Mu), Fq P μ (Mo_lineOf_2 a v1 fu w0 μ) := by
  intro fu
  induction fu with
  | zero => intros; exact fq_none
  | succ fu ih => intros; exact fq_Mo_lineOf_2b (a := a) (v1 := v1) h0  ih
theorem fq_Mo_lineOf {P : Nat → Nat → Prop} {a : Nat} {v1 : Int32} {μ : Mu} (h0 : ∀ j, P (a + 20) j)  : Fq P μ (Mo_lineOf a v1 μ) := by
  unfold Mo_lineOf
  exact fq_Mo_lineOf_2 h0 _ _ _
theorem fq_Mo_held {P : Nat → Nat → Prop} {a : Nat} {v1 : Int32} {v2 : Int32} {v3 : Int32} {μ : Mu}   : Fq P μ (Mo_held a v1 v2 v3 μ) := by
  unfold Mo_held
  refine fq_ite ?_ ?_
  · skip
    refine fq_ite ?_ ?_
    · skip
      exact fq_some
    · skip
      exact fq_some
  · skip
    exact fq_some
theorem fq_Mo_lawTells_37 {P : Nat → Nat → Prop} {a : Nat} {v3 : Int32} {s0 : Int32} {μ : Mu}   : Fq P μ (Mo_lawTells_37 a v3 s0 μ) := by
  unfold Mo_lawTells_37
  refine fq_cl (fq_Mo_held) (fun _ _ => ?_)
  exact fq_some
theorem fq_Mo_lawTells {P : Nat → Nat → Prop} {a : Nat} {v1 : Int32} {v2 : Int32} {v3 : Int32} {μ : Mu} (h0 : ∀ j, P (a + 20) j)  : Fq P μ (Mo_lawTells a v1 v2 v3 μ) := by
  unfold Mo_lawTells
  refine fq_cl (fq_Mo_lineOf h0) (fun _ _ => ?_)
  refine fq_ite ?_ ?_
  · skip
    exact fq_Mo_lawTells_37
  · skip
    refine fq_ldA (fun _ => ?_)
    refine fq_ldA (fun _ => ?_)
    refine fq_cl (fq_Mo_runs h0) (fun _ _ => ?_)
    exact fq_Mo_lawTells_37
theorem fq_Mo_throwsOf {P : Nat → Nat → Prop} {a : Nat} {v1 : Int32} {μ : Mu} (h0 : ∀ j, P (a + 19) j) (h1 : ∀ j, P (a + 20) j)  : Fq P μ (Mo_throwsOf a v1 μ) := by
  unfold Mo_throwsOf
  refine fq_cl (fq_Mo_asks h0) (fun _ _ => ?_)
  refine fq_ldA (fun _ => ?_)
  refine fq_cl (fq_Mo_lawTells h1) (fun _ _ => ?_)
  exact fq_some
theorem fq_Mo_lesser {P : Nat → Nat → Prop} {a : Nat} {v1 : Int32} {v2 : Int32} {μ : Mu}   : Fq P μ (Mo_lesser a v1 v2 μ) := by
  unfold Mo_lesser
  refine fq_ite ?_ ?_
  · skip
    exact fq_some
  · skip
    exact fq_some
theorem fq_Mo_gets {P : Nat → Nat → Prop} {a : Nat} {v1 : Int32} {v2 : Int32} {μ : Mu} (h0 : ∀ j, P (a + 1) j)  : Fq P μ (Mo_gets a v1 v2 μ) := by
  unfold Mo_gets
  refine fq_ldA (fun _ => ?_)
  refine fq_cl (fq_Mo_lesser) (fun _ _ => ?_)
  refine fq_ldA (fun _ => ?_)
  refine fq_stA h0 (fun _ => ?_)
  refine fq_ldA (fun _ => ?_)
  refine fq_stA h0 (fun _ => ?_)
  exact fq_some
theorem fq_Mo_notes {P : Nat → Nat → Prop} {a : Nat} {v1 : Int32} {v2 : Int32} {v3 : Int32} {μ : Mu} (h0 : ∀ j, P (a + 4) j) (h1 : ∀ j, P (a + 1) j)  : Fq P μ (Mo_notes a v1 v2 v3 μ) := by
  unfold Mo_notes
  refine fq_gF (fun _ => ?_)
  refine fq_ite ?_ ?_
  · skip
    refine fq_ldA (fun _ => ?_)
    refine fq_ite ?_ ?_
    · skip
      exact fq_some
    · skip
      refine fq_ldA (fun _ => ?_)
      refine fq_ldA (fun _ => ?_)
      refine fq_stA h0 (fun _ => ?_)
      refine fq_stA h0 (fun _ => ?_)
      refine fq_stA h0 (fun _ => ?_)
      refine fq_stA h0 (fun _ => ?_)
      refine fq_ldA (fun _ => ?_)
      refine fq_stA h1 (fun _ => ?_)
      exact fq_some
  · skip
    exact fq_some
theorem fq_Mo_isSpilt {P : Nat → Nat → Prop} {a : Nat} {v1 : Int32} {μ : Mu} (h0 : ∀ j, P (a + 1) j) (h1 : ∀ j, P (a + 19) j) (h2 : ∀ j, P (a + 20) j) (h3 : ∀ j, P (a + 4) j)  : Fq P μ (Mo_isSpilt a v1 μ) := by
  unfold Mo_isSpilt
  refine fq_ldA (fun _ => ?_)
  refine fq_stA h0 (fun _ => ?_)
  refine fq_cl (fq_Mo_throwsOf h1 h2) (fun _ _ => ?_)
  refine fq_ldA (fun _ => ?_)
  refine fq_stA h0 (fun _ => ?_)
  refine fq_cl (fq_Mo_gets h0) (fun _ _ => ?_)
  refine fq_cl (fq_Mo_notes h3 h0) (fun _ _ => ?_)
  exact fq_some
theorem fq_Mo_isSwept {P : Nat → Nat → Prop} {a : Nat} {v1 : Int32} {μ : Mu} (h0 : ∀ j, P (a + 4) j) (h1 : ∀ j, P (a + 1) j)  : Fq P μ (Mo_isSwept a v1 μ) := by
  unfold Mo_isSwept
  refine fq_ldA (fun _ => ?_)
  refine fq_cl (fq_Mo_notes h0 h1) (fun _ _ => ?_)
  refine fq_ldA (fun _ => ?_)
  refine fq_ldA (fun _ => ?_)
  refine fq_stA h1 (fun _ => ?_)
  refine fq_stA h1 (fun _ => ?_)
  exact fq_some
theorem fq_Mo_dies_84 {P : Nat → Nat → Prop} {a : Nat} {v2 : Int32} {μ : Mu} (h0 : ∀ j, P (a + 1) j)  : Fq P μ (Mo_dies_84 a v2 μ) := by
  unfold Mo_dies_84
  refine fq_ldA (fun _ => ?_)
  refine fq_stA h0 (fun _ => ?_)
  exact fq_some
theorem fq_Mo_dies {P : Nat → Nat → Prop} {a : Nat} {v1 : Int32} {μ : Mu} (h0 : ∀ j, P (a + 1) j) (h1 : ∀ j, P (a + 4) j)  : Fq P μ (Mo_dies a v1 μ) := by
  unfold Mo_dies
  refine fq_ldA (fun _ => ?_)
  refine fq_ldA (fun _ => ?_)
  refine fq_stA h0 (fun _ => ?_)
  refine fq_stA h0 (fun _ => ?_)
  refine fq_stA h0 (fun _ => ?_)
  refine fq_cl (fq_Mo_notes h1 h0) (fun _ _ => ?_)
  refine fq_ite ?_ ?_
  · skip
    exact fq_Mo_dies_84 h0
  · skip
    refine fq_cl (fq_Mo_isAlive) (fun _ _ => ?_)
    refine fq_ite ?_ ?_
    · skip
      exact fq_Mo_dies_84 h0
    · skip
      refine fq_cl (fq_Mo_gets h0) (fun _ _ => ?_)
      refine fq_cl (fq_Mo_notes h1 h0) (fun _ _ => ?_)
      exact fq_some
theorem fq_Mo_act_72 {P : Nat → Nat → Prop} {a : Nat} {v1 : Int32} {v2 : Int32} {μ : Mu} (h0 : ∀ j, P (a + 1) j) (h1 : ∀ j, P (a + 4) j)  : Fq P μ (Mo_act_72 a v1 v2 μ) := by
  unfold Mo_act_72
  refine fq_ite ?_ ?_
  · skip
    refine fq_cl (fq_Mo_dies h0 h1) (fun _ _ => ?_)
    exact fq_some
  · skip
    exact fq_some
theorem fq_Mo_act_62 {P : Nat → Nat → Prop} {a : Nat} {v1 : Int32} {v2 : Int32} {μ : Mu} (h0 : ∀ j, P (a + 4) j) (h1 : ∀ j, P (a + 1) j)  : Fq P μ (Mo_act_62 a v1 v2 μ) := by
  unfold Mo_act_62
  refine fq_ite ?_ ?_
  · skip
    refine fq_cl (fq_Mo_isSwept h0 h1) (fun _ _ => ?_)
    exact fq_Mo_act_72 h1 h0
  · skip
    exact fq_Mo_act_72 h1 h0
theorem fq_Mo_act_47 {P : Nat → Nat → Prop} {a : Nat} {v1 : Int32} {v2 : Int32} {μ : Mu} (h0 : ∀ j, P (a + 1) j) (h1 : ∀ j, P (a + 4) j)  : Fq P μ (Mo_act_47 a v1 v2 μ) := by
  unfold Mo_act_47
  refine fq_ite ?_ ?_
  · skip
    refine fq_stA h0 (fun _ => ?_)
    exact fq_Mo_act_62 h1 h0
  · skip
    exact fq_Mo_act_62 h1 h0
theorem fq_Mo_act_30 {P : Nat → Nat → Prop} {a : Nat} {v1 : Int32} {v2 : Int32} {v3 : Int32} {μ : Mu} (h0 : ∀ j, P (a + 1) j) (h1 : ∀ j, P (a + 4) j)  : Fq P μ (Mo_act_30 a v1 v2 v3 μ) := by
  unfold Mo_act_30
  refine fq_ite ?_ ?_
  · skip
    refine fq_stA h0 (fun _ => ?_)
    exact fq_Mo_act_47 h0 h1
  · skip
    exact fq_Mo_act_47 h0 h1
theorem fq_Mo_act {P : Nat → Nat → Prop} {a : Nat} {v1 : Int32} {v2 : Int32} {v3 : Int32} {μ : Mu} (h0 : P (a) 0) (h1 : P (a) 3) (h2 : ∀ j, P (a + 2) j) (h3 : ∀ j, P (a + 1) j) (h4 : ∀ j, P (a + 19) j) (h5 : ∀ j, P (a + 20) j) (h6 : ∀ j, P (a + 4) j)  : Fq P μ (Mo_act a v1 v2 v3 μ) := by
  unfold Mo_act
  refine fq_pF h0 (fun _ => ?_)
  refine fq_cl (fq_Mo_canAct) (fun _ _ => ?_)
  refine fq_ite ?_ ?_
  · skip
    exact fq_some
  · skip
    refine fq_cl (fq_Mo_keepsAhead h1 h2) (fun _ _ => ?_)
    refine fq_ite ?_ ?_
    · skip
      refine fq_cl (fq_Mo_isSpilt h3 h4 h5 h6) (fun _ _ => ?_)
      exact fq_Mo_act_30 h3 h6
    · skip
      exact fq_Mo_act_30 h3 h6
theorem fq_Mo_added {P : Nat → Nat → Prop} {a : Nat} {v1 : Int32} {v2 : Int32} {μ : Mu}   : Fq P μ (Mo_added a v1 v2 μ) := by
  unfold Mo_added
  refine fq_ite ?_ ?_
  · skip
    exact fq_some
  · skip
    exact fq_some
theorem fq_Mo_aliveSet_26 {P : Nat → Nat → Prop} {a : Nat} {kb4 : Int32 → Int32 → Mu → Option (Int32 × Mu)} {v1 : Int32} {v2 : Int32} {μ : Mu}  (h_kb4 : ∀ (w0 : Int32) (w1 : Int32) (μ : Mu), Fq P μ (kb4 w0 w1 μ)) : Fq P μ (Mo_aliveSet_26 a kb4 v1 v2 μ) := by
  unfold Mo_aliveSet_26
  exact h_kb4 _ _ _
theorem fq_Mo_aliveSet_4b {P : Nat → Nat → Prop} {a : Nat} {kb4 : Int32 → Int32 → Mu → Option (Int32 × Mu)} {v1 : Int32} {v2 : Int32} {μ : Mu}  (h_kb4 : ∀ (w0 : Int32) (w1 : Int32) (μ : Mu), Fq P μ (kb4 w0 w1 μ)) : Fq P μ (Mo_aliveSet_4b a kb4 v1 v2 μ) := by
  unfold Mo_aliveSet_4b
  refine fq_gF (fun _ => ?_)
  refine fq_ite ?_ ?_
  · skip
    exact fq_some
  · skip
    refine fq_cl (fq_Mo_isAlive) (fun _ _ => ?_)
    refine fq_ite ?_ ?_
    · skip
      exact fq_Mo_aliveSet_26  h_kb4
    · skip
      exact fq_Mo_aliveSet_26  h_kb4
theorem fq_Mo_aliveSet_4 {P : Nat → Nat → Prop} {a : Nat}   : ∀ (fu : Nat) (w0 : Int32) (w1 : Int32) (μ : Mu), Fq P μ (Mo_aliveSet_4 a fu w0 w1 μ) := by
  intro fu
  induction fu with
  | zero => intros; exact fq_none
  | succ fu ih => intros; exact fq_Mo_aliveSet_4b (a := a)   ih
theorem fq_Mo_aliveSet {P : Nat → Nat → Prop} {a : Nat} {μ : Mu}   : Fq P μ (Mo_aliveSet a μ) := by
  unfold Mo_aliveSet
  exact fq_Mo_aliveSet_4 _ _ _ _
theorem fq_Mo_areaOf {P : Nat → Nat → Prop} {a : Nat} {v1 : Int32} {v2 : Int32} {v3 : Int32} {μ : Mu}   : Fq P μ (Mo_areaOf a v1 v2 v3 μ) := by
  unfold Mo_areaOf
  refine fq_ldA (fun _ => ?_)
  refine fq_ldA (fun _ => ?_)
  refine fq_ldA (fun _ => ?_)
  refine fq_ldA (fun _ => ?_)
  refine fq_ldA (fun _ => ?_)
  refine fq_ldA (fun _ => ?_)
  refine fq_ldA (fun _ => ?_)
  refine fq_ldA (fun _ => ?_)
  exact fq_some
theorem fq_Mo_book {P : Nat → Nat → Prop} {a : Nat} {v1 : Int32} {v2 : Int32} {μ : Mu} (h0 : P (a) 0)  : Fq P μ (Mo_book a v1 v2 μ) := by
  unfold Mo_book
  refine fq_pF h0 (fun _ => ?_)
  refine fq_ldA (fun _ => ?_)
  refine fq_cl (fq_Mo_isIn) (fun _ _ => ?_)
  refine fq_ite ?_ ?_
  · skip
    exact fq_some
  · skip
    refine fq_cl (fq_Mo_isIn) (fun _ _ => ?_)
    refine fq_ite ?_ ?_
    · skip
      exact fq_some
    · skip
      refine fq_ldA (fun _ => ?_)
      exact fq_some
theorem fq_Mo_canAsk {P : Nat → Nat → Prop} {a : Nat} {v1 : Int32} {μ : Mu}   : Fq P μ (Mo_canAsk a v1 μ) := by
  unfold Mo_canAsk
  refine fq_cl (fq_Mo_isIn) (fun _ _ => ?_)
  refine fq_zg ?_
  exact fq_some
theorem fq_Mo_tallest_44 {P : Nat → Nat → Prop} {a : Nat} {kb4 : Int32 → Int32 → Mu → Option (Int32 × Mu)} {v1 : Int32} {v2 : Int32} {μ : Mu}  (h_kb4 : ∀ (w0 : Int32) (w1 : Int32) (μ : Mu), Fq P μ (kb4 w0 w1 μ)) : Fq P μ (Mo_tallest_44 a kb4 v1 v2 μ) := by
  unfold Mo_tallest_44
  exact h_kb4 _ _ _
theorem fq_Mo_tallest_39 {P : Nat → Nat → Prop} {a : Nat} {kb4 : Int32 → Int32 → Mu → Option (Int32 × Mu)} {v1 : Int32} {v2 : Int32} {s0 : Int32} {s1 : Int32} {μ : Mu}  (h_kb4 : ∀ (w0 : Int32) (w1 : Int32) (μ : Mu), Fq P μ (kb4 w0 w1 μ)) : Fq P μ (Mo_tallest_39 a kb4 v1 v2 s0 s1 μ) := by
  unfold Mo_tallest_39
  refine fq_ite ?_ ?_
  · skip
    exact fq_Mo_tallest_44  h_kb4
  · skip
    exact fq_Mo_tallest_44  h_kb4
theorem fq_Mo_tallest_4b {P : Nat → Nat → Prop} {a : Nat} {kb4 : Int32 → Int32 → Mu → Option (Int32 × Mu)} {v1 : Int32} {v2 : Int32} {μ : Mu}  (h_kb4 : ∀ (w0 : Int32) (w1 : Int32) (μ : Mu), Fq P μ (kb4 w0 w1 μ)) : Fq P μ (Mo_tallest_4b a kb4 v1 v2 μ) := by
  unfold Mo_tallest_4b
  refine fq_gF (fun _ => ?_)
  refine fq_ite ?_ ?_
  · skip
    exact fq_some
  · skip
    refine fq_ldA (fun _ => ?_)
    refine fq_ite ?_ ?_
    · skip
      exact fq_Mo_tallest_39  h_kb4
    · skip
      refine fq_ldA (fun _ => ?_)
      exact fq_Mo_tallest_39  h_kb4
theorem fq_Mo_tallest_4 {P : Nat → Nat → Prop} {a : Nat}   : ∀ (fu : Nat) (w0 : Int32) (w1 : Int32) (μ : Mu), Fq P μ (Mo_tallest_4 a fu w0 w1 μ) := by
  intro fu
  induction fu with
  | zero => intros; exact fq_none
  | succ fu ih => intros; exact fq_Mo_tallest_4b (a := a)   ih
theorem fq_Mo_tallest {P : Nat → Nat → Prop} {a : Nat} {μ : Mu}   : Fq P μ (Mo_tallest a μ) := by
  unfold Mo_tallest
  exact fq_Mo_tallest_4 _ _ _ _
theorem fq_Mo_cattleLick_132 {P : Nat → Nat → Prop} {a : Nat} {kb103 : Int32 → Mu → Option (Unit × Mu)} {v2 : Int32} {μ : Mu}  (h_kb103 : ∀ (w0 : Int32) (μ : Mu), Fq P μ (kb103 w0 μ)) : Fq P μ (Mo_cattleLick_132 a kb103 v2 μ) := by
  unfold Mo_cattleLick_132
  exact h_kb103 _ _
theorem fq_Mo_cattleLick_103b {P : Nat → Nat → Prop} {a : Nat} {kb103 : Int32 → Mu → Option (Unit × Mu)} {v2 : Int32} {μ : Mu} (h0 : ∀ j, P (a + 4) j) (h1 : ∀ j, P (a + 1) j) (h_kb103 : ∀ (w0 : Int32) (μ : Mu), Fq P μ (kb103 w0 μ)) : Fq P μ (Mo_cattleLick_103b a kb103 v2 μ) := by
  unfold Mo_cattleLick_103b
  refine fq_gF (fun _ => ?_)
  refine fq_ite ?_ ?_
  · skip
    exact fq_some
  · skip
    refine fq_ldA (fun _ => ?_)
    refine fq_ite ?_ ?_
    · skip
      exact fq_Mo_cattleLick_132  h_kb103
    · skip
      refine fq_ldA (fun _ => ?_)
      refine fq_cl (fq_Mo_notes h0 h1) (fun _ _ => ?_)
      exact fq_Mo_cattleLick_132  h_kb103
theorem fq_Mo_cattleLick_103 {P : Nat → Nat → Prop} {a : Nat} (h0 : ∀ j, P (a + 4) j) (h1 : ∀ j, P (a + 1) j)  : ∀ (fu : Nat) (w0 : Int32) (μ : Mu), Fq P μ (Mo_cattleLick_103 a fu w0 μ) := by
  intro fu
  induction fu with
  | zero => intros; exact fq_none
  | succ fu ih => intros; exact fq_Mo_cattleLick_103b (a := a) h0 h1  ih
theorem fq_Mo_cattleLick_95 {P : Nat → Nat → Prop} {a : Nat} {kb23 : Int32 → Mu → Option (Unit × Mu)} {v1 : Int32} {v2 : Int32} {μ : Mu}  (h_kb23 : ∀ (w0 : Int32) (μ : Mu), Fq P μ (kb23 w0 μ)) : Fq P μ (Mo_cattleLick_95 a kb23 v1 v2 μ) := by
  unfold Mo_cattleLick_95
  exact h_kb23 _ _
theorem fq_Mo_cattleLick_23b {P : Nat → Nat → Prop} {a : Nat} {kb23 : Int32 → Mu → Option (Unit × Mu)} {v1 : Int32} {v2 : Int32} {μ : Mu} (h0 : ∀ j, P (a + 4) j) (h1 : ∀ j, P (a + 1) j) (h2 : ∀ j, P (a + 21) j) (h_kb23 : ∀ (w0 : Int32) (μ : Mu), Fq P μ (kb23 w0 μ)) : Fq P μ (Mo_cattleLick_23b a kb23 v1 v2 μ) := by
  unfold Mo_cattleLick_23b
  refine fq_ite ?_ ?_
  · skip
    exact fq_Mo_cattleLick_103 h0 h1 _ _ _
  · skip
    refine fq_cl (fq_Mo_tallest) (fun _ _ => ?_)
    refine fq_ite ?_ ?_
    · skip
      exact fq_Mo_cattleLick_95  h_kb23
    · skip
      refine fq_ldA (fun _ => ?_)
      refine fq_stA h1 (fun _ => ?_)
      refine fq_ldA (fun _ => ?_)
      refine fq_stA h1 (fun _ => ?_)
      refine fq_ldA (fun _ => ?_)
      refine fq_stA h2 (fun _ => ?_)
      exact fq_Mo_cattleLick_95  h_kb23
theorem fq_Mo_cattleLick_23 {P : Nat → Nat → Prop} {a : Nat} {v1 : Int32} (h0 : ∀ j, P (a + 4) j) (h1 : ∀ j, P (a + 1) j) (h2 : ∀ j, P (a + 21) j)  : ∀ (fu : Nat) (w0 : Int32) (μ : Mu), Fq P μ (Mo_cattleLick_23 a v1 fu w0 μ) := by
  intro fu
  induction fu with
  | zero => intros; exact fq_none
  | succ fu ih => intros; exact fq_Mo_cattleLick_23b (a := a) (v1 := v1) h0 h1 h2  ih
theorem fq_Mo_cattleLick_2b {P : Nat → Nat → Prop} {a : Nat} {kb2 : Int32 → Mu → Option (Unit × Mu)} {v1 : Int32} {v2 : Int32} {μ : Mu} (h0 : ∀ j, P (a + 4) j) (h1 : ∀ j, P (a + 1) j) (h2 : ∀ j, P (a + 21) j) (h_kb2 : ∀ (w0 : Int32) (μ : Mu), Fq P μ (kb2 w0 μ)) : Fq P μ (Mo_cattleLick_2b a kb2 v1 v2 μ) := by
  unfold Mo_cattleLick_2b
  refine fq_ite ?_ ?_
  · skip
    exact fq_Mo_cattleLick_23 h0 h1 h2 _ _ _
  · skip
    refine fq_stA h2 (fun _ => ?_)
    exact h_kb2 _ _
theorem fq_Mo_cattleLick_2 {P : Nat → Nat → Prop} {a : Nat} {v1 : Int32} (h0 : ∀ j, P (a + 4) j) (h1 : ∀ j, P (a + 1) j) (h2 : ∀ j, P (a + 21) j)  : ∀ (fu : Nat) (w0 : Int32) (μ : Mu), Fq P μ (Mo_cattleLick_2 a v1 fu w0 μ) := by
  intro fu
  induction fu with
  | zero => intros; exact fq_none
  | succ fu ih => intros; exact fq_Mo_cattleLick_2b (a := a) (v1 := v1) h0 h1 h2  ih
theorem fq_Mo_cattleLick {P : Nat → Nat → Prop} {a : Nat} {v1 : Int32} {μ : Mu} (h0 : ∀ j, P (a + 4) j) (h1 : ∀ j, P (a + 1) j) (h2 : ∀ j, P (a + 21) j)  : Fq P μ (Mo_cattleLick a v1 μ) := by
  unfold Mo_cattleLick
  exact fq_Mo_cattleLick_2 h0 h1 h2 _ _ _
theorem fq_Mo_coins_65 {P : Nat → Nat → Prop} {a : Nat} {kb49 : Int32 → Int32 → Mu → Option (Int32 × Mu)} {v1 : Int32} {v2 : Int32} {v3 : Int32} {v4 : Int32} {s0 : Int32} {μ : Mu}  (h_kb49 : ∀ (w0 : Int32) (w1 : Int32) (μ : Mu), Fq P μ (kb49 w0 w1 μ)) : Fq P μ (Mo_coins_65 a kb49 v1 v2 v3 v4 s0 μ) := by
  unfold Mo_coins_65
  refine fq_ite ?_ ?_
  · skip
    exact fq_some
  · skip
    exact h_kb49 _ _ _
theorem fq_Mo_coins_49b {P : Nat → Nat → Prop} {a : Nat} {kb49 : Int32 → Int32 → Mu → Option (Int32 × Mu)} {v1 : Int32} {v2 : Int32} {v3 : Int32} {v4 : Int32} {μ : Mu}  (h_kb49 : ∀ (w0 : Int32) (w1 : Int32) (μ : Mu), Fq P μ (kb49 w0 w1 μ)) : Fq P μ (Mo_coins_49b a kb49 v1 v2 v3 v4 μ) := by
  unfold Mo_coins_49b
  refine fq_ite ?_ ?_
  · skip
    exact fq_Mo_coins_65  h_kb49
  · skip
    exact fq_Mo_coins_65  h_kb49
theorem fq_Mo_coins_49 {P : Nat → Nat → Prop} {a : Nat} {v1 : Int32} {v2 : Int32}   : ∀ (fu : Nat) (w0 : Int32) (w1 : Int32) (μ : Mu), Fq P μ (Mo_coins_49 a v1 v2 fu w0 w1 μ) := by
  intro fu
  induction fu with
  | zero => intros; exact fq_none
  | succ fu ih => intros; exact fq_Mo_coins_49b (a := a) (v1 := v1) (v2 := v2)   ih
theorem fq_Mo_coins_37 {P : Nat → Nat → Prop} {a : Nat} {v1 : Int32} {v2 : Int32} {μ : Mu}   : Fq P μ (Mo_coins_37 a v1 v2 μ) := by
  unfold Mo_coins_37
  refine fq_ite ?_ ?_
  · skip
    exact fq_some
  · skip
    exact fq_Mo_coins_49 _ _ _ _
theorem fq_Mo_coins {P : Nat → Nat → Prop} {a : Nat} {v1 : Int32} {v2 : Int32} {μ : Mu} (h0 : P (a) 0)  : Fq P μ (Mo_coins a v1 v2 μ) := by
  unfold Mo_coins
  refine fq_pF h0 (fun _ => ?_)
  refine fq_cl (fq_Mo_isIn) (fun _ _ => ?_)
  refine fq_ite ?_ ?_
  · skip
    exact fq_some
  · skip
    refine fq_cl (fq_Mo_isIn) (fun _ _ => ?_)
    refine fq_ite ?_ ?_
    · skip
      exact fq_some
    · skip
      refine fq_ite ?_ ?_
      · skip
        refine fq_ite ?_ ?_
        · skip
          exact fq_some
        · skip
          exact fq_Mo_coins_37
      · skip
        exact fq_Mo_coins_37
theorem fq_Mo_feast_41 {P : Nat → Nat → Prop} {a : Nat} {kb4 : Int32 → Int32 → Mu → Option (Int32 × Mu)} {v1 : Int32} {v2 : Int32} {μ : Mu}  (h_kb4 : ∀ (w0 : Int32) (w1 : Int32) (μ : Mu), Fq P μ (kb4 w0 w1 μ)) : Fq P μ (Mo_feast_41 a kb4 v1 v2 μ) := by
  unfold Mo_feast_41
  exact h_kb4 _ _ _
theorem fq_Mo_feast_4b {P : Nat → Nat → Prop} {a : Nat} {kb4 : Int32 → Int32 → Mu → Option (Int32 × Mu)} {v1 : Int32} {v2 : Int32} {μ : Mu} (h0 : ∀ j, P (a + 1) j) (h1 : ∀ j, P (a + 19) j) (h2 : ∀ j, P (a + 20) j) (h3 : ∀ j, P (a + 4) j) (h_kb4 : ∀ (w0 : Int32) (w1 : Int32) (μ : Mu), Fq P μ (kb4 w0 w1 μ)) : Fq P μ (Mo_feast_4b a kb4 v1 v2 μ) := by
  unfold Mo_feast_4b
  refine fq_gF (fun _ => ?_)
  refine fq_ite ?_ ?_
  · skip
    exact fq_some
  · skip
    refine fq_cl (fq_Mo_isAlive) (fun _ _ => ?_)
    refine fq_ite ?_ ?_
    · skip
      exact fq_Mo_feast_41  h_kb4
    · skip
      refine fq_cl (fq_Mo_seatOf) (fun _ _ => ?_)
      refine fq_ite ?_ ?_
      · skip
        exact fq_Mo_feast_41  h_kb4
      · skip
        refine fq_cl (fq_Mo_isSpilt h0 h1 h2 h3) (fun _ _ => ?_)
        exact fq_Mo_feast_41  h_kb4
theorem fq_Mo_feast_4 {P : Nat → Nat → Prop} {a : Nat} (h0 : ∀ j, P (a + 1) j) (h1 : ∀ j, P (a + 19) j) (h2 : ∀ j, P (a + 20) j) (h3 : ∀ j, P (a + 4) j)  : ∀ (fu : Nat) (w0 : Int32) (w1 : Int32) (μ : Mu), Fq P μ (Mo_feast_4 a fu w0 w1 μ) := by
  intro fu
  induction fu with
  | zero => intros; exact fq_none
  | succ fu ih => intros; exact fq_Mo_feast_4b (a := a) h0 h1 h2 h3  ih
theorem fq_Mo_feast {P : Nat → Nat → Prop} {a : Nat} {μ : Mu} (h0 : ∀ j, P (a + 1) j) (h1 : ∀ j, P (a + 19) j) (h2 : ∀ j, P (a + 20) j) (h3 : ∀ j, P (a + 4) j)  : Fq P μ (Mo_feast a μ) := by
  unfold Mo_feast
  exact fq_Mo_feast_4 h0 h1 h2 h3 _ _ _ _
theorem fq_Mo_comes_79 {P : Nat → Nat → Prop} {a : Nat} {v2 : Int32} {μ : Mu} (h0 : ∀ j, P (a + 1) j) (h1 : ∀ j, P (a + 19) j) (h2 : ∀ j, P (a + 20) j) (h3 : ∀ j, P (a + 4) j)  : Fq P μ (Mo_comes_79 a v2 μ) := by
  unfold Mo_comes_79
  refine fq_ite ?_ ?_
  · skip
    refine fq_cl (fq_Mo_feast h0 h1 h2 h3) (fun _ _ => ?_)
    exact fq_some
  · skip
    exact fq_some
theorem fq_Mo_comes_69 {P : Nat → Nat → Prop} {a : Nat} {v2 : Int32} {v3 : Int32} {μ : Mu} (h0 : ∀ j, P (a + 4) j) (h1 : ∀ j, P (a + 1) j) (h2 : ∀ j, P (a + 21) j) (h3 : ∀ j, P (a + 19) j) (h4 : ∀ j, P (a + 20) j)  : Fq P μ (Mo_comes_69 a v2 v3 μ) := by
  unfold Mo_comes_69
  refine fq_ite ?_ ?_
  · skip
    refine fq_cl (fq_Mo_cattleLick h0 h1 h2) (fun _ _ => ?_)
    exact fq_Mo_comes_79 h1 h3 h4 h0
  · skip
    exact fq_Mo_comes_79 h1 h3 h4 h0
theorem fq_Mo_comes_51 {P : Nat → Nat → Prop} {a : Nat} {v2 : Int32} {v3 : Int32} {μ : Mu} (h0 : ∀ j, P (a + 4) j) (h1 : ∀ j, P (a + 1) j) (h2 : ∀ j, P (a + 21) j) (h3 : ∀ j, P (a + 19) j) (h4 : ∀ j, P (a + 20) j)  : Fq P μ (Mo_comes_51 a v2 v3 μ) := by
  unfold Mo_comes_51
  refine fq_ite ?_ ?_
  · skip
    refine fq_cl (fq_Mo_isAlive) (fun _ _ => ?_)
    refine fq_ite ?_ ?_
    · skip
      exact fq_Mo_comes_69 h0 h1 h2 h3 h4
    · skip
      refine fq_cl (fq_Mo_dies h1 h0) (fun _ _ => ?_)
      exact fq_Mo_comes_69 h0 h1 h2 h3 h4
  · skip
    exact fq_Mo_comes_69 h0 h1 h2 h3 h4
theorem fq_Mo_comes_29 {P : Nat → Nat → Prop} {a : Nat} {v1 : Int32} {v2 : Int32} {v3 : Int32} {μ : Mu} (h0 : ∀ j, P (a + 1) j) (h1 : ∀ j, P (a + 4) j) (h2 : ∀ j, P (a + 21) j) (h3 : ∀ j, P (a + 19) j) (h4 : ∀ j, P (a + 20) j)  : Fq P μ (Mo_comes_29 a v1 v2 v3 μ) := by
  unfold Mo_comes_29
  refine fq_ite ?_ ?_
  · skip
    refine fq_ldA (fun _ => ?_)
    refine fq_stA h0 (fun _ => ?_)
    exact fq_Mo_comes_51 h1 h0 h2 h3 h4
  · skip
    exact fq_Mo_comes_51 h1 h0 h2 h3 h4
theorem fq_Mo_comes {P : Nat → Nat → Prop} {a : Nat} {v1 : Int32} {μ : Mu} (h0 : ∀ j, P (a + 1) j) (h1 : ∀ j, P (a + 4) j) (h2 : ∀ j, P (a + 21) j) (h3 : ∀ j, P (a + 19) j) (h4 : ∀ j, P (a + 20) j)  : Fq P μ (Mo_comes a v1 μ) := by
  unfold Mo_comes
  refine fq_ldA (fun _ => ?_)
  refine fq_ldA (fun _ => ?_)
  refine fq_ite ?_ ?_
  · skip
    refine fq_stA h0 (fun _ => ?_)
    exact fq_Mo_comes_29 h0 h1 h2 h3 h4
  · skip
    exact fq_Mo_comes_29 h0 h1 h2 h3 h4
theorem fq_Mo_common_5b {P : Nat → Nat → Prop} {a : Nat} {kb5 : Int32 → Int32 → Mu → Option (Int32 × Mu)} {v3 : Int32} {v4 : Int32} {μ : Mu}  (h_kb5 : ∀ (w0 : Int32) (w1 : Int32) (μ : Mu), Fq P μ (kb5 w0 w1 μ)) : Fq P μ (Mo_common_5b a kb5 v3 v4 μ) := by
  unfold Mo_common_5b
  refine fq_ite ?_ ?_
  · skip
    exact fq_some
  · skip
    refine fq_nz ?_
    exact h_kb5 _ _ _
theorem fq_Mo_common_5 {P : Nat → Nat → Prop} {a : Nat}   : ∀ (fu : Nat) (w0 : Int32) (w1 : Int32) (μ : Mu), Fq P μ (Mo_common_5 a fu w0 w1 μ) := by
  intro fu
  induction fu with
  | zero => intros; exact fq_none
  | succ fu ih => intros; exact fq_Mo_common_5b (a := a)   ih
theorem fq_Mo_common {P : Nat → Nat → Prop} {a : Nat} {v1 : Int32} {v2 : Int32} {μ : Mu}   : Fq P μ (Mo_common a v1 v2 μ) := by
  unfold Mo_common
  exact fq_Mo_common_5 _ _ _ _
theorem fq_Mo_isLeap_21 {P : Nat → Nat → Prop} {a : Nat} {μ : Mu}   : Fq P μ (Mo_isLeap_21 a μ) := by
  unfold Mo_isLeap_21
  exact fq_some
theorem fq_Mo_isLeap {P : Nat → Nat → Prop} {a : Nat} {v1 : Int32} {μ : Mu}   : Fq P μ (Mo_isLeap a v1 μ) := by
  unfold Mo_isLeap
  refine fq_ite ?_ ?_
  · skip
    refine fq_ite ?_ ?_
    · skip
      refine fq_ite ?_ ?_
      · skip
        exact fq_Mo_isLeap_21
      · skip
        exact fq_some
    · skip
      exact fq_Mo_isLeap_21
  · skip
    exact fq_some
theorem fq_Mo_daysOfMonth_44 {P : Nat → Nat → Prop} {a : Nat} {μ : Mu}   : Fq P μ (Mo_daysOfMonth_44 a μ) := by
  unfold Mo_daysOfMonth_44
  exact fq_some
theorem fq_Mo_daysOfMonth {P : Nat → Nat → Prop} {a : Nat} {v1 : Int32} {v2 : Int32} {μ : Mu}   : Fq P μ (Mo_daysOfMonth a v1 v2 μ) := by
  unfold Mo_daysOfMonth
  refine fq_ite ?_ ?_
  · skip
    refine fq_cl (fq_Mo_isLeap) (fun _ _ => ?_)
    refine fq_ite ?_ ?_
    · skip
      exact fq_some
    · skip
      exact fq_some
  · skip
    refine fq_ite ?_ ?_
    · skip
      exact fq_Mo_daysOfMonth_44
    · skip
      refine fq_ite ?_ ?_
      · skip
        exact fq_Mo_daysOfMonth_44
      · skip
        refine fq_ite ?_ ?_
        · skip
          exact fq_Mo_daysOfMonth_44
        · skip
          refine fq_ite ?_ ?_
          · skip
            exact fq_Mo_daysOfMonth_44
          · skip
            exact fq_some
theorem fq_Mo_isDate {P : Nat → Nat → Prop} {a : Nat} {v1 : Int32} {v2 : Int32} {v3 : Int32} {μ : Mu}   : Fq P μ (Mo_isDate a v1 v2 v3 μ) := by
  unfold Mo_isDate
  refine fq_cl (fq_Mo_isIn) (fun _ _ => ?_)
  refine fq_ite ?_ ?_
  · skip
    exact fq_some
  · skip
    refine fq_cl (fq_Mo_isIn) (fun _ _ => ?_)
    refine fq_ite ?_ ?_
    · skip
      exact fq_some
    · skip
      refine fq_cl (fq_Mo_daysOfMonth) (fun _ _ => ?_)
      refine fq_cl (fq_Mo_isIn) (fun _ _ => ?_)
      refine fq_ite ?_ ?_
      · skip
        exact fq_some
      · skip
        exact fq_some
theorem fq_Mo_dayNumber_48b {P : Nat → Nat → Prop} {a : Nat} {kb48 : Int32 → Int32 → Mu → Option (Int32 × Mu)} {v1 : Int32} {v2 : Int32} {v4 : Int32} {v5 : Int32} {μ : Mu}  (h_kb48 : ∀ (w0 : Int32) (w1 : Int32) (μ : Mu), Fq P μ (kb48 w0 w1 μ)) : Fq P μ (Mo_dayNumber_48b a kb48 v1 v2 v4 v5 μ) := by
  unfold Mo_dayNumber_48b
  refine fq_ite ?_ ?_
  · skip
    exact fq_some
  · skip
    refine fq_cl (fq_Mo_daysOfMonth) (fun _ _ => ?_)
    exact h_kb48 _ _ _
theorem fq_Mo_dayNumber_48 {P : Nat → Nat → Prop} {a : Nat} {v1 : Int32} {v2 : Int32}   : ∀ (fu : Nat) (w0 : Int32) (w1 : Int32) (μ : Mu), Fq P μ (Mo_dayNumber_48 a v1 v2 fu w0 w1 μ) := by
  intro fu
  induction fu with
  | zero => intros; exact fq_none
  | succ fu ih => intros; exact fq_Mo_dayNumber_48b (a := a) (v1 := v1) (v2 := v2)   ih
theorem fq_Mo_dayNumber_36 {P : Nat → Nat → Prop} {a : Nat} {kb10 : Int32 → Int32 → Mu → Option (Int32 × Mu)} {v1 : Int32} {v2 : Int32} {v5 : Int32} {s0 : Int32} {s1 : Int32} {μ : Mu}  (h_kb10 : ∀ (w0 : Int32) (w1 : Int32) (μ : Mu), Fq P μ (kb10 w0 w1 μ)) : Fq P μ (Mo_dayNumber_36 a kb10 v1 v2 v5 s0 s1 μ) := by
  unfold Mo_dayNumber_36
  exact h_kb10 _ _ _
theorem fq_Mo_dayNumber_10b {P : Nat → Nat → Prop} {a : Nat} {kb10 : Int32 → Int32 → Mu → Option (Int32 × Mu)} {v1 : Int32} {v2 : Int32} {v4 : Int32} {v5 : Int32} {μ : Mu}  (h_kb10 : ∀ (w0 : Int32) (w1 : Int32) (μ : Mu), Fq P μ (kb10 w0 w1 μ)) : Fq P μ (Mo_dayNumber_10b a kb10 v1 v2 v4 v5 μ) := by
  unfold Mo_dayNumber_10b
  refine fq_ite ?_ ?_
  · skip
    exact fq_Mo_dayNumber_48 _ _ _ _
  · skip
    refine fq_cl (fq_Mo_isLeap) (fun _ _ => ?_)
    refine fq_ite ?_ ?_
    · skip
      exact fq_Mo_dayNumber_36  h_kb10
    · skip
      exact fq_Mo_dayNumber_36  h_kb10
theorem fq_Mo_dayNumber_10 {P : Nat → Nat → Prop} {a : Nat} {v1 : Int32} {v2 : Int32}   : ∀ (fu : Nat) (w0 : Int32) (w1 : Int32) (μ : Mu), Fq P μ (Mo_dayNumber_10 a v1 v2 fu w0 w1 μ) := by
  intro fu
  induction fu with
  | zero => intros; exact fq_none
  | succ fu ih => intros; exact fq_Mo_dayNumber_10b (a := a) (v1 := v1) (v2 := v2)   ih
theorem fq_Mo_dayNumber {P : Nat → Nat → Prop} {a : Nat} {v1 : Int32} {v2 : Int32} {v3 : Int32} {μ : Mu}   : Fq P μ (Mo_dayNumber a v1 v2 v3 μ) := by
  unfold Mo_dayNumber
  exact fq_Mo_dayNumber_10 _ _ _ _
theorem fq_Mo_date {P : Nat → Nat → Prop} {a : Nat} {v1 : Int32} {v2 : Int32} {v3 : Int32} {μ : Mu} (h0 : P (a) 0) (h1 : P (a) 41)  : Fq P μ (Mo_date a v1 v2 v3 μ) := by
  unfold Mo_date
  refine fq_pF h0 (fun _ => ?_)
  refine fq_cl (fq_Mo_isDate) (fun _ _ => ?_)
  refine fq_ite ?_ ?_
  · skip
    exact fq_some
  · skip
    refine fq_cl (fq_Mo_dayNumber) (fun _ _ => ?_)
    refine fq_pF h1 (fun _ => ?_)
    exact fq_some
theorem fq_Mo_dayOfWeek {P : Nat → Nat → Prop} {a : Nat} {v1 : Int32} {μ : Mu}   : Fq P μ (Mo_dayOfWeek a v1 μ) := by
  unfold Mo_dayOfWeek
  exact fq_some
theorem fq_Mo_spillsOf {P : Nat → Nat → Prop} {a : Nat} {v1 : Int32} {μ : Mu} (h0 : ∀ j, P (a + 19) j) (h1 : ∀ j, P (a + 20) j)  : Fq P μ (Mo_spillsOf a v1 μ) := by
  unfold Mo_spillsOf
  refine fq_cl (fq_Mo_asks h0) (fun _ _ => ?_)
  refine fq_cl (fq_Mo_lawTells h1) (fun _ _ => ?_)
  exact fq_some
theorem fq_Mo_draw {P : Nat → Nat → Prop} {a : Nat} {v1 : Int32} {μ : Mu} (h0 : ∀ j, P (a + 1) j)  : Fq P μ (Mo_draw a v1 μ) := by
  unfold Mo_draw
  refine fq_ldA (fun _ => ?_)
  refine fq_stA h0 (fun _ => ?_)
  refine fq_ldA (fun _ => ?_)
  refine fq_nz ?_
  exact fq_some
theorem fq_Mo_happens {P : Nat → Nat → Prop} {a : Nat} {v1 : Int32} {μ : Mu} (h0 : ∀ j, P (a + 1) j)  : Fq P μ (Mo_happens a v1 μ) := by
  unfold Mo_happens
  refine fq_gF (fun _ => ?_)
  refine fq_ite ?_ ?_
  · skip
    refine fq_ite ?_ ?_
    · skip
      exact fq_some
    · skip
      refine fq_cl (fq_Mo_draw h0) (fun _ _ => ?_)
      refine fq_ite ?_ ?_
      · skip
        exact fq_some
      · skip
        exact fq_some
  · skip
    refine fq_ite ?_ ?_
    · skip
      exact fq_some
    · skip
      exact fq_some
theorem fq_Mo_runsOf {P : Nat → Nat → Prop} {a : Nat} {v1 : Int32} {μ : Mu} (h0 : ∀ j, P (a + 19) j) (h1 : ∀ j, P (a + 20) j)  : Fq P μ (Mo_runsOf a v1 μ) := by
  unfold Mo_runsOf
  refine fq_cl (fq_Mo_asks h0) (fun _ _ => ?_)
  refine fq_ldA (fun _ => ?_)
  refine fq_ldA (fun _ => ?_)
  refine fq_ldA (fun _ => ?_)
  refine fq_cl (fq_Mo_lawTells h1) (fun _ _ => ?_)
  exact fq_some
theorem fq_Mo_runsOff {P : Nat → Nat → Prop} {a : Nat} {v1 : Int32} {μ : Mu} (h0 : ∀ j, P (a + 19) j) (h1 : ∀ j, P (a + 20) j) (h2 : ∀ j, P (a + 1) j) (h3 : ∀ j, P (a + 4) j)  : Fq P μ (Mo_runsOff a v1 μ) := by
  unfold Mo_runsOff
  refine fq_cl (fq_Mo_runsOf h0 h1) (fun _ _ => ?_)
  refine fq_ite ?_ ?_
  · skip
    exact fq_some
  · skip
    refine fq_ldA (fun _ => ?_)
    refine fq_stA h2 (fun _ => ?_)
    refine fq_cl (fq_Mo_notes h3 h2) (fun _ _ => ?_)
    refine fq_cl (fq_Mo_besideOf) (fun _ _ => ?_)
    refine fq_ldA (fun _ => ?_)
    refine fq_stA h2 (fun _ => ?_)
    refine fq_ite ?_ ?_
    · skip
      refine fq_ldA (fun _ => ?_)
      refine fq_stA h2 (fun _ => ?_)
      exact fq_some
    · skip
      refine fq_cl (fq_Mo_gets h2) (fun _ _ => ?_)
      exact fq_some
theorem fq_Mo_goesBy_128 {P : Nat → Nat → Prop} {a : Nat} {kb94 : Int32 → Mu → Option (Int32 × Mu)} {v1 : Int32} {v2 : Int32} {μ : Mu}  (h_kb94 : ∀ (w0 : Int32) (μ : Mu), Fq P μ (kb94 w0 μ)) : Fq P μ (Mo_goesBy_128 a kb94 v1 v2 μ) := by
  unfold Mo_goesBy_128
  exact h_kb94 _ _
theorem fq_Mo_goesBy_94b {P : Nat → Nat → Prop} {a : Nat} {kb94 : Int32 → Mu → Option (Int32 × Mu)} {v1 : Int32} {v2 : Int32} {μ : Mu} (h0 : ∀ j, P (a + 1) j) (h1 : ∀ j, P (a + 19) j) (h2 : ∀ j, P (a + 20) j) (h3 : ∀ j, P (a + 4) j) (h_kb94 : ∀ (w0 : Int32) (μ : Mu), Fq P μ (kb94 w0 μ)) : Fq P μ (Mo_goesBy_94b a kb94 v1 v2 μ) := by
  unfold Mo_goesBy_94b
  refine fq_ite ?_ ?_
  · skip
    refine fq_ldA (fun _ => ?_)
    refine fq_stA h0 (fun _ => ?_)
    exact fq_some
  · skip
    refine fq_cl (fq_Mo_whoHas) (fun _ _ => ?_)
    refine fq_ite ?_ ?_
    · skip
      exact fq_Mo_goesBy_128  h_kb94
    · skip
      refine fq_ldA (fun _ => ?_)
      refine fq_ite ?_ ?_
      · skip
        exact fq_Mo_goesBy_128  h_kb94
      · skip
        refine fq_cl (fq_Mo_runsOff h1 h2 h0 h3) (fun _ _ => ?_)
        exact fq_Mo_goesBy_128  h_kb94
theorem fq_Mo_goesBy_94 {P : Nat → Nat → Prop} {a : Nat} {v1 : Int32} (h0 : ∀ j, P (a + 1) j) (h1 : ∀ j, P (a + 19) j) (h2 : ∀ j, P (a + 20) j) (h3 : ∀ j, P (a + 4) j)  : ∀ (fu : Nat) (w0 : Int32) (μ : Mu), Fq P μ (Mo_goesBy_94 a v1 fu w0 μ) := by
  intro fu
  induction fu with
  | zero => intros; exact fq_none
  | succ fu ih => intros; exact fq_Mo_goesBy_94b (a := a) (v1 := v1) h0 h1 h2 h3  ih
theorem fq_Mo_goesBy_86 {P : Nat → Nat → Prop} {a : Nat} {kb46 : Int32 → Int32 → Mu → Option (Int32 × Mu)} {v1 : Int32} {v2 : Int32} {μ : Mu}  (h_kb46 : ∀ (w0 : Int32) (w1 : Int32) (μ : Mu), Fq P μ (kb46 w0 w1 μ)) : Fq P μ (Mo_goesBy_86 a kb46 v1 v2 μ) := by
  unfold Mo_goesBy_86
  exact h_kb46 _ _ _
theorem fq_Mo_goesBy_46b {P : Nat → Nat → Prop} {a : Nat} {kb46 : Int32 → Int32 → Mu → Option (Int32 × Mu)} {v1 : Int32} {v2 : Int32} {μ : Mu} (h0 : ∀ j, P (a + 1) j) (h1 : ∀ j, P (a + 19) j) (h2 : ∀ j, P (a + 20) j) (h3 : ∀ j, P (a + 4) j) (h_kb46 : ∀ (w0 : Int32) (w1 : Int32) (μ : Mu), Fq P μ (kb46 w0 w1 μ)) : Fq P μ (Mo_goesBy_46b a kb46 v1 v2 μ) := by
  unfold Mo_goesBy_46b
  refine fq_gF (fun _ => ?_)
  refine fq_ite ?_ ?_
  · skip
    exact fq_Mo_goesBy_94 h0 h1 h2 h3 _ _ _
  · skip
    refine fq_cl (fq_Mo_isAlive) (fun _ _ => ?_)
    refine fq_ite ?_ ?_
    · skip
      exact fq_Mo_goesBy_86  h_kb46
    · skip
      refine fq_cl (fq_Mo_spillsOf h1 h2) (fun _ _ => ?_)
      refine fq_cl (fq_Mo_happens h0) (fun _ _ => ?_)
      refine fq_ite ?_ ?_
      · skip
        exact fq_Mo_goesBy_86  h_kb46
      · skip
        refine fq_cl (fq_Mo_isSpilt h0 h1 h2 h3) (fun _ _ => ?_)
        exact fq_Mo_goesBy_86  h_kb46
theorem fq_Mo_goesBy_46 {P : Nat → Nat → Prop} {a : Nat} (h0 : ∀ j, P (a + 1) j) (h1 : ∀ j, P (a + 19) j) (h2 : ∀ j, P (a + 20) j) (h3 : ∀ j, P (a + 4) j)  : ∀ (fu : Nat) (w0 : Int32) (w1 : Int32) (μ : Mu), Fq P μ (Mo_goesBy_46 a fu w0 w1 μ) := by
  intro fu
  induction fu with
  | zero => intros; exact fq_none
  | succ fu ih => intros; exact fq_Mo_goesBy_46b (a := a) h0 h1 h2 h3  ih
theorem fq_Mo_goesBy_37 {P : Nat → Nat → Prop} {a : Nat} {kb4 : Int32 → Int32 → Mu → Option (Int32 × Mu)} {v1 : Int32} {v2 : Int32} {μ : Mu}  (h_kb4 : ∀ (w0 : Int32) (w1 : Int32) (μ : Mu), Fq P μ (kb4 w0 w1 μ)) : Fq P μ (Mo_goesBy_37 a kb4 v1 v2 μ) := by
  unfold Mo_goesBy_37
  exact h_kb4 _ _ _
theorem fq_Mo_goesBy_4b {P : Nat → Nat → Prop} {a : Nat} {kb4 : Int32 → Int32 → Mu → Option (Int32 × Mu)} {v1 : Int32} {v2 : Int32} {μ : Mu} (h0 : ∀ j, P (a + 1) j) (h1 : ∀ j, P (a + 19) j) (h2 : ∀ j, P (a + 20) j) (h3 : ∀ j, P (a + 4) j) (h4 : ∀ j, P (a + 21) j) (h_kb4 : ∀ (w0 : Int32) (w1 : Int32) (μ : Mu), Fq P μ (kb4 w0 w1 μ)) : Fq P μ (Mo_goesBy_4b a kb4 v1 v2 μ) := by
  unfold Mo_goesBy_4b
  refine fq_gF (fun _ => ?_)
  refine fq_ite ?_ ?_
  · skip
    exact fq_Mo_goesBy_46 h0 h1 h2 h3 _ _ _ _
  · skip
    refine fq_ldA (fun _ => ?_)
    refine fq_ldA (fun _ => ?_)
    refine fq_ite ?_ ?_
    · skip
      refine fq_cl (fq_Mo_comes h0 h3 h4 h1 h2) (fun _ _ => ?_)
      exact fq_Mo_goesBy_37  h_kb4
    · skip
      exact fq_Mo_goesBy_37  h_kb4
theorem fq_Mo_goesBy_4 {P : Nat → Nat → Prop} {a : Nat} (h0 : ∀ j, P (a + 1) j) (h1 : ∀ j, P (a + 19) j) (h2 : ∀ j, P (a + 20) j) (h3 : ∀ j, P (a + 4) j) (h4 : ∀ j, P (a + 21) j)  : ∀ (fu : Nat) (w0 : Int32) (w1 : Int32) (μ : Mu), Fq P μ (Mo_goesBy_4 a fu w0 w1 μ) := by
  intro fu
  induction fu with
  | zero => intros; exact fq_none
  | succ fu ih => intros; exact fq_Mo_goesBy_4b (a := a) h0 h1 h2 h3 h4  ih
theorem fq_Mo_goesBy {P : Nat → Nat → Prop} {a : Nat} {μ : Mu} (h0 : ∀ j, P (a + 1) j) (h1 : ∀ j, P (a + 19) j) (h2 : ∀ j, P (a + 20) j) (h3 : ∀ j, P (a + 4) j) (h4 : ∀ j, P (a + 21) j)  : Fq P μ (Mo_goesBy a μ) := by
  unfold Mo_goesBy
  exact fq_Mo_goesBy_4 h0 h1 h2 h3 h4 _ _ _ _
theorem fq_Mo_days_36b {P : Nat → Nat → Prop} {a : Nat} {kb36 : Int32 → Int32 → Mu → Option (Int32 × Mu)} {v1 : Int32} {v2 : Int32} {v3 : Int32} {μ : Mu} (h0 : P (a) 3) (h1 : ∀ j, P (a + 2) j) (h2 : ∀ j, P (a + 1) j) (h3 : ∀ j, P (a + 19) j) (h4 : ∀ j, P (a + 20) j) (h5 : ∀ j, P (a + 4) j) (h6 : ∀ j, P (a + 21) j) (h_kb36 : ∀ (w0 : Int32) (w1 : Int32) (μ : Mu), Fq P μ (kb36 w0 w1 μ)) : Fq P μ (Mo_days_36b a kb36 v1 v2 v3 μ) := by
  unfold Mo_days_36b
  refine fq_ite ?_ ?_
  · skip
    exact fq_some
  · skip
    refine fq_cl (fq_Mo_keepsAhead h0 h1) (fun _ _ => ?_)
    refine fq_cl (fq_Mo_goesBy h2 h3 h4 h5 h6) (fun _ _ => ?_)
    exact h_kb36 _ _ _
theorem fq_Mo_days_36 {P : Nat → Nat → Prop} {a : Nat} {v1 : Int32} (h0 : P (a) 3) (h1 : ∀ j, P (a + 2) j) (h2 : ∀ j, P (a + 1) j) (h3 : ∀ j, P (a + 19) j) (h4 : ∀ j, P (a + 20) j) (h5 : ∀ j, P (a + 4) j) (h6 : ∀ j, P (a + 21) j)  : ∀ (fu : Nat) (w0 : Int32) (w1 : Int32) (μ : Mu), Fq P μ (Mo_days_36 a v1 fu w0 w1 μ) := by
  intro fu
  induction fu with
  | zero => intros; exact fq_none
  | succ fu ih => intros; exact fq_Mo_days_36b (a := a) (v1 := v1) h0 h1 h2 h3 h4 h5 h6  ih
theorem fq_Mo_days {P : Nat → Nat → Prop} {a : Nat} {v1 : Int32} {μ : Mu} (h0 : P (a) 0) (h1 : P (a) 3) (h2 : ∀ j, P (a + 2) j) (h3 : ∀ j, P (a + 1) j) (h4 : ∀ j, P (a + 19) j) (h5 : ∀ j, P (a + 20) j) (h6 : ∀ j, P (a + 4) j) (h7 : ∀ j, P (a + 21) j)  : Fq P μ (Mo_days a v1 μ) := by
  unfold Mo_days
  refine fq_pF h0 (fun _ => ?_)
  refine fq_cl (fq_Mo_isIn) (fun _ _ => ?_)
  refine fq_ite ?_ ?_
  · skip
    exact fq_some
  · skip
    refine fq_ldA (fun _ => ?_)
    refine fq_ite ?_ ?_
    · skip
      exact fq_Mo_days_36 h1 h2 h3 h4 h5 h6 h7 _ _ _ _
    · skip
      exact fq_some
theorem fq_Mo_doorHigh {P : Nat → Nat → Prop} {a : Nat} {v1 : Int32} {μ : Mu}   : Fq P μ (Mo_doorHigh a v1 μ) := by
  unfold Mo_doorHigh
  refine fq_cl (fq_Mo_whoHas) (fun _ _ => ?_)
  refine fq_ite ?_ ?_
  · skip
    exact fq_some
  · skip
    refine fq_ldA (fun _ => ?_)
    exact fq_some
theorem fq_Mo_door_99 {P : Nat → Nat → Prop} {a : Nat} {kb27 : Int32 → Int32 → Int32 → Int32 → Mu → Option (Int32 × Mu)} {kb43 : Int32 → Int32 → Int32 → Int32 → Int32 → Mu → Option (Int32 × Mu)} {v1 : Int32} {v2 : Int32} {v3 : Int32} {v4 : Int32} {v5 : Int32} {v6 : Int32} {v7 : Int32} {μ : Mu}  (h_kb27 : ∀ (w0 : Int32) (w1 : Int32) (w2 : Int32) (w3 : Int32) (μ : Mu), Fq P μ (kb27 w0 w1 w2 w3 μ)) (h_kb43 : ∀ (w0 : Int32) (w1 : Int32) (w2 : Int32) (w3 : Int32) (w4 : Int32) (μ : Mu), Fq P μ (kb43 w0 w1 w2 w3 w4 μ)) : Fq P μ (Mo_door_99 a kb27 kb43 v1 v2 v3 v4 v5 v6 v7 μ) := by
  unfold Mo_door_99
  exact h_kb43 _ _ _ _ _ _
theorem fq_Mo_door_43b {P : Nat → Nat → Prop} {a : Nat} {kb27 : Int32 → Int32 → Int32 → Int32 → Mu → Option (Int32 × Mu)} {kb43 : Int32 → Int32 → Int32 → Int32 → Int32 → Mu → Option (Int32 × Mu)} {v1 : Int32} {v5 : Int32} {v2 : Int32} {v3 : Int32} {v4 : Int32} {v6 : Int32} {v7 : Int32} {μ : Mu}  (h_kb27 : ∀ (w0 : Int32) (w1 : Int32) (w2 : Int32) (w3 : Int32) (μ : Mu), Fq P μ (kb27 w0 w1 w2 w3 μ)) (h_kb43 : ∀ (w0 : Int32) (w1 : Int32) (w2 : Int32) (w3 : Int32) (w4 : Int32) (μ : Mu), Fq P μ (kb43 w0 w1 w2 w3 w4 μ)) : Fq P μ (Mo_door_43b a kb27 kb43 v1 v5 v2 v3 v4 v6 v7 μ) := by
  unfold Mo_door_43b
  refine fq_ite ?_ ?_
  · skip
    exact h_kb27 _ _ _ _ _
  · skip
    refine fq_cl (fq_Mo_doorHigh) (fun _ _ => ?_)
    refine fq_cl (fq_Mo_lesser) (fun _ _ => ?_)
    refine fq_ite ?_ ?_
    · skip
      exact fq_Mo_door_99  h_kb27 h_kb43
    · skip
      exact fq_Mo_door_99  h_kb27 h_kb43
theorem fq_Mo_door_43 {P : Nat → Nat → Prop} {a : Nat} {kb27 : Int32 → Int32 → Int32 → Int32 → Mu → Option (Int32 × Mu)} {v1 : Int32} {v5 : Int32}  (h_kb27 : ∀ (w0 : Int32) (w1 : Int32) (w2 : Int32) (w3 : Int32) (μ : Mu), Fq P μ (kb27 w0 w1 w2 w3 μ)) : ∀ (fu : Nat) (w0 : Int32) (w1 : Int32) (w2 : Int32) (w3 : Int32) (w4 : Int32) (μ : Mu), Fq P μ (Mo_door_43 a kb27 v1 v5 fu w0 w1 w2 w3 w4 μ) := by
  intro fu
  induction fu with
  | zero => intros; exact fq_none
  | succ fu ih => intros; exact fq_Mo_door_43b (a := a) (kb27 := kb27) (v1 := v1) (v5 := v5)  h_kb27 ih
theorem fq_Mo_door_27b {P : Nat → Nat → Prop} {a : Nat} {kb27 : Int32 → Int32 → Int32 → Int32 → Mu → Option (Int32 × Mu)} {v1 : Int32} {v2 : Int32} {v3 : Int32} {v4 : Int32} {v5 : Int32} {μ : Mu}  (h_kb27 : ∀ (w0 : Int32) (w1 : Int32) (w2 : Int32) (w3 : Int32) (μ : Mu), Fq P μ (kb27 w0 w1 w2 w3 μ)) : Fq P μ (Mo_door_27b a kb27 v1 v2 v3 v4 v5 μ) := by
  unfold Mo_door_27b
  refine fq_ite ?_ ?_
  · skip
    refine fq_ite ?_ ?_
    · skip
      exact fq_some
    · skip
      refine fq_ite ?_ ?_
      · skip
        exact fq_some
      · skip
        exact fq_some
  · skip
    exact fq_Mo_door_43  h_kb27 _ _ _ _ _ _ _
theorem fq_Mo_door_27 {P : Nat → Nat → Prop} {a : Nat} {v1 : Int32}   : ∀ (fu : Nat) (w0 : Int32) (w1 : Int32) (w2 : Int32) (w3 : Int32) (μ : Mu), Fq P μ (Mo_door_27 a v1 fu w0 w1 w2 w3 μ) := by
  intro fu
  induction fu with
  | zero => intros; exact fq_none
  | succ fu ih => intros; exact fq_Mo_door_27b (a := a) (v1 := v1)   ih
theorem fq_Mo_door {P : Nat → Nat → Prop} {a : Nat} {v1 : Int32} {μ : Mu} (h0 : P (a) 0)  : Fq P μ (Mo_door a v1 μ) := by
  unfold Mo_door
  refine fq_pF h0 (fun _ => ?_)
  refine fq_cl (fq_Mo_isIn) (fun _ _ => ?_)
  refine fq_ite ?_ ?_
  · skip
    exact fq_some
  · skip
    exact fq_Mo_door_27 _ _ _ _ _ _
theorem fq_Mo_drip {P : Nat → Nat → Prop} {a : Nat} {v1 : Int32} {μ : Mu} (h0 : P (a) 0) (h1 : P (a) 51) (h2 : ∀ j, P (a + 29) j)  : Fq P μ (Mo_drip a v1 μ) := by
  unfold Mo_drip
  refine fq_pF h0 (fun _ => ?_)
  refine fq_ite ?_ ?_
  · skip
    refine fq_pF h1 (fun _ => ?_)
    exact fq_some
  · skip
    refine fq_cl (fq_Mo_isIn) (fun _ _ => ?_)
    refine fq_ite ?_ ?_
    · skip
      exact fq_some
    · skip
      refine fq_gF (fun _ => ?_)
      refine fq_ite ?_ ?_
      · skip
        exact fq_some
      · skip
        refine fq_gF (fun _ => ?_)
        refine fq_stA h2 (fun _ => ?_)
        refine fq_gF (fun _ => ?_)
        refine fq_pF h1 (fun _ => ?_)
        refine fq_gF (fun _ => ?_)
        exact fq_some
theorem fq_Mo_isDry_2b {P : Nat → Nat → Prop} {a : Nat} {kb2 : Int32 → Mu → Option (Int32 × Mu)} {v1 : Int32} {v2 : Int32} {μ : Mu}  (h_kb2 : ∀ (w0 : Int32) (μ : Mu), Fq P μ (kb2 w0 μ)) : Fq P μ (Mo_isDry_2b a kb2 v1 v2 μ) := by
  unfold Mo_isDry_2b
  refine fq_gF (fun _ => ?_)
  refine fq_ite ?_ ?_
  · skip
    exact fq_some
  · skip
    refine fq_ldA (fun _ => ?_)
    refine fq_nz ?_
    refine fq_ite ?_ ?_
    · skip
      exact fq_some
    · skip
      exact h_kb2 _ _
theorem fq_Mo_isDry_2 {P : Nat → Nat → Prop} {a : Nat} {v1 : Int32}   : ∀ (fu : Nat) (w0 : Int32) (μ : Mu), Fq P μ (Mo_isDry_2 a v1 fu w0 μ) := by
  intro fu
  induction fu with
  | zero => intros; exact fq_none
  | succ fu ih => intros; exact fq_Mo_isDry_2b (a := a) (v1 := v1)   ih
theorem fq_Mo_isDry {P : Nat → Nat → Prop} {a : Nat} {v1 : Int32} {μ : Mu}   : Fq P μ (Mo_isDry a v1 μ) := by
  unfold Mo_isDry
  exact fq_Mo_isDry_2 _ _ _
theorem fq_Mo_drips_97 {P : Nat → Nat → Prop} {a : Nat} {kb80 : Int32 → Int32 → Mu → Option (Int32 × Mu)} {v1 : Int32} {v2 : Int32} {v3 : Int32} {μ : Mu}  (h_kb80 : ∀ (w0 : Int32) (w1 : Int32) (μ : Mu), Fq P μ (kb80 w0 w1 μ)) : Fq P μ (Mo_drips_97 a kb80 v1 v2 v3 μ) := by
  unfold Mo_drips_97
  exact h_kb80 _ _ _
theorem fq_Mo_drips_80b {P : Nat → Nat → Prop} {a : Nat} {kb80 : Int32 → Int32 → Mu → Option (Int32 × Mu)} {v1 : Int32} {v2 : Int32} {v3 : Int32} {μ : Mu}  (h_kb80 : ∀ (w0 : Int32) (w1 : Int32) (μ : Mu), Fq P μ (kb80 w0 w1 μ)) : Fq P μ (Mo_drips_80b a kb80 v1 v2 v3 μ) := by
  unfold Mo_drips_80b
  refine fq_ite ?_ ?_
  · skip
    exact fq_some
  · skip
    refine fq_cl (fq_Mo_isDry) (fun _ _ => ?_)
    refine fq_ite ?_ ?_
    · skip
      exact fq_Mo_drips_97  h_kb80
    · skip
      exact fq_Mo_drips_97  h_kb80
theorem fq_Mo_drips_80 {P : Nat → Nat → Prop} {a : Nat} {v1 : Int32}   : ∀ (fu : Nat) (w0 : Int32) (w1 : Int32) (μ : Mu), Fq P μ (Mo_drips_80 a v1 fu w0 w1 μ) := by
  intro fu
  induction fu with
  | zero => intros; exact fq_none
  | succ fu ih => intros; exact fq_Mo_drips_80b (a := a) (v1 := v1)   ih
theorem fq_Mo_drips_14b {P : Nat → Nat → Prop} {a : Nat} {kb14 : Int32 → Int32 → Mu → Option (Int32 × Mu)} {v2 : Int32} {v3 : Int32} {μ : Mu}  (h_kb14 : ∀ (w0 : Int32) (w1 : Int32) (μ : Mu), Fq P μ (kb14 w0 w1 μ)) : Fq P μ (Mo_drips_14b a kb14 v2 v3 μ) := by
  unfold Mo_drips_14b
  refine fq_gF (fun _ => ?_)
  refine fq_ite ?_ ?_
  · skip
    refine fq_gF (fun _ => ?_)
    refine fq_ite ?_ ?_
    · skip
      exact fq_some
    · skip
      exact fq_some
  · skip
    refine fq_ldA (fun _ => ?_)
    refine fq_cl (fq_Mo_common) (fun _ _ => ?_)
    refine fq_nz ?_
    refine fq_ldA (fun _ => ?_)
    exact h_kb14 _ _ _
theorem fq_Mo_drips_14 {P : Nat → Nat → Prop} {a : Nat}   : ∀ (fu : Nat) (w0 : Int32) (w1 : Int32) (μ : Mu), Fq P μ (Mo_drips_14 a fu w0 w1 μ) := by
  intro fu
  induction fu with
  | zero => intros; exact fq_none
  | succ fu ih => intros; exact fq_Mo_drips_14b (a := a)   ih
theorem fq_Mo_drips {P : Nat → Nat → Prop} {a : Nat} {v1 : Int32} {μ : Mu} (h0 : P (a) 0)  : Fq P μ (Mo_drips a v1 μ) := by
  unfold Mo_drips
  refine fq_pF h0 (fun _ => ?_)
  refine fq_ite ?_ ?_
  · skip
    exact fq_Mo_drips_14 _ _ _ _
  · skip
    refine fq_cl (fq_Mo_isIn) (fun _ _ => ?_)
    refine fq_ite ?_ ?_
    · skip
      exact fq_some
    · skip
      exact fq_Mo_drips_80 _ _ _ _
theorem fq_Mo_emits {P : Nat → Nat → Prop} {a : Nat} {v1 : Int32} {v2 : Int32} {μ : Mu} (h0 : ∀ j, P (a + 12) j) (h1 : ∀ j, P (a + 13) j) (h2 : P (a) 23)  : Fq P μ (Mo_emits a v1 v2 μ) := by
  unfold Mo_emits
  refine fq_gF (fun _ => ?_)
  refine fq_stA h0 (fun _ => ?_)
  refine fq_gF (fun _ => ?_)
  refine fq_stA h1 (fun _ => ?_)
  refine fq_gF (fun _ => ?_)
  refine fq_pF h2 (fun _ => ?_)
  exact fq_some
theorem fq_Mo_end {P : Nat → Nat → Prop} {a : Nat} {v1 : Int32} {μ : Mu} (h0 : P (a) 0) (h1 : P (a) 9)  : Fq P μ (Mo_end a v1 μ) := by
  unfold Mo_end
  refine fq_pF h0 (fun _ => ?_)
  refine fq_gF (fun _ => ?_)
  refine fq_cl (fq_Mo_isIn) (fun _ _ => ?_)
  refine fq_ite ?_ ?_
  · skip
    exact fq_some
  · skip
    refine fq_pF h1 (fun _ => ?_)
    exact fq_some
theorem fq_Mo_endsThought_2b {P : Nat → Nat → Prop} {a : Nat} {kb2 : Int32 → Mu → Option (Unit × Mu)} {v1 : Int32} {μ : Mu} (h0 : P (a) 5) (h1 : ∀ j, P (a + 1) j) (h_kb2 : ∀ (w0 : Int32) (μ : Mu), Fq P μ (kb2 w0 μ)) : Fq P μ (Mo_endsThought_2b a kb2 v1 μ) := by
  unfold Mo_endsThought_2b
  refine fq_ite ?_ ?_
  · skip
    refine fq_zg ?_
    refine fq_pF h0 (fun _ => ?_)
    exact fq_some
  · skip
    refine fq_ldA (fun _ => ?_)
    refine fq_stA h1 (fun _ => ?_)
    exact h_kb2 _ _
theorem fq_Mo_endsThought_2 {P : Nat → Nat → Prop} {a : Nat} (h0 : P (a) 5) (h1 : ∀ j, P (a + 1) j)  : ∀ (fu : Nat) (w0 : Int32) (μ : Mu), Fq P μ (Mo_endsThought_2 a fu w0 μ) := by
  intro fu
  induction fu with
  | zero => intros; exact fq_none
  | succ fu ih => intros; exact fq_Mo_endsThought_2b (a := a) h0 h1  ih
theorem fq_Mo_endsThought {P : Nat → Nat → Prop} {a : Nat} {μ : Mu} (h0 : P (a) 5) (h1 : ∀ j, P (a + 1) j)  : Fq P μ (Mo_endsThought a μ) := by
  unfold Mo_endsThought
  exact fq_Mo_endsThought_2 h0 h1 _ _ _
theorem fq_Mo_errs {P : Nat → Nat → Prop} {a : Nat} {v1 : Int32} {μ : Mu} (h0 : P (a) 27) (h1 : P (a) 28)  : Fq P μ (Mo_errs a v1 μ) := by
  unfold Mo_errs
  refine fq_pF h0 (fun _ => ?_)
  refine fq_gF (fun _ => ?_)
  refine fq_pF h1 (fun _ => ?_)
  exact fq_some
theorem fq_Mo_fault {P : Nat → Nat → Prop} {a : Nat} {v1 : Int32} {μ : Mu} (h0 : P (a) 0)  : Fq P μ (Mo_fault a v1 μ) := by
  unfold Mo_fault
  refine fq_pF h0 (fun _ => ?_)
  refine fq_ite ?_ ?_
  · skip
    refine fq_gF (fun _ => ?_)
    exact fq_some
  · skip
    refine fq_ite ?_ ?_
    · skip
      refine fq_gF (fun _ => ?_)
      exact fq_some
    · skip
      exact fq_some
theorem fq_Mo_types_3b {P : Nat → Nat → Prop} {a : Nat} {kb3 : Int32 → Mu → Option (Unit × Mu)} {v1 : Int32} {v2 : Int32} {μ : Mu} (h0 : ∀ j, P (a + 5) j) (h1 : P (a) 9) (h_kb3 : ∀ (w0 : Int32) (μ : Mu), Fq P μ (kb3 w0 μ)) : Fq P μ (Mo_types_3b a kb3 v1 v2 μ) := by
  unfold Mo_types_3b
  refine fq_ite ?_ ?_
  · skip
    exact fq_some
  · skip
    refine fq_gF (fun _ => ?_)
    refine fq_stA h0 (fun _ => ?_)
    refine fq_gF (fun _ => ?_)
    refine fq_pF h1 (fun _ => ?_)
    exact h_kb3 _ _
theorem fq_Mo_types_3 {P : Nat → Nat → Prop} {a : Nat} {v1 : Int32} (h0 : ∀ j, P (a + 5) j) (h1 : P (a) 9)  : ∀ (fu : Nat) (w0 : Int32) (μ : Mu), Fq P μ (Mo_types_3 a v1 fu w0 μ) := by
  intro fu
  induction fu with
  | zero => intros; exact fq_none
  | succ fu ih => intros; exact fq_Mo_types_3b (a := a) (v1 := v1) h0 h1  ih
theorem fq_Mo_types {P : Nat → Nat → Prop} {a : Nat} {v1 : Int32} {μ : Mu} (h0 : ∀ j, P (a + 5) j) (h1 : P (a) 9)  : Fq P μ (Mo_types a v1 μ) := by
  unfold Mo_types
  exact fq_Mo_types_3 h0 h1 _ _ _
theorem fq_Mo_feed {P : Nat → Nat → Prop} {a : Nat} {v1 : Int32} {v2 : Int32} {v3 : Int32} {v4 : Int32} {v5 : Int32} {μ : Mu} (h0 : P (a) 0) (h1 : ∀ j, P (a + 5) j) (h2 : P (a) 9)  : Fq P μ (Mo_feed a v1 v2 v3 v4 v5 μ) := by
  unfold Mo_feed
  refine fq_pF h0 (fun _ => ?_)
  refine fq_gF (fun _ => ?_)
  refine fq_ite ?_ ?_
  · skip
    refine fq_cl (fq_Mo_types h1 h2) (fun _ _ => ?_)
    refine fq_cl (fq_Mo_types h1 h2) (fun _ _ => ?_)
    refine fq_cl (fq_Mo_types h1 h2) (fun _ _ => ?_)
    refine fq_cl (fq_Mo_types h1 h2) (fun _ _ => ?_)
    refine fq_cl (fq_Mo_types h1 h2) (fun _ _ => ?_)
    refine fq_gF (fun _ => ?_)
    exact fq_some
  · skip
    exact fq_some
theorem fq_Mo_goodTaking_26 {P : Nat → Nat → Prop} {a : Nat} {kb2 : Int32 → Mu → Option (Int32 × Mu)} {v1 : Int32} {v2 : Int32} {μ : Mu}  (h_kb2 : ∀ (w0 : Int32) (μ : Mu), Fq P μ (kb2 w0 μ)) : Fq P μ (Mo_goodTaking_26 a kb2 v1 v2 μ) := by
  unfold Mo_goodTaking_26
  exact h_kb2 _ _
theorem fq_Mo_goodTaking_2b {P : Nat → Nat → Prop} {a : Nat} {kb2 : Int32 → Mu → Option (Int32 × Mu)} {v1 : Int32} {v2 : Int32} {μ : Mu}  (h_kb2 : ∀ (w0 : Int32) (μ : Mu), Fq P μ (kb2 w0 μ)) : Fq P μ (Mo_goodTaking_2b a kb2 v1 v2 μ) := by
  unfold Mo_goodTaking_2b
  refine fq_ite ?_ ?_
  · skip
    exact fq_some
  · skip
    refine fq_nz ?_
    refine fq_ite ?_ ?_
    · skip
      refine fq_ldA (fun _ => ?_)
      refine fq_ite ?_ ?_
      · skip
        exact fq_some
      · skip
        exact fq_Mo_goodTaking_26  h_kb2
    · skip
      exact fq_Mo_goodTaking_26  h_kb2
theorem fq_Mo_goodTaking_2 {P : Nat → Nat → Prop} {a : Nat} {v1 : Int32}   : ∀ (fu : Nat) (w0 : Int32) (μ : Mu), Fq P μ (Mo_goodTaking_2 a v1 fu w0 μ) := by
  intro fu
  induction fu with
  | zero => intros; exact fq_none
  | succ fu ih => intros; exact fq_Mo_goodTaking_2b (a := a) (v1 := v1)   ih
theorem fq_Mo_goodTaking {P : Nat → Nat → Prop} {a : Nat} {v1 : Int32} {μ : Mu}   : Fq P μ (Mo_goodTaking a v1 μ) := by
  unfold Mo_goodTaking
  exact fq_Mo_goodTaking_2 _ _ _
theorem fq_Mo_game_61 {P : Nat → Nat → Prop} {a : Nat} {kb34 : Int32 → Int32 → Mu → Option (Int32 × Mu)} {v1 : Int32} {v2 : Int32} {v3 : Int32} {v4 : Int32} {s0 : Int32} {s1 : Int32} {μ : Mu} (h0 : ∀ j, P (a + 38) j) (h_kb34 : ∀ (w0 : Int32) (w1 : Int32) (μ : Mu), Fq P μ (kb34 w0 w1 μ)) : Fq P μ (Mo_game_61 a kb34 v1 v2 v3 v4 s0 s1 μ) := by
  unfold Mo_game_61
  refine fq_stA h0 (fun _ => ?_)
  refine fq_ldA (fun _ => ?_)
  exact h_kb34 _ _ _
theorem fq_Mo_game_34b {P : Nat → Nat → Prop} {a : Nat} {kb34 : Int32 → Int32 → Mu → Option (Int32 × Mu)} {v1 : Int32} {v2 : Int32} {v3 : Int32} {v4 : Int32} {μ : Mu} (h0 : ∀ j, P (a + 38) j) (h_kb34 : ∀ (w0 : Int32) (w1 : Int32) (μ : Mu), Fq P μ (kb34 w0 w1 μ)) : Fq P μ (Mo_game_34b a kb34 v1 v2 v3 v4 μ) := by
  unfold Mo_game_34b
  refine fq_ite ?_ ?_
  · skip
    refine fq_ite ?_ ?_
    · skip
      refine fq_ldA (fun _ => ?_)
      exact fq_some
    · skip
      refine fq_ite ?_ ?_
      · skip
        refine fq_cl (fq_Mo_goodTaking) (fun _ _ => ?_)
        exact fq_some
      · skip
        exact fq_some
  · skip
    refine fq_cl (fq_Mo_goodTaking) (fun _ _ => ?_)
    refine fq_ite ?_ ?_
    · skip
      exact fq_Mo_game_61 h0 h_kb34
    · skip
      exact fq_Mo_game_61 h0 h_kb34
theorem fq_Mo_game_34 {P : Nat → Nat → Prop} {a : Nat} {v1 : Int32} {v2 : Int32} (h0 : ∀ j, P (a + 38) j)  : ∀ (fu : Nat) (w0 : Int32) (w1 : Int32) (μ : Mu), Fq P μ (Mo_game_34 a v1 v2 fu w0 w1 μ) := by
  intro fu
  induction fu with
  | zero => intros; exact fq_none
  | succ fu ih => intros; exact fq_Mo_game_34b (a := a) (v1 := v1) (v2 := v2) h0  ih
theorem fq_Mo_game {P : Nat → Nat → Prop} {a : Nat} {v1 : Int32} {v2 : Int32} {μ : Mu} (h0 : P (a) 0) (h1 : ∀ j, P (a + 38) j)  : Fq P μ (Mo_game a v1 v2 μ) := by
  unfold Mo_game
  refine fq_pF h0 (fun _ => ?_)
  refine fq_cl (fq_Mo_isIn) (fun _ _ => ?_)
  refine fq_ite ?_ ?_
  · skip
    exact fq_some
  · skip
    refine fq_cl (fq_Mo_isIn) (fun _ _ => ?_)
    refine fq_ite ?_ ?_
    · skip
      exact fq_some
    · skip
      exact fq_Mo_game_34 h1 _ _ _ _
theorem fq_Mo_thinks_2b {P : Nat → Nat → Prop} {a : Nat} {kb2 : Int32 → Mu → Option (Unit × Mu)} {v1 : Int32} {μ : Mu} (h0 : P (a) 5) (h1 : ∀ j, P (a + 3) j) (h_kb2 : ∀ (w0 : Int32) (μ : Mu), Fq P μ (kb2 w0 μ)) : Fq P μ (Mo_thinks_2b a kb2 v1 μ) := by
  unfold Mo_thinks_2b
  refine fq_ite ?_ ?_
  · skip
    refine fq_zg ?_
    refine fq_pF h0 (fun _ => ?_)
    exact fq_some
  · skip
    refine fq_ldA (fun _ => ?_)
    refine fq_stA h1 (fun _ => ?_)
    exact h_kb2 _ _
theorem fq_Mo_thinks_2 {P : Nat → Nat → Prop} {a : Nat} (h0 : P (a) 5) (h1 : ∀ j, P (a + 3) j)  : ∀ (fu : Nat) (w0 : Int32) (μ : Mu), Fq P μ (Mo_thinks_2 a fu w0 μ) := by
  intro fu
  induction fu with
  | zero => intros; exact fq_none
  | succ fu ih => intros; exact fq_Mo_thinks_2b (a := a) h0 h1  ih
theorem fq_Mo_thinks {P : Nat → Nat → Prop} {a : Nat} {μ : Mu} (h0 : P (a) 5) (h1 : ∀ j, P (a + 3) j)  : Fq P μ (Mo_thinks a μ) := by
  unfold Mo_thinks
  exact fq_Mo_thinks_2 h0 h1 _ _ _
theorem fq_Mo_sumOf_4b {P : Nat → Nat → Prop} {a : Nat} {kb4 : Int32 → Int32 → Mu → Option (Int32 × Mu)} {v1 : Int32} {v2 : Int32} {v3 : Int32} {μ : Mu}  (h_kb4 : ∀ (w0 : Int32) (w1 : Int32) (μ : Mu), Fq P μ (kb4 w0 w1 μ)) : Fq P μ (Mo_sumOf_4b a kb4 v1 v2 v3 μ) := by
  unfold Mo_sumOf_4b
  refine fq_gF (fun _ => ?_)
  refine fq_ite ?_ ?_
  · skip
    exact fq_some
  · skip
    refine fq_ldA (fun _ => ?_)
    exact h_kb4 _ _ _
theorem fq_Mo_sumOf_4 {P : Nat → Nat → Prop} {a : Nat} {v1 : Int32}   : ∀ (fu : Nat) (w0 : Int32) (w1 : Int32) (μ : Mu), Fq P μ (Mo_sumOf_4 a v1 fu w0 w1 μ) := by
  intro fu
  induction fu with
  | zero => intros; exact fq_none
  | succ fu ih => intros; exact fq_Mo_sumOf_4b (a := a) (v1 := v1)   ih
theorem fq_Mo_sumOf {P : Nat → Nat → Prop} {a : Nat} {v1 : Int32} {μ : Mu}   : Fq P μ (Mo_sumOf a v1 μ) := by
  unfold Mo_sumOf
  exact fq_Mo_sumOf_4 _ _ _ _
theorem fq_Mo_goes_97 {P : Nat → Nat → Prop} {a : Nat} {s0 : Int32} {μ : Mu} (h0 : P (a) 5) (h1 : ∀ j, P (a + 1) j)  : Fq P μ (Mo_goes_97 a s0 μ) := by
  unfold Mo_goes_97
  refine fq_cl (fq_Mo_endsThought h0 h1) (fun _ _ => ?_)
  exact fq_some
theorem fq_Mo_goes_34b {P : Nat → Nat → Prop} {a : Nat} {kb34 : Int32 → Mu → Option (Int32 × Mu)} {v1 : Int32} {v2 : Int32} {v3 : Int32} {μ : Mu} (h0 : P (a) 5) (h1 : ∀ j, P (a + 1) j) (h2 : ∀ j, P (a + 19) j) (h3 : ∀ j, P (a + 20) j) (h4 : ∀ j, P (a + 4) j) (h5 : ∀ j, P (a + 21) j) (h_kb34 : ∀ (w0 : Int32) (μ : Mu), Fq P μ (kb34 w0 μ)) : Fq P μ (Mo_goes_34b a kb34 v1 v2 v3 μ) := by
  unfold Mo_goes_34b
  refine fq_ite ?_ ?_
  · skip
    refine fq_ite ?_ ?_
    · skip
      refine fq_cl (fq_Mo_sumOf) (fun _ _ => ?_)
      exact fq_Mo_goes_97 h0 h1
    · skip
      refine fq_ite ?_ ?_
      · skip
        refine fq_ldA (fun _ => ?_)
        exact fq_Mo_goes_97 h0 h1
      · skip
        refine fq_ite ?_ ?_
        · skip
          refine fq_cl (fq_Mo_sumOf) (fun _ _ => ?_)
          exact fq_Mo_goes_97 h0 h1
        · skip
          refine fq_cl (fq_Mo_sumOf) (fun _ _ => ?_)
          exact fq_Mo_goes_97 h0 h1
  · skip
    refine fq_cl (fq_Mo_goesBy h1 h2 h3 h4 h5) (fun _ _ => ?_)
    exact h_kb34 _ _
theorem fq_Mo_goes_34 {P : Nat → Nat → Prop} {a : Nat} {v1 : Int32} {v2 : Int32} (h0 : P (a) 5) (h1 : ∀ j, P (a + 1) j) (h2 : ∀ j, P (a + 19) j) (h3 : ∀ j, P (a + 20) j) (h4 : ∀ j, P (a + 4) j) (h5 : ∀ j, P (a + 21) j)  : ∀ (fu : Nat) (w0 : Int32) (μ : Mu), Fq P μ (Mo_goes_34 a v1 v2 fu w0 μ) := by
  intro fu
  induction fu with
  | zero => intros; exact fq_none
  | succ fu ih => intros; exact fq_Mo_goes_34b (a := a) (v1 := v1) (v2 := v2) h0 h1 h2 h3 h4 h5  ih
theorem fq_Mo_goes {P : Nat → Nat → Prop} {a : Nat} {v1 : Int32} {v2 : Int32} {μ : Mu} (h0 : P (a) 0) (h1 : P (a) 5) (h2 : ∀ j, P (a + 3) j) (h3 : ∀ j, P (a + 1) j) (h4 : ∀ j, P (a + 19) j) (h5 : ∀ j, P (a + 20) j) (h6 : ∀ j, P (a + 4) j) (h7 : ∀ j, P (a + 21) j)  : Fq P μ (Mo_goes a v1 v2 μ) := by
  unfold Mo_goes
  refine fq_pF h0 (fun _ => ?_)
  refine fq_cl (fq_Mo_isIn) (fun _ _ => ?_)
  refine fq_ite ?_ ?_
  · skip
    exact fq_some
  · skip
    refine fq_cl (fq_Mo_isIn) (fun _ _ => ?_)
    refine fq_ite ?_ ?_
    · skip
      exact fq_some
    · skip
      refine fq_cl (fq_Mo_thinks h1 h2) (fun _ _ => ?_)
      exact fq_Mo_goes_34 h1 h3 h4 h5 h6 h7 _ _ _
theorem fq_Mo_heap {P : Nat → Nat → Prop} {a : Nat} {v1 : Int32} {μ : Mu} (h0 : P (a) 0) (h1 : P (a) 61) (h2 : ∀ j, P (a + 36) j)  : Fq P μ (Mo_heap a v1 μ) := by
  unfold Mo_heap
  refine fq_pF h0 (fun _ => ?_)
  refine fq_ite ?_ ?_
  · skip
    refine fq_pF h1 (fun _ => ?_)
    exact fq_some
  · skip
    refine fq_cl (fq_Mo_isIn) (fun _ _ => ?_)
    refine fq_ite ?_ ?_
    · skip
      exact fq_some
    · skip
      refine fq_gF (fun _ => ?_)
      refine fq_ite ?_ ?_
      · skip
        exact fq_some
      · skip
        refine fq_gF (fun _ => ?_)
        refine fq_stA h2 (fun _ => ?_)
        refine fq_gF (fun _ => ?_)
        refine fq_pF h1 (fun _ => ?_)
        refine fq_gF (fun _ => ?_)
        exact fq_some
theorem fq_Mo_steepPlace_33 {P : Nat → Nat → Prop} {a : Nat} {kb7 : Int32 → Mu → Option (Int32 × Mu)} {v1 : Int32} {s0 : Int32} {s1 : Int32} {μ : Mu}  (h_kb7 : ∀ (w0 : Int32) (μ : Mu), Fq P μ (kb7 w0 μ)) : Fq P μ (Mo_steepPlace_33 a kb7 v1 s0 s1 μ) := by
  unfold Mo_steepPlace_33
  refine fq_ite ?_ ?_
  · skip
    exact h_kb7 _ _
  · skip
    exact fq_some
theorem fq_Mo_steepPlace_7b {P : Nat → Nat → Prop} {a : Nat} {kb7 : Int32 → Mu → Option (Int32 × Mu)} {v1 : Int32} {μ : Mu}  (h_kb7 : ∀ (w0 : Int32) (μ : Mu), Fq P μ (kb7 w0 μ)) : Fq P μ (Mo_steepPlace_7b a kb7 v1 μ) := by
  unfold Mo_steepPlace_7b
  refine fq_ite ?_ ?_
  · skip
    exact fq_some
  · skip
    refine fq_ldA (fun _ => ?_)
    refine fq_ite ?_ ?_
    · skip
      exact fq_Mo_steepPlace_33  h_kb7
    · skip
      refine fq_ldA (fun _ => ?_)
      exact fq_Mo_steepPlace_33  h_kb7
theorem fq_Mo_steepPlace_7 {P : Nat → Nat → Prop} {a : Nat}   : ∀ (fu : Nat) (w0 : Int32) (μ : Mu), Fq P μ (Mo_steepPlace_7 a fu w0 μ) := by
  intro fu
  induction fu with
  | zero => intros; exact fq_none
  | succ fu ih => intros; exact fq_Mo_steepPlace_7b (a := a)   ih
theorem fq_Mo_steepPlace {P : Nat → Nat → Prop} {a : Nat} {μ : Mu}   : Fq P μ (Mo_steepPlace a μ) := by
  unfold Mo_steepPlace
  refine fq_gF (fun _ => ?_)
  exact fq_Mo_steepPlace_7 _ _ _
theorem fq_Mo_heaped_96 {P : Nat → Nat → Prop} {a : Nat} {kb55 : Int32 → Int32 → Mu → Option (Int32 × Mu)} {v1 : Int32} {v2 : Int32} {μ : Mu}  (h_kb55 : ∀ (w0 : Int32) (w1 : Int32) (μ : Mu), Fq P μ (kb55 w0 w1 μ)) : Fq P μ (Mo_heaped_96 a kb55 v1 v2 μ) := by
  unfold Mo_heaped_96
  refine fq_cl (fq_Mo_steepPlace) (fun _ _ => ?_)
  exact h_kb55 _ _ _
theorem fq_Mo_heaped_55b {P : Nat → Nat → Prop} {a : Nat} {kb55 : Int32 → Int32 → Mu → Option (Int32 × Mu)} {v1 : Int32} {v2 : Int32} {v3 : Int32} {μ : Mu} (h0 : ∀ j, P (a + 37) j) (h_kb55 : ∀ (w0 : Int32) (w1 : Int32) (μ : Mu), Fq P μ (kb55 w0 w1 μ)) : Fq P μ (Mo_heaped_55b a kb55 v1 v2 v3 μ) := by
  unfold Mo_heaped_55b
  refine fq_ite ?_ ?_
  · skip
    refine fq_ite ?_ ?_
    · skip
      exact fq_some
    · skip
      refine fq_ldA (fun _ => ?_)
      exact fq_some
  · skip
    refine fq_ldA (fun _ => ?_)
    refine fq_stA h0 (fun _ => ?_)
    refine fq_ite ?_ ?_
    · skip
      exact fq_Mo_heaped_96  h_kb55
    · skip
      refine fq_ldA (fun _ => ?_)
      refine fq_stA h0 (fun _ => ?_)
      exact fq_Mo_heaped_96  h_kb55
theorem fq_Mo_heaped_55 {P : Nat → Nat → Prop} {a : Nat} {v1 : Int32} (h0 : ∀ j, P (a + 37) j)  : ∀ (fu : Nat) (w0 : Int32) (w1 : Int32) (μ : Mu), Fq P μ (Mo_heaped_55 a v1 fu w0 w1 μ) := by
  intro fu
  induction fu with
  | zero => intros; exact fq_none
  | succ fu ih => intros; exact fq_Mo_heaped_55b (a := a) (v1 := v1) h0  ih
theorem fq_Mo_heaped_22b {P : Nat → Nat → Prop} {a : Nat} {kb22 : Int32 → Mu → Option (Int32 × Mu)} {v1 : Int32} {v2 : Int32} {μ : Mu} (h0 : ∀ j, P (a + 37) j) (h_kb22 : ∀ (w0 : Int32) (μ : Mu), Fq P μ (kb22 w0 μ)) : Fq P μ (Mo_heaped_22b a kb22 v1 v2 μ) := by
  unfold Mo_heaped_22b
  refine fq_gF (fun _ => ?_)
  refine fq_ite ?_ ?_
  · skip
    refine fq_cl (fq_Mo_steepPlace) (fun _ _ => ?_)
    exact fq_Mo_heaped_55 h0 _ _ _ _
  · skip
    refine fq_ldA (fun _ => ?_)
    refine fq_stA h0 (fun _ => ?_)
    exact h_kb22 _ _
theorem fq_Mo_heaped_22 {P : Nat → Nat → Prop} {a : Nat} {v1 : Int32} (h0 : ∀ j, P (a + 37) j)  : ∀ (fu : Nat) (w0 : Int32) (μ : Mu), Fq P μ (Mo_heaped_22 a v1 fu w0 μ) := by
  intro fu
  induction fu with
  | zero => intros; exact fq_none
  | succ fu ih => intros; exact fq_Mo_heaped_22b (a := a) (v1 := v1) h0  ih
theorem fq_Mo_heaped {P : Nat → Nat → Prop} {a : Nat} {v1 : Int32} {μ : Mu} (h0 : P (a) 0) (h1 : ∀ j, P (a + 37) j)  : Fq P μ (Mo_heaped a v1 μ) := by
  unfold Mo_heaped
  refine fq_pF h0 (fun _ => ?_)
  refine fq_gF (fun _ => ?_)
  refine fq_cl (fq_Mo_isIn) (fun _ _ => ?_)
  refine fq_ite ?_ ?_
  · skip
    exact fq_some
  · skip
    exact fq_Mo_heaped_22 h1 _ _ _
theorem fq_Mo_high_72 {P : Nat → Nat → Prop} {a : Nat} {v3 : Int32} {μ : Mu} (h0 : P (a) 5) (h1 : ∀ j, P (a + 1) j)  : Fq P μ (Mo_high_72 a v3 μ) := by
  unfold Mo_high_72
  refine fq_cl (fq_Mo_endsThought h0 h1) (fun _ _ => ?_)
  refine fq_ite ?_ ?_
  · skip
    exact fq_some
  · skip
    exact fq_some
theorem fq_Mo_high_41b {P : Nat → Nat → Prop} {a : Nat} {kb41 : Int32 → Mu → Option (Int32 × Mu)} {v1 : Int32} {v2 : Int32} {v3 : Int32} {μ : Mu} (h0 : P (a) 5) (h1 : ∀ j, P (a + 1) j) (h2 : ∀ j, P (a + 19) j) (h3 : ∀ j, P (a + 20) j) (h4 : ∀ j, P (a + 4) j) (h5 : ∀ j, P (a + 21) j) (h_kb41 : ∀ (w0 : Int32) (μ : Mu), Fq P μ (kb41 w0 μ)) : Fq P μ (Mo_high_41b a kb41 v1 v2 v3 μ) := by
  unfold Mo_high_41b
  refine fq_ite ?_ ?_
  · skip
    exact fq_Mo_high_72 h0 h1
  · skip
    refine fq_ldA (fun _ => ?_)
    refine fq_ite ?_ ?_
    · skip
      exact fq_Mo_high_72 h0 h1
    · skip
      refine fq_cl (fq_Mo_goesBy h1 h2 h3 h4 h5) (fun _ _ => ?_)
      exact h_kb41 _ _
theorem fq_Mo_high_41 {P : Nat → Nat → Prop} {a : Nat} {v1 : Int32} {v2 : Int32} (h0 : P (a) 5) (h1 : ∀ j, P (a + 1) j) (h2 : ∀ j, P (a + 19) j) (h3 : ∀ j, P (a + 20) j) (h4 : ∀ j, P (a + 4) j) (h5 : ∀ j, P (a + 21) j)  : ∀ (fu : Nat) (w0 : Int32) (μ : Mu), Fq P μ (Mo_high_41 a v1 v2 fu w0 μ) := by
  intro fu
  induction fu with
  | zero => intros; exact fq_none
  | succ fu ih => intros; exact fq_Mo_high_41b (a := a) (v1 := v1) (v2 := v2) h0 h1 h2 h3 h4 h5  ih
theorem fq_Mo_high {P : Nat → Nat → Prop} {a : Nat} {v1 : Int32} {v2 : Int32} {μ : Mu} (h0 : P (a) 0) (h1 : P (a) 5) (h2 : ∀ j, P (a + 3) j) (h3 : ∀ j, P (a + 1) j) (h4 : ∀ j, P (a + 19) j) (h5 : ∀ j, P (a + 20) j) (h6 : ∀ j, P (a + 4) j) (h7 : ∀ j, P (a + 21) j)  : Fq P μ (Mo_high a v1 v2 μ) := by
  unfold Mo_high
  refine fq_pF h0 (fun _ => ?_)
  refine fq_cl (fq_Mo_isPerson) (fun _ _ => ?_)
  refine fq_ite ?_ ?_
  · skip
    exact fq_some
  · skip
    refine fq_cl (fq_Mo_isAlive) (fun _ _ => ?_)
    refine fq_ite ?_ ?_
    · skip
      exact fq_some
    · skip
      refine fq_cl (fq_Mo_isIn) (fun _ _ => ?_)
      refine fq_ite ?_ ?_
      · skip
        exact fq_some
      · skip
        refine fq_cl (fq_Mo_thinks h1 h2) (fun _ _ => ?_)
        exact fq_Mo_high_41 h1 h3 h4 h5 h6 h7 _ _ _
theorem fq_Mo_isBetween {P : Nat → Nat → Prop} {a : Nat} {v1 : Int32} {v2 : Int32} {v3 : Int32} {μ : Mu}   : Fq P μ (Mo_isBetween a v1 v2 v3 μ) := by
  unfold Mo_isBetween
  refine fq_ldA (fun _ => ?_)
  refine fq_ldA (fun _ => ?_)
  refine fq_ldA (fun _ => ?_)
  refine fq_ldA (fun _ => ?_)
  refine fq_ldA (fun _ => ?_)
  refine fq_ldA (fun _ => ?_)
  refine fq_ldA (fun _ => ?_)
  refine fq_ldA (fun _ => ?_)
  refine fq_cl (fq_Mo_areaOf) (fun _ _ => ?_)
  refine fq_ite ?_ ?_
  · skip
    refine fq_ite ?_ ?_
    · skip
      exact fq_some
    · skip
      exact fq_some
  · skip
    exact fq_some
theorem fq_Mo_isEdge_42 {P : Nat → Nat → Prop} {a : Nat} {kb2 : Int32 → Mu → Option (Int32 × Mu)} {v1 : Int32} {v2 : Int32} {v3 : Int32} {μ : Mu}  (h_kb2 : ∀ (w0 : Int32) (μ : Mu), Fq P μ (kb2 w0 μ)) : Fq P μ (Mo_isEdge_42 a kb2 v1 v2 v3 μ) := by
  unfold Mo_isEdge_42
  exact h_kb2 _ _
theorem fq_Mo_isEdge_2b {P : Nat → Nat → Prop} {a : Nat} {kb2 : Int32 → Mu → Option (Int32 × Mu)} {v1 : Int32} {v2 : Int32} {v3 : Int32} {μ : Mu}  (h_kb2 : ∀ (w0 : Int32) (μ : Mu), Fq P μ (kb2 w0 μ)) : Fq P μ (Mo_isEdge_2b a kb2 v1 v2 v3 μ) := by
  unfold Mo_isEdge_2b
  refine fq_gF (fun _ => ?_)
  refine fq_ite ?_ ?_
  · skip
    exact fq_some
  · skip
    refine fq_ite ?_ ?_
    · skip
      exact fq_Mo_isEdge_42  h_kb2
    · skip
      refine fq_ite ?_ ?_
      · skip
        exact fq_Mo_isEdge_42  h_kb2
      · skip
        refine fq_cl (fq_Mo_areaOf) (fun _ _ => ?_)
        refine fq_ite ?_ ?_
        · skip
          exact fq_Mo_isEdge_42  h_kb2
        · skip
          refine fq_cl (fq_Mo_isBetween) (fun _ _ => ?_)
          refine fq_ite ?_ ?_
          · skip
            exact fq_some
          · skip
            exact fq_Mo_isEdge_42  h_kb2
theorem fq_Mo_isEdge_2 {P : Nat → Nat → Prop} {a : Nat} {v1 : Int32} {v2 : Int32}   : ∀ (fu : Nat) (w0 : Int32) (μ : Mu), Fq P μ (Mo_isEdge_2 a v1 v2 fu w0 μ) := by
  intro fu
  induction fu with
  | zero => intros; exact fq_none
  | succ fu ih => intros; exact fq_Mo_isEdge_2b (a := a) (v1 := v1) (v2 := v2)   ih
theorem fq_Mo_isEdge {P : Nat → Nat → Prop} {a : Nat} {v1 : Int32} {v2 : Int32} {μ : Mu}   : Fq P μ (Mo_isEdge a v1 v2 μ) := by
  unfold Mo_isEdge
  exact fq_Mo_isEdge_2 _ _ _
theorem fq_Mo_hull_104 {P : Nat → Nat → Prop} {a : Nat} {kb24 : Int32 → Int32 → Int32 → Mu → Option (Int32 × Mu)} {kb36 : Int32 → Int32 → Int32 → Mu → Option (Int32 × Mu)} {v1 : Int32} {v2 : Int32} {v3 : Int32} {v4 : Int32} {v5 : Int32} {μ : Mu}  (h_kb24 : ∀ (w0 : Int32) (w1 : Int32) (w2 : Int32) (μ : Mu), Fq P μ (kb24 w0 w1 w2 μ)) (h_kb36 : ∀ (w0 : Int32) (w1 : Int32) (w2 : Int32) (μ : Mu), Fq P μ (kb36 w0 w1 w2 μ)) : Fq P μ (Mo_hull_104 a kb24 kb36 v1 v2 v3 v4 v5 μ) := by
  unfold Mo_hull_104
  exact h_kb36 _ _ _ _
theorem fq_Mo_hull_36b {P : Nat → Nat → Prop} {a : Nat} {kb24 : Int32 → Int32 → Int32 → Mu → Option (Int32 × Mu)} {kb36 : Int32 → Int32 → Int32 → Mu → Option (Int32 × Mu)} {v1 : Int32} {v4 : Int32} {v2 : Int32} {v3 : Int32} {v5 : Int32} {μ : Mu}  (h_kb24 : ∀ (w0 : Int32) (w1 : Int32) (w2 : Int32) (μ : Mu), Fq P μ (kb24 w0 w1 w2 μ)) (h_kb36 : ∀ (w0 : Int32) (w1 : Int32) (w2 : Int32) (μ : Mu), Fq P μ (kb36 w0 w1 w2 μ)) : Fq P μ (Mo_hull_36b a kb24 kb36 v1 v4 v2 v3 v5 μ) := by
  unfold Mo_hull_36b
  refine fq_gF (fun _ => ?_)
  refine fq_ite ?_ ?_
  · skip
    exact h_kb24 _ _ _ _
  · skip
    refine fq_ite ?_ ?_
    · skip
      exact fq_Mo_hull_104  h_kb24 h_kb36
    · skip
      refine fq_cl (fq_Mo_isEdge) (fun _ _ => ?_)
      refine fq_ite ?_ ?_
      · skip
        exact fq_Mo_hull_104  h_kb24 h_kb36
      · skip
        refine fq_ldA (fun _ => ?_)
        refine fq_ldA (fun _ => ?_)
        refine fq_ldA (fun _ => ?_)
        refine fq_ldA (fun _ => ?_)
        exact fq_Mo_hull_104  h_kb24 h_kb36
theorem fq_Mo_hull_36 {P : Nat → Nat → Prop} {a : Nat} {kb24 : Int32 → Int32 → Int32 → Mu → Option (Int32 × Mu)} {v1 : Int32} {v4 : Int32}  (h_kb24 : ∀ (w0 : Int32) (w1 : Int32) (w2 : Int32) (μ : Mu), Fq P μ (kb24 w0 w1 w2 μ)) : ∀ (fu : Nat) (w0 : Int32) (w1 : Int32) (w2 : Int32) (μ : Mu), Fq P μ (Mo_hull_36 a kb24 v1 v4 fu w0 w1 w2 μ) := by
  intro fu
  induction fu with
  | zero => intros; exact fq_none
  | succ fu ih => intros; exact fq_Mo_hull_36b (a := a) (kb24 := kb24) (v1 := v1) (v4 := v4)  h_kb24 ih
theorem fq_Mo_hull_24b {P : Nat → Nat → Prop} {a : Nat} {kb24 : Int32 → Int32 → Int32 → Mu → Option (Int32 × Mu)} {v1 : Int32} {v2 : Int32} {v3 : Int32} {v4 : Int32} {μ : Mu}  (h_kb24 : ∀ (w0 : Int32) (w1 : Int32) (w2 : Int32) (μ : Mu), Fq P μ (kb24 w0 w1 w2 μ)) : Fq P μ (Mo_hull_24b a kb24 v1 v2 v3 v4 μ) := by
  unfold Mo_hull_24b
  refine fq_gF (fun _ => ?_)
  refine fq_ite ?_ ?_
  · skip
    refine fq_ite ?_ ?_
    · skip
      exact fq_some
    · skip
      refine fq_gF (fun _ => ?_)
      refine fq_ite ?_ ?_
      · skip
        exact fq_some
      · skip
        exact fq_some
  · skip
    exact fq_Mo_hull_36  h_kb24 _ _ _ _ _
theorem fq_Mo_hull_24 {P : Nat → Nat → Prop} {a : Nat} {v1 : Int32}   : ∀ (fu : Nat) (w0 : Int32) (w1 : Int32) (w2 : Int32) (μ : Mu), Fq P μ (Mo_hull_24 a v1 fu w0 w1 w2 μ) := by
  intro fu
  induction fu with
  | zero => intros; exact fq_none
  | succ fu ih => intros; exact fq_Mo_hull_24b (a := a) (v1 := v1)   ih
theorem fq_Mo_hull {P : Nat → Nat → Prop} {a : Nat} {v1 : Int32} {μ : Mu} (h0 : P (a) 0)  : Fq P μ (Mo_hull a v1 μ) := by
  unfold Mo_hull
  refine fq_pF h0 (fun _ => ?_)
  refine fq_cl (fq_Mo_isIn) (fun _ _ => ?_)
  refine fq_ite ?_ ?_
  · skip
    exact fq_some
  · skip
    exact fq_Mo_hull_24 _ _ _ _ _
theorem fq_Mo_keeps {P : Nat → Nat → Prop} {a : Nat} {v1 : Int32} {μ : Mu} (h0 : P (a) 67) (h1 : ∀ j, P (a + 39) j)  : Fq P μ (Mo_keeps a v1 μ) := by
  unfold Mo_keeps
  refine fq_gF (fun _ => ?_)
  refine fq_pF h0 (fun _ => ?_)
  refine fq_gF (fun _ => ?_)
  refine fq_ite ?_ ?_
  · skip
    refine fq_gF (fun _ => ?_)
    refine fq_ldA (fun _ => ?_)
    exact fq_some
  · skip
    refine fq_gF (fun _ => ?_)
    refine fq_stA h1 (fun _ => ?_)
    exact fq_some
theorem fq_Mo_keepsTold_382b {P : Nat → Nat → Prop} {a : Nat} {kb382 : Int32 → Mu → Option (Unit × Mu)} {v1 : Int32} {μ : Mu} (h0 : P (a) 67) (h1 : ∀ j, P (a + 39) j) (h2 : ∀ j, P (a + 27) j) (h_kb382 : ∀ (w0 : Int32) (μ : Mu), Fq P μ (kb382 w0 μ)) : Fq P μ (Mo_keepsTold_382b a kb382 v1 μ) := by
  unfold Mo_keepsTold_382b
  refine fq_ite ?_ ?_
  · skip
    exact fq_some
  · skip
    refine fq_ldA (fun _ => ?_)
    refine fq_cl (fq_Mo_keeps h0 h1) (fun _ _ => ?_)
    refine fq_stA h2 (fun _ => ?_)
    exact h_kb382 _ _
theorem fq_Mo_keepsTold_382 {P : Nat → Nat → Prop} {a : Nat} (h0 : P (a) 67) (h1 : ∀ j, P (a + 39) j) (h2 : ∀ j, P (a + 27) j)  : ∀ (fu : Nat) (w0 : Int32) (μ : Mu), Fq P μ (Mo_keepsTold_382 a fu w0 μ) := by
  intro fu
  induction fu with
  | zero => intros; exact fq_none
  | succ fu ih => intros; exact fq_Mo_keepsTold_382b (a := a) h0 h1 h2  ih
theorem fq_Mo_keepsTold_320b {P : Nat → Nat → Prop} {a : Nat} {kb320 : Int32 → Mu → Option (Unit × Mu)} {v1 : Int32} {μ : Mu} (h0 : P (a) 67) (h1 : ∀ j, P (a + 39) j) (h2 : ∀ j, P (a + 27) j) (h3 : ∀ j, P (a + 24) j) (h4 : ∀ j, P (a + 29) j) (h5 : ∀ j, P (a + 32) j) (h_kb320 : ∀ (w0 : Int32) (μ : Mu), Fq P μ (kb320 w0 μ)) : Fq P μ (Mo_keepsTold_320b a kb320 v1 μ) := by
  unfold Mo_keepsTold_320b
  refine fq_ite ?_ ?_
  · skip
    exact fq_Mo_keepsTold_382 h0 h1 h2 _ _ _
  · skip
    refine fq_ldA (fun _ => ?_)
    refine fq_cl (fq_Mo_keeps h0 h1) (fun _ _ => ?_)
    refine fq_stA h3 (fun _ => ?_)
    refine fq_ldA (fun _ => ?_)
    refine fq_cl (fq_Mo_keeps h0 h1) (fun _ _ => ?_)
    refine fq_stA h4 (fun _ => ?_)
    refine fq_ldA (fun _ => ?_)
    refine fq_cl (fq_Mo_keeps h0 h1) (fun _ _ => ?_)
    refine fq_stA h5 (fun _ => ?_)
    exact h_kb320 _ _
theorem fq_Mo_keepsTold_320 {P : Nat → Nat → Prop} {a : Nat} (h0 : P (a) 67) (h1 : ∀ j, P (a + 39) j) (h2 : ∀ j, P (a + 27) j) (h3 : ∀ j, P (a + 24) j) (h4 : ∀ j, P (a + 29) j) (h5 : ∀ j, P (a + 32) j)  : ∀ (fu : Nat) (w0 : Int32) (μ : Mu), Fq P μ (Mo_keepsTold_320 a fu w0 μ) := by
  intro fu
  induction fu with
  | zero => intros; exact fq_none
  | succ fu ih => intros; exact fq_Mo_keepsTold_320b (a := a) h0 h1 h2 h3 h4 h5  ih
theorem fq_Mo_keepsTold_226b {P : Nat → Nat → Prop} {a : Nat} {kb226 : Int32 → Mu → Option (Unit × Mu)} {v1 : Int32} {μ : Mu} (h0 : P (a) 67) (h1 : ∀ j, P (a + 39) j) (h2 : ∀ j, P (a + 27) j) (h3 : ∀ j, P (a + 24) j) (h4 : ∀ j, P (a + 29) j) (h5 : ∀ j, P (a + 32) j) (h6 : ∀ j, P (a + 22) j) (h7 : ∀ j, P (a + 23) j) (h8 : ∀ j, P (a + 34) j) (h9 : ∀ j, P (a + 35) j) (h10 : ∀ j, P (a + 36) j) (h_kb226 : ∀ (w0 : Int32) (μ : Mu), Fq P μ (kb226 w0 μ)) : Fq P μ (Mo_keepsTold_226b a kb226 v1 μ) := by
  unfold Mo_keepsTold_226b
  refine fq_ite ?_ ?_
  · skip
    exact fq_Mo_keepsTold_320 h0 h1 h2 h3 h4 h5 _ _ _
  · skip
    refine fq_ldA (fun _ => ?_)
    refine fq_cl (fq_Mo_keeps h0 h1) (fun _ _ => ?_)
    refine fq_stA h6 (fun _ => ?_)
    refine fq_ldA (fun _ => ?_)
    refine fq_cl (fq_Mo_keeps h0 h1) (fun _ _ => ?_)
    refine fq_stA h7 (fun _ => ?_)
    refine fq_ldA (fun _ => ?_)
    refine fq_cl (fq_Mo_keeps h0 h1) (fun _ _ => ?_)
    refine fq_stA h8 (fun _ => ?_)
    refine fq_ldA (fun _ => ?_)
    refine fq_cl (fq_Mo_keeps h0 h1) (fun _ _ => ?_)
    refine fq_stA h9 (fun _ => ?_)
    refine fq_ldA (fun _ => ?_)
    refine fq_cl (fq_Mo_keeps h0 h1) (fun _ _ => ?_)
    refine fq_stA h10 (fun _ => ?_)
    exact h_kb226 _ _
theorem fq_Mo_keepsTold_226 {P : Nat → Nat → Prop} {a : Nat} (h0 : P (a) 67) (h1 : ∀ j, P (a + 39) j) (h2 : ∀ j, P (a + 27) j) (h3 : ∀ j, P (a + 24) j) (h4 : ∀ j, P (a + 29) j) (h5 : ∀ j, P (a + 32) j) (h6 : ∀ j, P (a + 22) j) (h7 : ∀ j, P (a + 23) j) (h8 : ∀ j, P (a + 34) j) (h9 : ∀ j, P (a + 35) j) (h10 : ∀ j, P (a + 36) j)  : ∀ (fu : Nat) (w0 : Int32) (μ : Mu), Fq P μ (Mo_keepsTold_226 a fu w0 μ) := by
  intro fu
  induction fu with
  | zero => intros; exact fq_none
  | succ fu ih => intros; exact fq_Mo_keepsTold_226b (a := a) h0 h1 h2 h3 h4 h5 h6 h7 h8 h9 h10  ih
theorem fq_Mo_keepsTold_196b {P : Nat → Nat → Prop} {a : Nat} {kb196 : Int32 → Mu → Option (Unit × Mu)} {v1 : Int32} {μ : Mu} (h0 : P (a) 67) (h1 : ∀ j, P (a + 39) j) (h2 : ∀ j, P (a + 27) j) (h3 : ∀ j, P (a + 24) j) (h4 : ∀ j, P (a + 29) j) (h5 : ∀ j, P (a + 32) j) (h6 : ∀ j, P (a + 22) j) (h7 : ∀ j, P (a + 23) j) (h8 : ∀ j, P (a + 34) j) (h9 : ∀ j, P (a + 35) j) (h10 : ∀ j, P (a + 36) j) (h11 : ∀ j, P (a + 17) j) (h_kb196 : ∀ (w0 : Int32) (μ : Mu), Fq P μ (kb196 w0 μ)) : Fq P μ (Mo_keepsTold_196b a kb196 v1 μ) := by
  unfold Mo_keepsTold_196b
  refine fq_ite ?_ ?_
  · skip
    exact fq_Mo_keepsTold_226 h0 h1 h2 h3 h4 h5 h6 h7 h8 h9 h10 _ _ _
  · skip
    refine fq_ldA (fun _ => ?_)
    refine fq_cl (fq_Mo_keeps h0 h1) (fun _ _ => ?_)
    refine fq_stA h11 (fun _ => ?_)
    exact h_kb196 _ _
theorem fq_Mo_keepsTold_196 {P : Nat → Nat → Prop} {a : Nat} (h0 : P (a) 67) (h1 : ∀ j, P (a + 39) j) (h2 : ∀ j, P (a + 27) j) (h3 : ∀ j, P (a + 24) j) (h4 : ∀ j, P (a + 29) j) (h5 : ∀ j, P (a + 32) j) (h6 : ∀ j, P (a + 22) j) (h7 : ∀ j, P (a + 23) j) (h8 : ∀ j, P (a + 34) j) (h9 : ∀ j, P (a + 35) j) (h10 : ∀ j, P (a + 36) j) (h11 : ∀ j, P (a + 17) j)  : ∀ (fu : Nat) (w0 : Int32) (μ : Mu), Fq P μ (Mo_keepsTold_196 a fu w0 μ) := by
  intro fu
  induction fu with
  | zero => intros; exact fq_none
  | succ fu ih => intros; exact fq_Mo_keepsTold_196b (a := a) h0 h1 h2 h3 h4 h5 h6 h7 h8 h9 h10 h11  ih
theorem fq_Mo_keepsTold_166b {P : Nat → Nat → Prop} {a : Nat} {kb166 : Int32 → Mu → Option (Unit × Mu)} {v1 : Int32} {μ : Mu} (h0 : P (a) 67) (h1 : ∀ j, P (a + 39) j) (h2 : ∀ j, P (a + 27) j) (h3 : ∀ j, P (a + 24) j) (h4 : ∀ j, P (a + 29) j) (h5 : ∀ j, P (a + 32) j) (h6 : ∀ j, P (a + 22) j) (h7 : ∀ j, P (a + 23) j) (h8 : ∀ j, P (a + 34) j) (h9 : ∀ j, P (a + 35) j) (h10 : ∀ j, P (a + 36) j) (h11 : ∀ j, P (a + 17) j) (h12 : ∀ j, P (a + 18) j) (h_kb166 : ∀ (w0 : Int32) (μ : Mu), Fq P μ (kb166 w0 μ)) : Fq P μ (Mo_keepsTold_166b a kb166 v1 μ) := by
  unfold Mo_keepsTold_166b
  refine fq_ite ?_ ?_
  · skip
    exact fq_Mo_keepsTold_196 h0 h1 h2 h3 h4 h5 h6 h7 h8 h9 h10 h11 _ _ _
  · skip
    refine fq_ldA (fun _ => ?_)
    refine fq_cl (fq_Mo_keeps h0 h1) (fun _ _ => ?_)
    refine fq_stA h12 (fun _ => ?_)
    exact h_kb166 _ _
theorem fq_Mo_keepsTold_166 {P : Nat → Nat → Prop} {a : Nat} (h0 : P (a) 67) (h1 : ∀ j, P (a + 39) j) (h2 : ∀ j, P (a + 27) j) (h3 : ∀ j, P (a + 24) j) (h4 : ∀ j, P (a + 29) j) (h5 : ∀ j, P (a + 32) j) (h6 : ∀ j, P (a + 22) j) (h7 : ∀ j, P (a + 23) j) (h8 : ∀ j, P (a + 34) j) (h9 : ∀ j, P (a + 35) j) (h10 : ∀ j, P (a + 36) j) (h11 : ∀ j, P (a + 17) j) (h12 : ∀ j, P (a + 18) j)  : ∀ (fu : Nat) (w0 : Int32) (μ : Mu), Fq P μ (Mo_keepsTold_166 a fu w0 μ) := by
  intro fu
  induction fu with
  | zero => intros; exact fq_none
  | succ fu ih => intros; exact fq_Mo_keepsTold_166b (a := a) h0 h1 h2 h3 h4 h5 h6 h7 h8 h9 h10 h11 h12  ih
theorem fq_Mo_keepsTold {P : Nat → Nat → Prop} {a : Nat} {μ : Mu} (h0 : P (a) 67) (h1 : ∀ j, P (a + 39) j) (h2 : P (a) 6) (h3 : P (a) 31) (h4 : P (a) 34) (h5 : P (a) 36) (h6 : P (a) 41) (h7 : P (a) 42) (h8 : P (a) 45) (h9 : P (a) 51) (h10 : P (a) 55) (h11 : P (a) 58) (h12 : P (a) 61) (h13 : ∀ j, P (a + 26) j) (h14 : ∀ j, P (a + 27) j) (h15 : ∀ j, P (a + 24) j) (h16 : ∀ j, P (a + 29) j) (h17 : ∀ j, P (a + 32) j) (h18 : ∀ j, P (a + 22) j) (h19 : ∀ j, P (a + 23) j) (h20 : ∀ j, P (a + 34) j) (h21 : ∀ j, P (a + 35) j) (h22 : ∀ j, P (a + 36) j) (h23 : ∀ j, P (a + 17) j) (h24 : ∀ j, P (a + 18) j)  : Fq P μ (Mo_keepsTold a μ) := by
  unfold Mo_keepsTold
  refine fq_gF (fun _ => ?_)
  refine fq_cl (fq_Mo_keeps h0 h1) (fun _ _ => ?_)
  refine fq_pF h2 (fun _ => ?_)
  refine fq_gF (fun _ => ?_)
  refine fq_cl (fq_Mo_keeps h0 h1) (fun _ _ => ?_)
  refine fq_pF h3 (fun _ => ?_)
  refine fq_gF (fun _ => ?_)
  refine fq_cl (fq_Mo_keeps h0 h1) (fun _ _ => ?_)
  refine fq_pF h4 (fun _ => ?_)
  refine fq_gF (fun _ => ?_)
  refine fq_cl (fq_Mo_keeps h0 h1) (fun _ _ => ?_)
  refine fq_pF h5 (fun _ => ?_)
  refine fq_gF (fun _ => ?_)
  refine fq_cl (fq_Mo_keeps h0 h1) (fun _ _ => ?_)
  refine fq_pF h6 (fun _ => ?_)
  refine fq_gF (fun _ => ?_)
  refine fq_cl (fq_Mo_keeps h0 h1) (fun _ _ => ?_)
  refine fq_pF h7 (fun _ => ?_)
  refine fq_gF (fun _ => ?_)
  refine fq_cl (fq_Mo_keeps h0 h1) (fun _ _ => ?_)
  refine fq_pF h8 (fun _ => ?_)
  refine fq_gF (fun _ => ?_)
  refine fq_cl (fq_Mo_keeps h0 h1) (fun _ _ => ?_)
  refine fq_pF h9 (fun _ => ?_)
  refine fq_gF (fun _ => ?_)
  refine fq_cl (fq_Mo_keeps h0 h1) (fun _ _ => ?_)
  refine fq_pF h10 (fun _ => ?_)
  refine fq_gF (fun _ => ?_)
  refine fq_cl (fq_Mo_keeps h0 h1) (fun _ _ => ?_)
  refine fq_pF h11 (fun _ => ?_)
  refine fq_gF (fun _ => ?_)
  refine fq_cl (fq_Mo_keeps h0 h1) (fun _ _ => ?_)
  refine fq_pF h12 (fun _ => ?_)
  refine fq_ldA (fun _ => ?_)
  refine fq_cl (fq_Mo_keeps h0 h1) (fun _ _ => ?_)
  refine fq_stA h13 (fun _ => ?_)
  refine fq_ldA (fun _ => ?_)
  refine fq_cl (fq_Mo_keeps h0 h1) (fun _ _ => ?_)
  refine fq_stA h13 (fun _ => ?_)
  exact fq_Mo_keepsTold_166 h0 h1 h14 h15 h16 h17 h18 h19 h20 h21 h22 h23 h24 _ _ _
theorem fq_Mo_keepsLaw_96b {P : Nat → Nat → Prop} {a : Nat} {kb96 : Int32 → Mu → Option (Unit × Mu)} {v1 : Int32} {μ : Mu} (h0 : P (a) 67) (h1 : ∀ j, P (a + 39) j) (h2 : ∀ j, P (a + 12) j) (h3 : ∀ j, P (a + 13) j) (h_kb96 : ∀ (w0 : Int32) (μ : Mu), Fq P μ (kb96 w0 μ)) : Fq P μ (Mo_keepsLaw_96b a kb96 v1 μ) := by
  unfold Mo_keepsLaw_96b
  refine fq_ite ?_ ?_
  · skip
    exact fq_some
  · skip
    refine fq_ldA (fun _ => ?_)
    refine fq_cl (fq_Mo_keeps h0 h1) (fun _ _ => ?_)
    refine fq_stA h2 (fun _ => ?_)
    refine fq_ldA (fun _ => ?_)
    refine fq_cl (fq_Mo_keeps h0 h1) (fun _ _ => ?_)
    refine fq_stA h3 (fun _ => ?_)
    exact h_kb96 _ _
theorem fq_Mo_keepsLaw_96 {P : Nat → Nat → Prop} {a : Nat} (h0 : P (a) 67) (h1 : ∀ j, P (a + 39) j) (h2 : ∀ j, P (a + 12) j) (h3 : ∀ j, P (a + 13) j)  : ∀ (fu : Nat) (w0 : Int32) (μ : Mu), Fq P μ (Mo_keepsLaw_96 a fu w0 μ) := by
  intro fu
  induction fu with
  | zero => intros; exact fq_none
  | succ fu ih => intros; exact fq_Mo_keepsLaw_96b (a := a) h0 h1 h2 h3  ih
theorem fq_Mo_keepsLaw_18b {P : Nat → Nat → Prop} {a : Nat} {kb18 : Int32 → Mu → Option (Unit × Mu)} {v1 : Int32} {μ : Mu} (h0 : P (a) 67) (h1 : ∀ j, P (a + 39) j) (h2 : ∀ j, P (a + 12) j) (h3 : ∀ j, P (a + 13) j) (h4 : ∀ j, P (a + 8) j) (h5 : ∀ j, P (a + 9) j) (h6 : ∀ j, P (a + 10) j) (h7 : ∀ j, P (a + 11) j) (h_kb18 : ∀ (w0 : Int32) (μ : Mu), Fq P μ (kb18 w0 μ)) : Fq P μ (Mo_keepsLaw_18b a kb18 v1 μ) := by
  unfold Mo_keepsLaw_18b
  refine fq_ite ?_ ?_
  · skip
    exact fq_Mo_keepsLaw_96 h0 h1 h2 h3 _ _ _
  · skip
    refine fq_ldA (fun _ => ?_)
    refine fq_cl (fq_Mo_keeps h0 h1) (fun _ _ => ?_)
    refine fq_stA h4 (fun _ => ?_)
    refine fq_ldA (fun _ => ?_)
    refine fq_cl (fq_Mo_keeps h0 h1) (fun _ _ => ?_)
    refine fq_stA h5 (fun _ => ?_)
    refine fq_ldA (fun _ => ?_)
    refine fq_cl (fq_Mo_keeps h0 h1) (fun _ _ => ?_)
    refine fq_stA h6 (fun _ => ?_)
    refine fq_ldA (fun _ => ?_)
    refine fq_cl (fq_Mo_keeps h0 h1) (fun _ _ => ?_)
    refine fq_stA h7 (fun _ => ?_)
    exact h_kb18 _ _
theorem fq_Mo_keepsLaw_18 {P : Nat → Nat → Prop} {a : Nat} (h0 : P (a) 67) (h1 : ∀ j, P (a + 39) j) (h2 : ∀ j, P (a + 12) j) (h3 : ∀ j, P (a + 13) j) (h4 : ∀ j, P (a + 8) j) (h5 : ∀ j, P (a + 9) j) (h6 : ∀ j, P (a + 10) j) (h7 : ∀ j, P (a + 11) j)  : ∀ (fu : Nat) (w0 : Int32) (μ : Mu), Fq P μ (Mo_keepsLaw_18 a fu w0 μ) := by
  intro fu
  induction fu with
  | zero => intros; exact fq_none
  | succ fu ih => intros; exact fq_Mo_keepsLaw_18b (a := a) h0 h1 h2 h3 h4 h5 h6 h7  ih
theorem fq_Mo_keepsLaw {P : Nat → Nat → Prop} {a : Nat} {μ : Mu} (h0 : P (a) 67) (h1 : ∀ j, P (a + 39) j) (h2 : ∀ j, P (a + 7) j) (h3 : ∀ j, P (a + 12) j) (h4 : ∀ j, P (a + 13) j) (h5 : ∀ j, P (a + 8) j) (h6 : ∀ j, P (a + 9) j) (h7 : ∀ j, P (a + 10) j) (h8 : ∀ j, P (a + 11) j)  : Fq P μ (Mo_keepsLaw a μ) := by
  unfold Mo_keepsLaw
  refine fq_ldA (fun _ => ?_)
  refine fq_cl (fq_Mo_keeps h0 h1) (fun _ _ => ?_)
  refine fq_stA h2 (fun _ => ?_)
  exact fq_Mo_keepsLaw_18 h0 h1 h3 h4 h5 h6 h7 h8 _ _ _
theorem fq_Mo_image_69b {P : Nat → Nat → Prop} {a : Nat} {kb69 : Int32 → Mu → Option (Int32 × Mu)} {v1 : Int32} {v2 : Int32} {μ : Mu} (h0 : P (a) 67) (h1 : ∀ j, P (a + 39) j) (h2 : ∀ j, P (a + 7) j) (h3 : ∀ j, P (a + 12) j) (h4 : ∀ j, P (a + 13) j) (h5 : ∀ j, P (a + 8) j) (h6 : ∀ j, P (a + 9) j) (h7 : ∀ j, P (a + 10) j) (h8 : ∀ j, P (a + 11) j) (h9 : P (a) 3) (h10 : ∀ j, P (a + 4) j) (h_kb69 : ∀ (w0 : Int32) (μ : Mu), Fq P μ (kb69 w0 μ)) : Fq P μ (Mo_image_69b a kb69 v1 v2 μ) := by
  unfold Mo_image_69b
  refine fq_ite ?_ ?_
  · skip
    refine fq_cl (fq_Mo_keepsLaw h0 h1 h2 h3 h4 h5 h6 h7 h8) (fun _ _ => ?_)
    refine fq_ite ?_ ?_
    · skip
      refine fq_pF h9 (fun _ => ?_)
      exact fq_some
    · skip
      exact fq_some
  · skip
    refine fq_ldA (fun _ => ?_)
    refine fq_cl (fq_Mo_keeps h0 h1) (fun _ _ => ?_)
    refine fq_stA h10 (fun _ => ?_)
    exact h_kb69 _ _
theorem fq_Mo_image_69 {P : Nat → Nat → Prop} {a : Nat} {v1 : Int32} (h0 : P (a) 67) (h1 : ∀ j, P (a + 39) j) (h2 : ∀ j, P (a + 7) j) (h3 : ∀ j, P (a + 12) j) (h4 : ∀ j, P (a + 13) j) (h5 : ∀ j, P (a + 8) j) (h6 : ∀ j, P (a + 9) j) (h7 : ∀ j, P (a + 10) j) (h8 : ∀ j, P (a + 11) j) (h9 : P (a) 3) (h10 : ∀ j, P (a + 4) j)  : ∀ (fu : Nat) (w0 : Int32) (μ : Mu), Fq P μ (Mo_image_69 a v1 fu w0 μ) := by
  intro fu
  induction fu with
  | zero => intros; exact fq_none
  | succ fu ih => intros; exact fq_Mo_image_69b (a := a) (v1 := v1) h0 h1 h2 h3 h4 h5 h6 h7 h8 h9 h10  ih
theorem fq_Mo_image_35b {P : Nat → Nat → Prop} {a : Nat} {kb35 : Int32 → Mu → Option (Int32 × Mu)} {v1 : Int32} {v2 : Int32} {μ : Mu} (h0 : P (a) 67) (h1 : ∀ j, P (a + 39) j) (h2 : P (a) 6) (h3 : P (a) 31) (h4 : P (a) 34) (h5 : P (a) 36) (h6 : P (a) 41) (h7 : P (a) 42) (h8 : P (a) 45) (h9 : P (a) 51) (h10 : P (a) 55) (h11 : P (a) 58) (h12 : P (a) 61) (h13 : ∀ j, P (a + 26) j) (h14 : ∀ j, P (a + 27) j) (h15 : ∀ j, P (a + 24) j) (h16 : ∀ j, P (a + 29) j) (h17 : ∀ j, P (a + 32) j) (h18 : ∀ j, P (a + 22) j) (h19 : ∀ j, P (a + 23) j) (h20 : ∀ j, P (a + 34) j) (h21 : ∀ j, P (a + 35) j) (h22 : ∀ j, P (a + 36) j) (h23 : ∀ j, P (a + 17) j) (h24 : ∀ j, P (a + 18) j) (h25 : ∀ j, P (a + 7) j) (h26 : ∀ j, P (a + 12) j) (h27 : ∀ j, P (a + 13) j) (h28 : ∀ j, P (a + 8) j) (h29 : ∀ j, P (a + 9) j) (h30 : ∀ j, P (a + 10) j) (h31 : ∀ j, P (a + 11) j) (h32 : P (a) 3) (h33 : ∀ j, P (a + 4) j) (h34 : ∀ j, P (a + 1) j) (h_kb35 : ∀ (w0 : Int32) (μ : Mu), Fq P μ (kb35 w0 μ)) : Fq P μ (Mo_image_35b a kb35 v1 v2 μ) := by
  unfold Mo_image_35b
  refine fq_ite ?_ ?_
  · skip
    refine fq_cl (fq_Mo_keepsTold h0 h1 h2 h3 h4 h5 h6 h7 h8 h9 h10 h11 h12 h13 h14 h15 h16 h17 h18 h19 h20 h21 h22 h23 h24) (fun _ _ => ?_)
    exact fq_Mo_image_69 h0 h1 h25 h26 h27 h28 h29 h30 h31 h32 h33 _ _ _
  · skip
    refine fq_ldA (fun _ => ?_)
    refine fq_cl (fq_Mo_keeps h0 h1) (fun _ _ => ?_)
    refine fq_stA h34 (fun _ => ?_)
    exact h_kb35 _ _
theorem fq_Mo_image_35 {P : Nat → Nat → Prop} {a : Nat} {v1 : Int32} (h0 : P (a) 67) (h1 : ∀ j, P (a + 39) j) (h2 : P (a) 6) (h3 : P (a) 31) (h4 : P (a) 34) (h5 : P (a) 36) (h6 : P (a) 41) (h7 : P (a) 42) (h8 : P (a) 45) (h9 : P (a) 51) (h10 : P (a) 55) (h11 : P (a) 58) (h12 : P (a) 61) (h13 : ∀ j, P (a + 26) j) (h14 : ∀ j, P (a + 27) j) (h15 : ∀ j, P (a + 24) j) (h16 : ∀ j, P (a + 29) j) (h17 : ∀ j, P (a + 32) j) (h18 : ∀ j, P (a + 22) j) (h19 : ∀ j, P (a + 23) j) (h20 : ∀ j, P (a + 34) j) (h21 : ∀ j, P (a + 35) j) (h22 : ∀ j, P (a + 36) j) (h23 : ∀ j, P (a + 17) j) (h24 : ∀ j, P (a + 18) j) (h25 : ∀ j, P (a + 7) j) (h26 : ∀ j, P (a + 12) j) (h27 : ∀ j, P (a + 13) j) (h28 : ∀ j, P (a + 8) j) (h29 : ∀ j, P (a + 9) j) (h30 : ∀ j, P (a + 10) j) (h31 : ∀ j, P (a + 11) j) (h32 : P (a) 3) (h33 : ∀ j, P (a + 4) j) (h34 : ∀ j, P (a + 1) j)  : ∀ (fu : Nat) (w0 : Int32) (μ : Mu), Fq P μ (Mo_image_35 a v1 fu w0 μ) := by
  intro fu
  induction fu with
  | zero => intros; exact fq_none
  | succ fu ih => intros; exact fq_Mo_image_35b (a := a) (v1 := v1) h0 h1 h2 h3 h4 h5 h6 h7 h8 h9 h10 h11 h12 h13 h14 h15 h16 h17 h18 h19 h20 h21 h22 h23 h24 h25 h26 h27 h28 h29 h30 h31 h32 h33 h34  ih
theorem fq_Mo_image_18 {P : Nat → Nat → Prop} {a : Nat} {v1 : Int32} {μ : Mu} (h0 : P (a) 65) (h1 : P (a) 66) (h2 : P (a) 67) (h3 : ∀ j, P (a + 39) j) (h4 : P (a) 6) (h5 : P (a) 31) (h6 : P (a) 34) (h7 : P (a) 36) (h8 : P (a) 41) (h9 : P (a) 42) (h10 : P (a) 45) (h11 : P (a) 51) (h12 : P (a) 55) (h13 : P (a) 58) (h14 : P (a) 61) (h15 : ∀ j, P (a + 26) j) (h16 : ∀ j, P (a + 27) j) (h17 : ∀ j, P (a + 24) j) (h18 : ∀ j, P (a + 29) j) (h19 : ∀ j, P (a + 32) j) (h20 : ∀ j, P (a + 22) j) (h21 : ∀ j, P (a + 23) j) (h22 : ∀ j, P (a + 34) j) (h23 : ∀ j, P (a + 35) j) (h24 : ∀ j, P (a + 36) j) (h25 : ∀ j, P (a + 17) j) (h26 : ∀ j, P (a + 18) j) (h27 : ∀ j, P (a + 7) j) (h28 : ∀ j, P (a + 12) j) (h29 : ∀ j, P (a + 13) j) (h30 : ∀ j, P (a + 8) j) (h31 : ∀ j, P (a + 9) j) (h32 : ∀ j, P (a + 10) j) (h33 : ∀ j, P (a + 11) j) (h34 : P (a) 3) (h35 : ∀ j, P (a + 4) j) (h36 : ∀ j, P (a + 1) j)  : Fq P μ (Mo_image_18 a v1 μ) := by
  unfold Mo_image_18
  refine fq_zg ?_
  refine fq_pF h0 (fun _ => ?_)
  refine fq_zg ?_
  refine fq_pF h1 (fun _ => ?_)
  refine fq_pF h2 (fun _ => ?_)
  exact fq_Mo_image_35 h2 h3 h4 h5 h6 h7 h8 h9 h10 h11 h12 h13 h14 h15 h16 h17 h18 h19 h20 h21 h22 h23 h24 h25 h26 h27 h28 h29 h30 h31 h32 h33 h34 h35 h36 _ _ _
theorem fq_Mo_image {P : Nat → Nat → Prop} {a : Nat} {v1 : Int32} {μ : Mu} (h0 : P (a) 0) (h1 : P (a) 65) (h2 : P (a) 66) (h3 : P (a) 67) (h4 : ∀ j, P (a + 39) j) (h5 : P (a) 6) (h6 : P (a) 31) (h7 : P (a) 34) (h8 : P (a) 36) (h9 : P (a) 41) (h10 : P (a) 42) (h11 : P (a) 45) (h12 : P (a) 51) (h13 : P (a) 55) (h14 : P (a) 58) (h15 : P (a) 61) (h16 : ∀ j, P (a + 26) j) (h17 : ∀ j, P (a + 27) j) (h18 : ∀ j, P (a + 24) j) (h19 : ∀ j, P (a + 29) j) (h20 : ∀ j, P (a + 32) j) (h21 : ∀ j, P (a + 22) j) (h22 : ∀ j, P (a + 23) j) (h23 : ∀ j, P (a + 34) j) (h24 : ∀ j, P (a + 35) j) (h25 : ∀ j, P (a + 36) j) (h26 : ∀ j, P (a + 17) j) (h27 : ∀ j, P (a + 18) j) (h28 : ∀ j, P (a + 7) j) (h29 : ∀ j, P (a + 12) j) (h30 : ∀ j, P (a + 13) j) (h31 : ∀ j, P (a + 8) j) (h32 : ∀ j, P (a + 9) j) (h33 : ∀ j, P (a + 10) j) (h34 : ∀ j, P (a + 11) j) (h35 : P (a) 3) (h36 : ∀ j, P (a + 4) j) (h37 : ∀ j, P (a + 1) j)  : Fq P μ (Mo_image a v1 μ) := by
  unfold Mo_image
  refine fq_pF h0 (fun _ => ?_)
  refine fq_ite ?_ ?_
  · skip
    refine fq_gF (fun _ => ?_)
    refine fq_ite ?_ ?_
    · skip
      exact fq_some
    · skip
      exact fq_Mo_image_18 h1 h2 h3 h4 h5 h6 h7 h8 h9 h10 h11 h12 h13 h14 h15 h16 h17 h18 h19 h20 h21 h22 h23 h24 h25 h26 h27 h28 h29 h30 h31 h32 h33 h34 h35 h36 h37
  · skip
    exact fq_Mo_image_18 h1 h2 h3 h4 h5 h6 h7 h8 h9 h10 h11 h12 h13 h14 h15 h16 h17 h18 h19 h20 h21 h22 h23 h24 h25 h26 h27 h28 h29 h30 h31 h32 h33 h34 h35 h36 h37
theorem fq_Mo_isDigit {P : Nat → Nat → Prop} {a : Nat} {v1 : Int32} {μ : Mu}   : Fq P μ (Mo_isDigit a v1 μ) := by
  unfold Mo_isDigit
  refine fq_cl (fq_Mo_isIn) (fun _ _ => ?_)
  refine fq_zg ?_
  exact fq_some
theorem fq_Mo_isLetter_24 {P : Nat → Nat → Prop} {a : Nat} {μ : Mu}   : Fq P μ (Mo_isLetter_24 a μ) := by
  unfold Mo_isLetter_24
  exact fq_some
theorem fq_Mo_isLetter {P : Nat → Nat → Prop} {a : Nat} {v1 : Int32} {μ : Mu}   : Fq P μ (Mo_isLetter a v1 μ) := by
  unfold Mo_isLetter
  refine fq_cl (fq_Mo_isIn) (fun _ _ => ?_)
  refine fq_ite ?_ ?_
  · skip
    refine fq_cl (fq_Mo_isIn) (fun _ _ => ?_)
    refine fq_ite ?_ ?_
    · skip
      exact fq_some
    · skip
      exact fq_Mo_isLetter_24
  · skip
    exact fq_Mo_isLetter_24
theorem fq_Mo_isLineWord {P : Nat → Nat → Prop} {a : Nat} {μ : Mu}   : Fq P μ (Mo_isLineWord a μ) := by
  unfold Mo_isLineWord
  refine fq_gF (fun _ => ?_)
  refine fq_ite ?_ ?_
  · skip
    refine fq_gF (fun _ => ?_)
    refine fq_cl (fq_Mo_isIn) (fun _ _ => ?_)
    refine fq_ite ?_ ?_
    · skip
      exact fq_some
    · skip
      exact fq_some
  · skip
    exact fq_some
theorem fq_Mo_isLit_99 {P : Nat → Nat → Prop} {a : Nat} {kb2 : Int32 → Mu → Option (Int32 × Mu)} {v1 : Int32} {v2 : Int32} {v3 : Int32} {μ : Mu}  (h_kb2 : ∀ (w0 : Int32) (μ : Mu), Fq P μ (kb2 w0 μ)) : Fq P μ (Mo_isLit_99 a kb2 v1 v2 v3 μ) := by
  unfold Mo_isLit_99
  exact h_kb2 _ _
theorem fq_Mo_isLit_50 {P : Nat → Nat → Prop} {a : Nat} {kb2 : Int32 → Mu → Option (Int32 × Mu)} {v1 : Int32} {v2 : Int32} {v3 : Int32} {s0 : Int32} {μ : Mu}  (h_kb2 : ∀ (w0 : Int32) (μ : Mu), Fq P μ (kb2 w0 μ)) : Fq P μ (Mo_isLit_50 a kb2 v1 v2 v3 s0 μ) := by
  unfold Mo_isLit_50
  refine fq_ite ?_ ?_
  · skip
    exact fq_Mo_isLit_99  h_kb2
  · skip
    refine fq_ldA (fun _ => ?_)
    refine fq_ldA (fun _ => ?_)
    refine fq_ldA (fun _ => ?_)
    refine fq_ldA (fun _ => ?_)
    refine fq_ldA (fun _ => ?_)
    refine fq_ite ?_ ?_
    · skip
      exact fq_Mo_isLit_99  h_kb2
    · skip
      exact fq_some
theorem fq_Mo_isLit_45 {P : Nat → Nat → Prop} {a : Nat} {kb2 : Int32 → Mu → Option (Int32 × Mu)} {v1 : Int32} {v2 : Int32} {v3 : Int32} {μ : Mu}  (h_kb2 : ∀ (w0 : Int32) (μ : Mu), Fq P μ (kb2 w0 μ)) : Fq P μ (Mo_isLit_45 a kb2 v1 v2 v3 μ) := by
  unfold Mo_isLit_45
  exact fq_Mo_isLit_50  h_kb2
theorem fq_Mo_isLit_49 {P : Nat → Nat → Prop} {a : Nat} {kb2 : Int32 → Mu → Option (Int32 × Mu)} {v1 : Int32} {v2 : Int32} {v3 : Int32} {μ : Mu}  (h_kb2 : ∀ (w0 : Int32) (μ : Mu), Fq P μ (kb2 w0 μ)) : Fq P μ (Mo_isLit_49 a kb2 v1 v2 v3 μ) := by
  unfold Mo_isLit_49
  exact fq_Mo_isLit_50  h_kb2
theorem fq_Mo_isLit_2b {P : Nat → Nat → Prop} {a : Nat} {kb2 : Int32 → Mu → Option (Int32 × Mu)} {v1 : Int32} {v2 : Int32} {v3 : Int32} {μ : Mu}  (h_kb2 : ∀ (w0 : Int32) (μ : Mu), Fq P μ (kb2 w0 μ)) : Fq P μ (Mo_isLit_2b a kb2 v1 v2 v3 μ) := by
  unfold Mo_isLit_2b
  refine fq_gF (fun _ => ?_)
  refine fq_ite ?_ ?_
  · skip
    exact fq_some
  · skip
    refine fq_ldA (fun _ => ?_)
    refine fq_ldA (fun _ => ?_)
    refine fq_ite ?_ ?_
    · skip
      exact fq_Mo_isLit_45  h_kb2
    · skip
      refine fq_ldA (fun _ => ?_)
      refine fq_ldA (fun _ => ?_)
      refine fq_ite ?_ ?_
      · skip
        refine fq_ite ?_ ?_
        · skip
          exact fq_Mo_isLit_49  h_kb2
        · skip
          exact fq_Mo_isLit_45  h_kb2
      · skip
        exact fq_Mo_isLit_49  h_kb2
theorem fq_Mo_isLit_2 {P : Nat → Nat → Prop} {a : Nat} {v1 : Int32} {v2 : Int32}   : ∀ (fu : Nat) (w0 : Int32) (μ : Mu), Fq P μ (Mo_isLit_2 a v1 v2 fu w0 μ) := by
  intro fu
  induction fu with
  | zero => intros; exact fq_none
  | succ fu ih => intros; exact fq_Mo_isLit_2b (a := a) (v1 := v1) (v2 := v2)   ih
theorem fq_Mo_isLit {P : Nat → Nat → Prop} {a : Nat} {v1 : Int32} {v2 : Int32} {μ : Mu}   : Fq P μ (Mo_isLit a v1 v2 μ) := by
  unfold Mo_isLit
  exact fq_Mo_isLit_2 _ _ _
theorem fq_Mo_isMarkSign_60 {P : Nat → Nat → Prop} {a : Nat} {μ : Mu}   : Fq P μ (Mo_isMarkSign_60 a μ) := by
  unfold Mo_isMarkSign_60
  exact fq_some
theorem fq_Mo_isMarkSign {P : Nat → Nat → Prop} {a : Nat} {v1 : Int32} {μ : Mu}   : Fq P μ (Mo_isMarkSign a v1 μ) := by
  unfold Mo_isMarkSign
  refine fq_ite ?_ ?_
  · skip
    exact fq_Mo_isMarkSign_60
  · skip
    refine fq_ite ?_ ?_
    · skip
      exact fq_Mo_isMarkSign_60
    · skip
      refine fq_ite ?_ ?_
      · skip
        exact fq_Mo_isMarkSign_60
      · skip
        refine fq_ite ?_ ?_
        · skip
          exact fq_Mo_isMarkSign_60
        · skip
          refine fq_ite ?_ ?_
          · skip
            exact fq_Mo_isMarkSign_60
          · skip
            refine fq_ite ?_ ?_
            · skip
              exact fq_Mo_isMarkSign_60
            · skip
              refine fq_ite ?_ ?_
              · skip
                exact fq_Mo_isMarkSign_60
              · skip
                refine fq_ite ?_ ?_
                · skip
                  exact fq_Mo_isMarkSign_60
                · skip
                  refine fq_ite ?_ ?_
                  · skip
                    exact fq_Mo_isMarkSign_60
                  · skip
                    refine fq_ite ?_ ?_
                    · skip
                      exact fq_Mo_isMarkSign_60
                    · skip
                      exact fq_some
theorem fq_Mo_isSign {P : Nat → Nat → Prop} {a : Nat} {v1 : Int32} {μ : Mu}   : Fq P μ (Mo_isSign a v1 μ) := by
  unfold Mo_isSign
  refine fq_gF (fun _ => ?_)
  refine fq_ite ?_ ?_
  · skip
    refine fq_gF (fun _ => ?_)
    refine fq_ite ?_ ?_
    · skip
      exact fq_some
    · skip
      exact fq_some
  · skip
    exact fq_some
theorem fq_Mo_isWord {P : Nat → Nat → Prop} {a : Nat} {v1 : Int32} {μ : Mu}   : Fq P μ (Mo_isWord a v1 μ) := by
  unfold Mo_isWord
  refine fq_gF (fun _ => ?_)
  refine fq_ite ?_ ?_
  · skip
    refine fq_gF (fun _ => ?_)
    refine fq_ite ?_ ?_
    · skip
      exact fq_some
    · skip
      exact fq_some
  · skip
    exact fq_some
theorem fq_Mo_kindOfDeed {P : Nat → Nat → Prop} {a : Nat} {μ : Mu}   : Fq P μ (Mo_kindOfDeed a μ) := by
  unfold Mo_kindOfDeed
  refine fq_cl (fq_Mo_isWord) (fun _ _ => ?_)
  refine fq_ite ?_ ?_
  · skip
    refine fq_gF (fun _ => ?_)
    refine fq_ite ?_ ?_
    · skip
      refine fq_gF (fun _ => ?_)
      refine fq_cl (fq_Mo_isIn) (fun _ _ => ?_)
      refine fq_ite ?_ ?_
      · skip
        exact fq_some
      · skip
        refine fq_gF (fun _ => ?_)
        exact fq_some
    · skip
      exact fq_some
  · skip
    exact fq_some
theorem fq_Mo_light_85 {P : Nat → Nat → Prop} {a : Nat} {kb60 : Int32 → Int32 → Mu → Option (Int32 × Mu)} {v1 : Int32} {v4 : Int32} {v5 : Int32} {μ : Mu}  (h_kb60 : ∀ (w0 : Int32) (w1 : Int32) (μ : Mu), Fq P μ (kb60 w0 w1 μ)) : Fq P μ (Mo_light_85 a kb60 v1 v4 v5 μ) := by
  unfold Mo_light_85
  exact h_kb60 _ _ _
theorem fq_Mo_light_60b {P : Nat → Nat → Prop} {a : Nat} {kb60 : Int32 → Int32 → Mu → Option (Int32 × Mu)} {v1 : Int32} {v4 : Int32} {v5 : Int32} {μ : Mu}  (h_kb60 : ∀ (w0 : Int32) (w1 : Int32) (μ : Mu), Fq P μ (kb60 w0 w1 μ)) : Fq P μ (Mo_light_60b a kb60 v1 v4 v5 μ) := by
  unfold Mo_light_60b
  refine fq_gF (fun _ => ?_)
  refine fq_ite ?_ ?_
  · skip
    exact fq_some
  · skip
    refine fq_cl (fq_Mo_isLit) (fun _ _ => ?_)
    refine fq_ite ?_ ?_
    · skip
      exact fq_Mo_light_85  h_kb60
    · skip
      exact fq_Mo_light_85  h_kb60
theorem fq_Mo_light_60 {P : Nat → Nat → Prop} {a : Nat} {v1 : Int32}   : ∀ (fu : Nat) (w0 : Int32) (w1 : Int32) (μ : Mu), Fq P μ (Mo_light_60 a v1 fu w0 w1 μ) := by
  intro fu
  induction fu with
  | zero => intros; exact fq_none
  | succ fu ih => intros; exact fq_Mo_light_60b (a := a) (v1 := v1)   ih
theorem fq_Mo_light_49 {P : Nat → Nat → Prop} {a : Nat} {v1 : Int32} {v2 : Int32} {v3 : Int32} {μ : Mu}   : Fq P μ (Mo_light_49 a v1 v2 v3 μ) := by
  unfold Mo_light_49
  refine fq_ite ?_ ?_
  · skip
    exact fq_Mo_light_60 _ _ _ _
  · skip
    refine fq_ldA (fun _ => ?_)
    refine fq_ite ?_ ?_
    · skip
      refine fq_ldA (fun _ => ?_)
      refine fq_ldA (fun _ => ?_)
      refine fq_cl (fq_Mo_common) (fun _ _ => ?_)
      refine fq_ite ?_ ?_
      · skip
        refine fq_ldA (fun _ => ?_)
        refine fq_nz ?_
        exact fq_some
      · skip
        refine fq_ldA (fun _ => ?_)
        refine fq_nz ?_
        exact fq_some
    · skip
      exact fq_some
theorem fq_Mo_light {P : Nat → Nat → Prop} {a : Nat} {v1 : Int32} {v2 : Int32} {v3 : Int32} {μ : Mu} (h0 : P (a) 0)  : Fq P μ (Mo_light a v1 v2 v3 μ) := by
  unfold Mo_light
  refine fq_pF h0 (fun _ => ?_)
  refine fq_cl (fq_Mo_isIn) (fun _ _ => ?_)
  refine fq_ite ?_ ?_
  · skip
    exact fq_some
  · skip
    refine fq_cl (fq_Mo_isIn) (fun _ _ => ?_)
    refine fq_ite ?_ ?_
    · skip
      exact fq_some
    · skip
      refine fq_ite ?_ ?_
      · skip
        exact fq_Mo_light_49
      · skip
        refine fq_gF (fun _ => ?_)
        refine fq_cl (fq_Mo_isIn) (fun _ _ => ?_)
        refine fq_ite ?_ ?_
        · skip
          exact fq_some
        · skip
          exact fq_Mo_light_49
theorem fq_Mo_look {P : Nat → Nat → Prop} {a : Nat} {v1 : Int32} {μ : Mu} (h0 : P (a) 0)  : Fq P μ (Mo_look a v1 μ) := by
  unfold Mo_look
  refine fq_pF h0 (fun _ => ?_)
  refine fq_ite ?_ ?_
  · skip
    refine fq_gF (fun _ => ?_)
    exact fq_some
  · skip
    refine fq_ite ?_ ?_
    · skip
      refine fq_cl (fq_Mo_aliveSet) (fun _ _ => ?_)
      exact fq_some
    · skip
      refine fq_ite ?_ ?_
      · skip
        refine fq_ldA (fun _ => ?_)
        exact fq_some
      · skip
        refine fq_ite ?_ ?_
        · skip
          refine fq_ldA (fun _ => ?_)
          exact fq_some
        · skip
          refine fq_ite ?_ ?_
          · skip
            refine fq_ldA (fun _ => ?_)
            exact fq_some
          · skip
            refine fq_ite ?_ ?_
            · skip
              refine fq_ldA (fun _ => ?_)
              exact fq_some
            · skip
              refine fq_ite ?_ ?_
              · skip
                refine fq_cl (fq_Mo_tallest) (fun _ _ => ?_)
                exact fq_some
              · skip
                refine fq_ite ?_ ?_
                · skip
                  refine fq_ldA (fun _ => ?_)
                  exact fq_some
                · skip
                  refine fq_ite ?_ ?_
                  · skip
                    refine fq_ldA (fun _ => ?_)
                    exact fq_some
                  · skip
                    refine fq_ite ?_ ?_
                    · skip
                      refine fq_ldA (fun _ => ?_)
                      exact fq_some
                    · skip
                      refine fq_ite ?_ ?_
                      · skip
                        refine fq_gF (fun _ => ?_)
                        exact fq_some
                      · skip
                        refine fq_ite ?_ ?_
                        · skip
                          refine fq_gF (fun _ => ?_)
                          exact fq_some
                        · skip
                          refine fq_ite ?_ ?_
                          · skip
                            refine fq_gF (fun _ => ?_)
                            exact fq_some
                          · skip
                            refine fq_ite ?_ ?_
                            · skip
                              refine fq_gF (fun _ => ?_)
                              exact fq_some
                            · skip
                              refine fq_cl (fq_Mo_isIn) (fun _ _ => ?_)
                              refine fq_ite ?_ ?_
                              · skip
                                exact fq_some
                              · skip
                                refine fq_cl (fq_Mo_whoHas) (fun _ _ => ?_)
                                exact fq_some
theorem fq_Mo_of {P : Nat → Nat → Prop} {a : Nat} {v1 : Int32} {v2 : Int32} {μ : Mu} (h0 : P (a) 0) (h1 : ∀ j, P (a + 19) j) (h2 : ∀ j, P (a + 20) j)  : Fq P μ (Mo_of a v1 v2 μ) := by
  unfold Mo_of
  refine fq_pF h0 (fun _ => ?_)
  refine fq_cl (fq_Mo_isPerson) (fun _ _ => ?_)
  refine fq_ite ?_ ?_
  · skip
    exact fq_some
  · skip
    refine fq_cl (fq_Mo_isIn) (fun _ _ => ?_)
    refine fq_ite ?_ ?_
    · skip
      refine fq_ite ?_ ?_
      · skip
        refine fq_ldA (fun _ => ?_)
        exact fq_some
      · skip
        refine fq_ite ?_ ?_
        · skip
          refine fq_cl (fq_Mo_seatOf) (fun _ _ => ?_)
          exact fq_some
        · skip
          refine fq_ite ?_ ?_
          · skip
            refine fq_cl (fq_Mo_spillsOf h1 h2) (fun _ _ => ?_)
            exact fq_some
          · skip
            refine fq_ite ?_ ?_
            · skip
              refine fq_cl (fq_Mo_throwsOf h1 h2) (fun _ _ => ?_)
              exact fq_some
            · skip
              refine fq_ite ?_ ?_
              · skip
                refine fq_cl (fq_Mo_runsOf h1 h2) (fun _ _ => ?_)
                exact fq_some
              · skip
                refine fq_ite ?_ ?_
                · skip
                  refine fq_ldA (fun _ => ?_)
                  exact fq_some
                · skip
                  exact fq_some
    · skip
      refine fq_ldA (fun _ => ?_)
      exact fq_some
theorem fq_Mo_person_30b {P : Nat → Nat → Prop} {a : Nat} {kb30 : Int32 → Mu → Option (Int32 × Mu)} {v1 : Int32} {v2 : Int32} {μ : Mu} (h0 : ∀ j, P (a + 1) j) (h1 : P (a) 6) (h2 : P (a) 3) (h_kb30 : ∀ (w0 : Int32) (μ : Mu), Fq P μ (kb30 w0 μ)) : Fq P μ (Mo_person_30b a kb30 v1 v2 μ) := by
  unfold Mo_person_30b
  refine fq_ite ?_ ?_
  · skip
    refine fq_gF (fun _ => ?_)
    refine fq_stA h0 (fun _ => ?_)
    refine fq_gF (fun _ => ?_)
    refine fq_pF h1 (fun _ => ?_)
    refine fq_pF h2 (fun _ => ?_)
    refine fq_gF (fun _ => ?_)
    exact fq_some
  · skip
    refine fq_gF (fun _ => ?_)
    refine fq_stA h0 (fun _ => ?_)
    exact h_kb30 _ _
theorem fq_Mo_person_30 {P : Nat → Nat → Prop} {a : Nat} {v1 : Int32} (h0 : ∀ j, P (a + 1) j) (h1 : P (a) 6) (h2 : P (a) 3)  : ∀ (fu : Nat) (w0 : Int32) (μ : Mu), Fq P μ (Mo_person_30 a v1 fu w0 μ) := by
  intro fu
  induction fu with
  | zero => intros; exact fq_none
  | succ fu ih => intros; exact fq_Mo_person_30b (a := a) (v1 := v1) h0 h1 h2  ih
theorem fq_Mo_person {P : Nat → Nat → Prop} {a : Nat} {v1 : Int32} {μ : Mu} (h0 : P (a) 0) (h1 : ∀ j, P (a + 1) j) (h2 : P (a) 6) (h3 : P (a) 3)  : Fq P μ (Mo_person a v1 μ) := by
  unfold Mo_person
  refine fq_pF h0 (fun _ => ?_)
  refine fq_cl (fq_Mo_isIn) (fun _ _ => ?_)
  refine fq_ite ?_ ?_
  · skip
    exact fq_some
  · skip
    refine fq_gF (fun _ => ?_)
    refine fq_ite ?_ ?_
    · skip
      exact fq_some
    · skip
      exact fq_Mo_person_30 h1 h2 h3 _ _ _
theorem fq_Mo_point_86 {P : Nat → Nat → Prop} {a : Nat} {kb56 : Int32 → Mu → Option (Int32 × Mu)} {v1 : Int32} {v2 : Int32} {v3 : Int32} {μ : Mu}  (h_kb56 : ∀ (w0 : Int32) (μ : Mu), Fq P μ (kb56 w0 μ)) : Fq P μ (Mo_point_86 a kb56 v1 v2 v3 μ) := by
  unfold Mo_point_86
  exact h_kb56 _ _
theorem fq_Mo_point_56b {P : Nat → Nat → Prop} {a : Nat} {kb56 : Int32 → Mu → Option (Int32 × Mu)} {v1 : Int32} {v2 : Int32} {v3 : Int32} {μ : Mu} (h0 : ∀ j, P (a + 22) j) (h1 : ∀ j, P (a + 23) j) (h2 : P (a) 42) (h_kb56 : ∀ (w0 : Int32) (μ : Mu), Fq P μ (kb56 w0 μ)) : Fq P μ (Mo_point_56b a kb56 v1 v2 v3 μ) := by
  unfold Mo_point_56b
  refine fq_gF (fun _ => ?_)
  refine fq_ite ?_ ?_
  · skip
    refine fq_gF (fun _ => ?_)
    refine fq_stA h0 (fun _ => ?_)
    refine fq_gF (fun _ => ?_)
    refine fq_stA h1 (fun _ => ?_)
    refine fq_gF (fun _ => ?_)
    refine fq_pF h2 (fun _ => ?_)
    refine fq_gF (fun _ => ?_)
    exact fq_some
  · skip
    refine fq_ldA (fun _ => ?_)
    refine fq_ite ?_ ?_
    · skip
      refine fq_ldA (fun _ => ?_)
      refine fq_ite ?_ ?_
      · skip
        exact fq_some
      · skip
        exact fq_Mo_point_86  h_kb56
    · skip
      exact fq_Mo_point_86  h_kb56
theorem fq_Mo_point_56 {P : Nat → Nat → Prop} {a : Nat} {v1 : Int32} {v2 : Int32} (h0 : ∀ j, P (a + 22) j) (h1 : ∀ j, P (a + 23) j) (h2 : P (a) 42)  : ∀ (fu : Nat) (w0 : Int32) (μ : Mu), Fq P μ (Mo_point_56 a v1 v2 fu w0 μ) := by
  intro fu
  induction fu with
  | zero => intros; exact fq_none
  | succ fu ih => intros; exact fq_Mo_point_56b (a := a) (v1 := v1) (v2 := v2) h0 h1 h2  ih
theorem fq_Mo_point {P : Nat → Nat → Prop} {a : Nat} {v1 : Int32} {v2 : Int32} {μ : Mu} (h0 : P (a) 0) (h1 : P (a) 42) (h2 : ∀ j, P (a + 22) j) (h3 : ∀ j, P (a + 23) j)  : Fq P μ (Mo_point a v1 v2 μ) := by
  unfold Mo_point
  refine fq_pF h0 (fun _ => ?_)
  refine fq_ite ?_ ?_
  · skip
    refine fq_pF h1 (fun _ => ?_)
    exact fq_some
  · skip
    refine fq_cl (fq_Mo_isIn) (fun _ _ => ?_)
    refine fq_ite ?_ ?_
    · skip
      exact fq_some
    · skip
      refine fq_cl (fq_Mo_isIn) (fun _ _ => ?_)
      refine fq_ite ?_ ?_
      · skip
        exact fq_some
      · skip
        refine fq_gF (fun _ => ?_)
        refine fq_ite ?_ ?_
        · skip
          exact fq_some
        · skip
          exact fq_Mo_point_56 h2 h3 h1 _ _ _
theorem fq_Mo_post {P : Nat → Nat → Prop} {a : Nat} {v1 : Int32} {v2 : Int32} {μ : Mu} (h0 : P (a) 0) (h1 : P (a) 58) (h2 : ∀ j, P (a + 34) j) (h3 : ∀ j, P (a + 35) j)  : Fq P μ (Mo_post a v1 v2 μ) := by
  unfold Mo_post
  refine fq_pF h0 (fun _ => ?_)
  refine fq_ite ?_ ?_
  · skip
    refine fq_pF h1 (fun _ => ?_)
    exact fq_some
  · skip
    refine fq_cl (fq_Mo_isIn) (fun _ _ => ?_)
    refine fq_ite ?_ ?_
    · skip
      exact fq_some
    · skip
      refine fq_cl (fq_Mo_isIn) (fun _ _ => ?_)
      refine fq_ite ?_ ?_
      · skip
        exact fq_some
      · skip
        refine fq_gF (fun _ => ?_)
        refine fq_ite ?_ ?_
        · skip
          exact fq_some
        · skip
          refine fq_gF (fun _ => ?_)
          refine fq_stA h2 (fun _ => ?_)
          refine fq_gF (fun _ => ?_)
          refine fq_stA h3 (fun _ => ?_)
          refine fq_gF (fun _ => ?_)
          refine fq_pF h1 (fun _ => ?_)
          refine fq_gF (fun _ => ?_)
          exact fq_some
theorem fq_Mo_raw {P : Nat → Nat → Prop} {a : Nat} {v1 : Int32} {μ : Mu}   : Fq P μ (Mo_raw a v1 μ) := by
  unfold Mo_raw
  refine fq_gF (fun _ => ?_)
  refine fq_ite ?_ ?_
  · skip
    exact fq_some
  · skip
    refine fq_ldA (fun _ => ?_)
    exact fq_some
theorem fq_Mo_waits {P : Nat → Nat → Prop} {a : Nat} {v1 : Int32} {μ : Mu} (h0 : ∀ j, P (a + 14) j) (h1 : P (a) 26)  : Fq P μ (Mo_waits a v1 μ) := by
  unfold Mo_waits
  refine fq_gF (fun _ => ?_)
  refine fq_stA h0 (fun _ => ?_)
  refine fq_gF (fun _ => ?_)
  refine fq_pF h1 (fun _ => ?_)
  exact fq_some
theorem fq_Mo_wordAt_94b {P : Nat → Nat → Prop} {a : Nat} {kb5 : Int32 → Int32 → Mu → Option (Int32 × Mu)} {kb94 : Int32 → Mu → Option (Int32 × Mu)} {v1 : Int32} {v2 : Int32} {v3 : Int32} {v4 : Int32} {μ : Mu}  (h_kb5 : ∀ (w0 : Int32) (w1 : Int32) (μ : Mu), Fq P μ (kb5 w0 w1 μ)) (h_kb94 : ∀ (w0 : Int32) (μ : Mu), Fq P μ (kb94 w0 μ)) : Fq P μ (Mo_wordAt_94b a kb5 kb94 v1 v2 v3 v4 μ) := by
  unfold Mo_wordAt_94b
  refine fq_ldA (fun _ => ?_)
  refine fq_ite ?_ ?_
  · skip
    exact h_kb5 _ _ _
  · skip
    exact h_kb94 _ _
theorem fq_Mo_wordAt_94 {P : Nat → Nat → Prop} {a : Nat} {kb5 : Int32 → Int32 → Mu → Option (Int32 × Mu)} {v1 : Int32} {v2 : Int32} {v3 : Int32}  (h_kb5 : ∀ (w0 : Int32) (w1 : Int32) (μ : Mu), Fq P μ (kb5 w0 w1 μ)) : ∀ (fu : Nat) (w0 : Int32) (μ : Mu), Fq P μ (Mo_wordAt_94 a kb5 v1 v2 v3 fu w0 μ) := by
  intro fu
  induction fu with
  | zero => intros; exact fq_none
  | succ fu ih => intros; exact fq_Mo_wordAt_94b (a := a) (kb5 := kb5) (v1 := v1) (v2 := v2) (v3 := v3)  h_kb5 ih
theorem fq_Mo_wordAt_88 {P : Nat → Nat → Prop} {a : Nat} {kb5 : Int32 → Int32 → Mu → Option (Int32 × Mu)} {v1 : Int32} {v2 : Int32} {v3 : Int32} {v4 : Int32} {μ : Mu}  (h_kb5 : ∀ (w0 : Int32) (w1 : Int32) (μ : Mu), Fq P μ (kb5 w0 w1 μ)) : Fq P μ (Mo_wordAt_88 a kb5 v1 v2 v3 v4 μ) := by
  unfold Mo_wordAt_88
  exact fq_Mo_wordAt_94  h_kb5 _ _ _
theorem fq_Mo_wordAt_61 {P : Nat → Nat → Prop} {a : Nat} {kb5 : Int32 → Int32 → Mu → Option (Int32 × Mu)} {v1 : Int32} {v2 : Int32} {v3 : Int32} {v4 : Int32} {v5 : Int32} {μ : Mu}  (h_kb5 : ∀ (w0 : Int32) (w1 : Int32) (μ : Mu), Fq P μ (kb5 w0 w1 μ)) : Fq P μ (Mo_wordAt_61 a kb5 v1 v2 v3 v4 v5 μ) := by
  unfold Mo_wordAt_61
  refine fq_ite ?_ ?_
  · skip
    refine fq_ldA (fun _ => ?_)
    refine fq_ite ?_ ?_
    · skip
      exact fq_some
    · skip
      exact fq_Mo_wordAt_88  h_kb5
  · skip
    exact fq_Mo_wordAt_88  h_kb5
theorem fq_Mo_wordAt_20b {P : Nat → Nat → Prop} {a : Nat} {kb5 : Int32 → Int32 → Mu → Option (Int32 × Mu)} {kb20 : Int32 → Mu → Option (Int32 × Mu)} {v1 : Int32} {v2 : Int32} {v3 : Int32} {v4 : Int32} {v5 : Int32} {μ : Mu}  (h_kb5 : ∀ (w0 : Int32) (w1 : Int32) (μ : Mu), Fq P μ (kb5 w0 w1 μ)) (h_kb20 : ∀ (w0 : Int32) (μ : Mu), Fq P μ (kb20 w0 μ)) : Fq P μ (Mo_wordAt_20b a kb5 kb20 v1 v2 v3 v4 v5 μ) := by
  unfold Mo_wordAt_20b
  refine fq_ite ?_ ?_
  · skip
    exact fq_Mo_wordAt_61  h_kb5
  · skip
    refine fq_ldA (fun _ => ?_)
    refine fq_ldA (fun _ => ?_)
    refine fq_ite ?_ ?_
    · skip
      exact h_kb20 _ _
    · skip
      exact fq_Mo_wordAt_61  h_kb5
theorem fq_Mo_wordAt_20 {P : Nat → Nat → Prop} {a : Nat} {kb5 : Int32 → Int32 → Mu → Option (Int32 × Mu)} {v1 : Int32} {v2 : Int32} {v3 : Int32} {v4 : Int32}  (h_kb5 : ∀ (w0 : Int32) (w1 : Int32) (μ : Mu), Fq P μ (kb5 w0 w1 μ)) : ∀ (fu : Nat) (w0 : Int32) (μ : Mu), Fq P μ (Mo_wordAt_20 a kb5 v1 v2 v3 v4 fu w0 μ) := by
  intro fu
  induction fu with
  | zero => intros; exact fq_none
  | succ fu ih => intros; exact fq_Mo_wordAt_20b (a := a) (kb5 := kb5) (v1 := v1) (v2 := v2) (v3 := v3) (v4 := v4)  h_kb5 ih
theorem fq_Mo_wordAt_5b {P : Nat → Nat → Prop} {a : Nat} {kb5 : Int32 → Int32 → Mu → Option (Int32 × Mu)} {v1 : Int32} {v2 : Int32} {v3 : Int32} {v4 : Int32} {μ : Mu}  (h_kb5 : ∀ (w0 : Int32) (w1 : Int32) (μ : Mu), Fq P μ (kb5 w0 w1 μ)) : Fq P μ (Mo_wordAt_5b a kb5 v1 v2 v3 v4 μ) := by
  unfold Mo_wordAt_5b
  refine fq_ite ?_ ?_
  · skip
    exact fq_some
  · skip
    exact fq_Mo_wordAt_20  h_kb5 _ _ _
theorem fq_Mo_wordAt_5 {P : Nat → Nat → Prop} {a : Nat} {v1 : Int32} {v2 : Int32}   : ∀ (fu : Nat) (w0 : Int32) (w1 : Int32) (μ : Mu), Fq P μ (Mo_wordAt_5 a v1 v2 fu w0 w1 μ) := by
  intro fu
  induction fu with
  | zero => intros; exact fq_none
  | succ fu ih => intros; exact fq_Mo_wordAt_5b (a := a) (v1 := v1) (v2 := v2)   ih
theorem fq_Mo_wordAt {P : Nat → Nat → Prop} {a : Nat} {v1 : Int32} {v2 : Int32} {μ : Mu}   : Fq P μ (Mo_wordAt a v1 v2 μ) := by
  unfold Mo_wordAt
  exact fq_Mo_wordAt_5 _ _ _ _
theorem fq_Mo_reads_26 {P : Nat → Nat → Prop} {a : Nat} {kb0 : Mu → Option (Unit × Mu)} {μ : Mu} (h0 : P (a) 10) (h_kb0 : ∀  (μ : Mu), Fq P μ (kb0  μ)) : Fq P μ (Mo_reads_26 a kb0 μ) := by
  unfold Mo_reads_26
  refine fq_gF (fun _ => ?_)
  refine fq_pF h0 (fun _ => ?_)
  exact h_kb0 _
theorem fq_Mo_reads_223 {P : Nat → Nat → Prop} {a : Nat} {kb171 : Mu → Option (Unit × Mu)} {s0 : Int32} {μ : Mu} (h0 : P (a) 13) (h1 : P (a) 10) (h_kb171 : ∀  (μ : Mu), Fq P μ (kb171  μ)) : Fq P μ (Mo_reads_223 a kb171 s0 μ) := by
  unfold Mo_reads_223
  refine fq_pF h0 (fun _ => ?_)
  refine fq_gF (fun _ => ?_)
  refine fq_pF h1 (fun _ => ?_)
  exact h_kb171 _
theorem fq_Mo_reads_171b {P : Nat → Nat → Prop} {a : Nat} {kb171 : Mu → Option (Unit × Mu)} {μ : Mu} (h0 : P (a) 12) (h1 : P (a) 13) (h2 : P (a) 10) (h_kb171 : ∀  (μ : Mu), Fq P μ (kb171  μ)) : Fq P μ (Mo_reads_171b a kb171 μ) := by
  unfold Mo_reads_171b
  refine fq_gF (fun _ => ?_)
  refine fq_cl (fq_Mo_raw) (fun _ _ => ?_)
  refine fq_cl (fq_Mo_isDigit) (fun _ _ => ?_)
  refine fq_ite ?_ ?_
  · skip
    refine fq_gF (fun _ => ?_)
    refine fq_gF (fun _ => ?_)
    refine fq_ite ?_ ?_
    · skip
      exact fq_some
    · skip
      refine fq_pF h0 (fun _ => ?_)
      exact fq_some
  · skip
    refine fq_gF (fun _ => ?_)
    refine fq_ite ?_ ?_
    · skip
      refine fq_gF (fun _ => ?_)
      exact fq_Mo_reads_223 h1 h2 h_kb171
    · skip
      refine fq_gF (fun _ => ?_)
      refine fq_gF (fun _ => ?_)
      refine fq_cl (fq_Mo_raw) (fun _ _ => ?_)
      exact fq_Mo_reads_223 h1 h2 h_kb171
theorem fq_Mo_reads_171 {P : Nat → Nat → Prop} {a : Nat} (h0 : P (a) 12) (h1 : P (a) 13) (h2 : P (a) 10)  : ∀ (fu : Nat)  (μ : Mu), Fq P μ (Mo_reads_171 a fu  μ) := by
  intro fu
  induction fu with
  | zero => intros; exact fq_none
  | succ fu ih => intros; exact fq_Mo_reads_171b (a := a) h0 h1 h2  ih
theorem fq_Mo_reads_95b {P : Nat → Nat → Prop} {a : Nat} {kb95 : Mu → Option (Unit × Mu)} {μ : Mu} (h0 : P (a) 13) (h1 : P (a) 12) (h2 : P (a) 10) (h_kb95 : ∀  (μ : Mu), Fq P μ (kb95  μ)) : Fq P μ (Mo_reads_95b a kb95 μ) := by
  unfold Mo_reads_95b
  refine fq_gF (fun _ => ?_)
  refine fq_cl (fq_Mo_raw) (fun _ _ => ?_)
  refine fq_cl (fq_Mo_isLetter) (fun _ _ => ?_)
  refine fq_ite ?_ ?_
  · skip
    refine fq_gF (fun _ => ?_)
    refine fq_gF (fun _ => ?_)
    refine fq_cl (fq_Mo_wordAt) (fun _ _ => ?_)
    refine fq_pF h0 (fun _ => ?_)
    refine fq_gF (fun _ => ?_)
    refine fq_ite ?_ ?_
    · skip
      exact fq_some
    · skip
      refine fq_pF h1 (fun _ => ?_)
      exact fq_some
  · skip
    refine fq_gF (fun _ => ?_)
    refine fq_pF h2 (fun _ => ?_)
    exact h_kb95 _
theorem fq_Mo_reads_95 {P : Nat → Nat → Prop} {a : Nat} (h0 : P (a) 13) (h1 : P (a) 12) (h2 : P (a) 10)  : ∀ (fu : Nat)  (μ : Mu), Fq P μ (Mo_reads_95 a fu  μ) := by
  intro fu
  induction fu with
  | zero => intros; exact fq_none
  | succ fu ih => intros; exact fq_Mo_reads_95b (a := a) h0 h1 h2  ih
theorem fq_Mo_reads_0b {P : Nat → Nat → Prop} {a : Nat} {kb0 : Mu → Option (Unit × Mu)} {μ : Mu} (h0 : P (a) 10) (h1 : P (a) 11) (h2 : P (a) 12) (h3 : P (a) 13) (h_kb0 : ∀  (μ : Mu), Fq P μ (kb0  μ)) : Fq P μ (Mo_reads_0b a kb0 μ) := by
  unfold Mo_reads_0b
  refine fq_gF (fun _ => ?_)
  refine fq_cl (fq_Mo_raw) (fun _ _ => ?_)
  refine fq_ite ?_ ?_
  · skip
    exact fq_Mo_reads_26 h0 h_kb0
  · skip
    refine fq_gF (fun _ => ?_)
    refine fq_cl (fq_Mo_raw) (fun _ _ => ?_)
    refine fq_ite ?_ ?_
    · skip
      exact fq_Mo_reads_26 h0 h_kb0
    · skip
      refine fq_gF (fun _ => ?_)
      refine fq_pF h1 (fun _ => ?_)
      refine fq_pF h2 (fun _ => ?_)
      refine fq_gF (fun _ => ?_)
      refine fq_cl (fq_Mo_raw) (fun _ _ => ?_)
      refine fq_ite ?_ ?_
      · skip
        refine fq_pF h2 (fun _ => ?_)
        exact fq_some
      · skip
        refine fq_gF (fun _ => ?_)
        refine fq_pF h0 (fun _ => ?_)
        refine fq_pF h3 (fun _ => ?_)
        refine fq_cl (fq_Mo_isLetter) (fun _ _ => ?_)
        refine fq_ite ?_ ?_
        · skip
          refine fq_cl (fq_Mo_isDigit) (fun _ _ => ?_)
          refine fq_ite ?_ ?_
          · skip
            refine fq_cl (fq_Mo_isMarkSign) (fun _ _ => ?_)
            refine fq_ite ?_ ?_
            · skip
              exact fq_some
            · skip
              refine fq_pF h2 (fun _ => ?_)
              exact fq_some
          · skip
            refine fq_pF h3 (fun _ => ?_)
            exact fq_Mo_reads_171 h2 h3 h0 _ _
        · skip
          exact fq_Mo_reads_95 h3 h2 h0 _ _
theorem fq_Mo_reads_0 {P : Nat → Nat → Prop} {a : Nat} (h0 : P (a) 10) (h1 : P (a) 11) (h2 : P (a) 12) (h3 : P (a) 13)  : ∀ (fu : Nat)  (μ : Mu), Fq P μ (Mo_reads_0 a fu  μ) := by
  intro fu
  induction fu with
  | zero => intros; exact fq_none
  | succ fu ih => intros; exact fq_Mo_reads_0b (a := a) h0 h1 h2 h3  ih
theorem fq_Mo_reads {P : Nat → Nat → Prop} {a : Nat} {μ : Mu} (h0 : P (a) 10) (h1 : P (a) 11) (h2 : P (a) 12) (h3 : P (a) 13)  : Fq P μ (Mo_reads a μ) := by
  unfold Mo_reads
  exact fq_Mo_reads_0 h0 h1 h2 h3 _ _
theorem fq_Mo_readUnit_71 {P : Nat → Nat → Prop} {a : Nat} {s0 : Int32} {s1 : Int32} {μ : Mu} (h0 : ∀ j, P (a + 12) j) (h1 : ∀ j, P (a + 13) j) (h2 : P (a) 23) (h3 : P (a) 10) (h4 : P (a) 11) (h5 : P (a) 12) (h6 : P (a) 13)  : Fq P μ (Mo_readUnit_71 a s0 s1 μ) := by
  unfold Mo_readUnit_71
  refine fq_cl (fq_Mo_emits h0 h1 h2) (fun _ _ => ?_)
  refine fq_cl (fq_Mo_reads h3 h4 h5 h6) (fun _ _ => ?_)
  exact fq_some
theorem fq_Mo_readUnit_53 {P : Nat → Nat → Prop} {a : Nat} {v1 : Int32} {s0 : Int32} {μ : Mu} (h0 : ∀ j, P (a + 12) j) (h1 : ∀ j, P (a + 13) j) (h2 : P (a) 23) (h3 : P (a) 10) (h4 : P (a) 11) (h5 : P (a) 12) (h6 : P (a) 13)  : Fq P μ (Mo_readUnit_53 a v1 s0 μ) := by
  unfold Mo_readUnit_53
  refine fq_ite ?_ ?_
  · skip
    refine fq_gF (fun _ => ?_)
    exact fq_Mo_readUnit_71 h0 h1 h2 h3 h4 h5 h6
  · skip
    refine fq_gF (fun _ => ?_)
    exact fq_Mo_readUnit_71 h0 h1 h2 h3 h4 h5 h6
theorem fq_Mo_readUnit_43 {P : Nat → Nat → Prop} {a : Nat} {v1 : Int32} {μ : Mu} (h0 : ∀ j, P (a + 12) j) (h1 : ∀ j, P (a + 13) j) (h2 : P (a) 23) (h3 : P (a) 10) (h4 : P (a) 11) (h5 : P (a) 12) (h6 : P (a) 13)  : Fq P μ (Mo_readUnit_43 a v1 μ) := by
  unfold Mo_readUnit_43
  refine fq_ite ?_ ?_
  · skip
    exact fq_Mo_readUnit_53 h0 h1 h2 h3 h4 h5 h6
  · skip
    exact fq_Mo_readUnit_53 h0 h1 h2 h3 h4 h5 h6
theorem fq_Mo_readUnit_24 {P : Nat → Nat → Prop} {a : Nat} {s0 : Int32} {μ : Mu} (h0 : ∀ j, P (a + 12) j) (h1 : ∀ j, P (a + 13) j) (h2 : P (a) 23) (h3 : P (a) 10) (h4 : P (a) 11) (h5 : P (a) 12) (h6 : P (a) 13) (h7 : P (a) 27) (h8 : P (a) 28)  : Fq P μ (Mo_readUnit_24 a s0 μ) := by
  unfold Mo_readUnit_24
  refine fq_ite ?_ ?_
  · skip
    refine fq_gF (fun _ => ?_)
    refine fq_ite ?_ ?_
    · skip
      exact fq_Mo_readUnit_43 h0 h1 h2 h3 h4 h5 h6
    · skip
      refine fq_cl (fq_Mo_errs h7 h8) (fun _ _ => ?_)
      exact fq_some
  · skip
    exact fq_Mo_readUnit_43 h0 h1 h2 h3 h4 h5 h6
theorem fq_Mo_readUnit_23 {P : Nat → Nat → Prop} {a : Nat} {μ : Mu} (h0 : ∀ j, P (a + 12) j) (h1 : ∀ j, P (a + 13) j) (h2 : P (a) 23) (h3 : P (a) 10) (h4 : P (a) 11) (h5 : P (a) 12) (h6 : P (a) 13) (h7 : P (a) 27) (h8 : P (a) 28)  : Fq P μ (Mo_readUnit_23 a μ) := by
  unfold Mo_readUnit_23
  exact fq_Mo_readUnit_24 h0 h1 h2 h3 h4 h5 h6 h7 h8
theorem fq_Mo_readUnit {P : Nat → Nat → Prop} {a : Nat} {μ : Mu} (h0 : ∀ j, P (a + 12) j) (h1 : ∀ j, P (a + 13) j) (h2 : P (a) 23) (h3 : P (a) 10) (h4 : P (a) 11) (h5 : P (a) 12) (h6 : P (a) 13) (h7 : P (a) 27) (h8 : P (a) 28)  : Fq P μ (Mo_readUnit a μ) := by
  unfold Mo_readUnit
  refine fq_gF (fun _ => ?_)
  refine fq_ite ?_ ?_
  · skip
    refine fq_gF (fun _ => ?_)
    refine fq_cl (fq_Mo_canAsk) (fun _ _ => ?_)
    refine fq_ite ?_ ?_
    · skip
      exact fq_Mo_readUnit_23 h0 h1 h2 h3 h4 h5 h6 h7 h8
    · skip
      exact fq_Mo_readUnit_24 h0 h1 h2 h3 h4 h5 h6 h7 h8
  · skip
    exact fq_Mo_readUnit_23 h0 h1 h2 h3 h4 h5 h6 h7 h8
theorem fq_Mo_readProduct_94 {P : Nat → Nat → Prop} {a : Nat} {kb10 : Mu → Option (Int32 × Mu)} {s0 : Int32} {μ : Mu} (h0 : ∀ j, P (a + 12) j) (h1 : ∀ j, P (a + 13) j) (h2 : P (a) 23) (h_kb10 : ∀  (μ : Mu), Fq P μ (kb10  μ)) : Fq P μ (Mo_readProduct_94 a kb10 s0 μ) := by
  unfold Mo_readProduct_94
  refine fq_cl (fq_Mo_emits h0 h1 h2) (fun _ _ => ?_)
  exact h_kb10 _
theorem fq_Mo_readProduct_74 {P : Nat → Nat → Prop} {a : Nat} {kb10 : Mu → Option (Int32 × Mu)} {v1 : Int32} {μ : Mu} (h0 : ∀ j, P (a + 12) j) (h1 : ∀ j, P (a + 13) j) (h2 : P (a) 23) (h3 : P (a) 10) (h4 : P (a) 11) (h5 : P (a) 12) (h6 : P (a) 13) (h7 : P (a) 27) (h8 : P (a) 28) (h_kb10 : ∀  (μ : Mu), Fq P μ (kb10  μ)) : Fq P μ (Mo_readProduct_74 a kb10 v1 μ) := by
  unfold Mo_readProduct_74
  refine fq_cl (fq_Mo_readUnit h0 h1 h2 h3 h4 h5 h6 h7 h8) (fun _ _ => ?_)
  refine fq_ite ?_ ?_
  · skip
    exact fq_some
  · skip
    refine fq_ite ?_ ?_
    · skip
      exact fq_Mo_readProduct_94 h0 h1 h2 h_kb10
    · skip
      exact fq_Mo_readProduct_94 h0 h1 h2 h_kb10
theorem fq_Mo_readProduct_57 {P : Nat → Nat → Prop} {a : Nat} {kb10 : Mu → Option (Int32 × Mu)} {v1 : Int32} {μ : Mu} (h0 : P (a) 27) (h1 : P (a) 28) (h2 : ∀ j, P (a + 12) j) (h3 : ∀ j, P (a + 13) j) (h4 : P (a) 23) (h5 : P (a) 10) (h6 : P (a) 11) (h7 : P (a) 12) (h8 : P (a) 13) (h_kb10 : ∀  (μ : Mu), Fq P μ (kb10  μ)) : Fq P μ (Mo_readProduct_57 a kb10 v1 μ) := by
  unfold Mo_readProduct_57
  refine fq_ite ?_ ?_
  · skip
    refine fq_gF (fun _ => ?_)
    refine fq_ite ?_ ?_
    · skip
      refine fq_cl (fq_Mo_errs h0 h1) (fun _ _ => ?_)
      exact fq_some
    · skip
      exact fq_Mo_readProduct_74 h2 h3 h4 h5 h6 h7 h8 h0 h1 h_kb10
  · skip
    exact fq_Mo_readProduct_74 h2 h3 h4 h5 h6 h7 h8 h0 h1 h_kb10
theorem fq_Mo_readProduct_28 {P : Nat → Nat → Prop} {a : Nat} {kb10 : Mu → Option (Int32 × Mu)} {μ : Mu} (h0 : P (a) 10) (h1 : P (a) 11) (h2 : P (a) 12) (h3 : P (a) 13) (h4 : P (a) 27) (h5 : P (a) 28) (h6 : ∀ j, P (a + 12) j) (h7 : ∀ j, P (a + 13) j) (h8 : P (a) 23) (h_kb10 : ∀  (μ : Mu), Fq P μ (kb10  μ)) : Fq P μ (Mo_readProduct_28 a kb10 μ) := by
  unfold Mo_readProduct_28
  refine fq_cl (fq_Mo_isSign) (fun _ _ => ?_)
  refine fq_cl (fq_Mo_reads h0 h1 h2 h3) (fun _ _ => ?_)
  refine fq_ite ?_ ?_
  · skip
    refine fq_gF (fun _ => ?_)
    refine fq_ite ?_ ?_
    · skip
      exact fq_Mo_readProduct_57 h4 h5 h6 h7 h8 h0 h1 h2 h3 h_kb10
    · skip
      refine fq_cl (fq_Mo_errs h4 h5) (fun _ _ => ?_)
      exact fq_some
  · skip
    exact fq_Mo_readProduct_57 h4 h5 h6 h7 h8 h0 h1 h2 h3 h_kb10
theorem fq_Mo_readProduct_10b {P : Nat → Nat → Prop} {a : Nat} {kb10 : Mu → Option (Int32 × Mu)} {μ : Mu} (h0 : P (a) 10) (h1 : P (a) 11) (h2 : P (a) 12) (h3 : P (a) 13) (h4 : P (a) 27) (h5 : P (a) 28) (h6 : ∀ j, P (a + 12) j) (h7 : ∀ j, P (a + 13) j) (h8 : P (a) 23) (h_kb10 : ∀  (μ : Mu), Fq P μ (kb10  μ)) : Fq P μ (Mo_readProduct_10b a kb10 μ) := by
  unfold Mo_readProduct_10b
  refine fq_cl (fq_Mo_isSign) (fun _ _ => ?_)
  refine fq_ite ?_ ?_
  · skip
    refine fq_cl (fq_Mo_isSign) (fun _ _ => ?_)
    refine fq_ite ?_ ?_
    · skip
      exact fq_some
    · skip
      exact fq_Mo_readProduct_28 h0 h1 h2 h3 h4 h5 h6 h7 h8 h_kb10
  · skip
    exact fq_Mo_readProduct_28 h0 h1 h2 h3 h4 h5 h6 h7 h8 h_kb10
theorem fq_Mo_readProduct_10 {P : Nat → Nat → Prop} {a : Nat} (h0 : P (a) 10) (h1 : P (a) 11) (h2 : P (a) 12) (h3 : P (a) 13) (h4 : P (a) 27) (h5 : P (a) 28) (h6 : ∀ j, P (a + 12) j) (h7 : ∀ j, P (a + 13) j) (h8 : P (a) 23)  : ∀ (fu : Nat)  (μ : Mu), Fq P μ (Mo_readProduct_10 a fu  μ) := by
  intro fu
  induction fu with
  | zero => intros; exact fq_none
  | succ fu ih => intros; exact fq_Mo_readProduct_10b (a := a) h0 h1 h2 h3 h4 h5 h6 h7 h8  ih
theorem fq_Mo_readProduct {P : Nat → Nat → Prop} {a : Nat} {μ : Mu} (h0 : ∀ j, P (a + 12) j) (h1 : ∀ j, P (a + 13) j) (h2 : P (a) 23) (h3 : P (a) 10) (h4 : P (a) 11) (h5 : P (a) 12) (h6 : P (a) 13) (h7 : P (a) 27) (h8 : P (a) 28)  : Fq P μ (Mo_readProduct a μ) := by
  unfold Mo_readProduct
  refine fq_cl (fq_Mo_readUnit h0 h1 h2 h3 h4 h5 h6 h7 h8) (fun _ _ => ?_)
  refine fq_ite ?_ ?_
  · skip
    exact fq_some
  · skip
    exact fq_Mo_readProduct_10 h3 h4 h5 h6 h7 h8 h0 h1 h2 _ _
theorem fq_Mo_readSum_42 {P : Nat → Nat → Prop} {a : Nat} {kb10 : Mu → Option (Int32 × Mu)} {s0 : Int32} {μ : Mu} (h0 : P (a) 10) (h1 : P (a) 11) (h2 : P (a) 12) (h3 : P (a) 13) (h4 : ∀ j, P (a + 12) j) (h5 : ∀ j, P (a + 13) j) (h6 : P (a) 23) (h7 : P (a) 27) (h8 : P (a) 28) (h_kb10 : ∀  (μ : Mu), Fq P μ (kb10  μ)) : Fq P μ (Mo_readSum_42 a kb10 s0 μ) := by
  unfold Mo_readSum_42
  refine fq_cl (fq_Mo_reads h0 h1 h2 h3) (fun _ _ => ?_)
  refine fq_cl (fq_Mo_readProduct h4 h5 h6 h0 h1 h2 h3 h7 h8) (fun _ _ => ?_)
  refine fq_ite ?_ ?_
  · skip
    exact fq_some
  · skip
    refine fq_cl (fq_Mo_emits h4 h5 h6) (fun _ _ => ?_)
    exact h_kb10 _
theorem fq_Mo_readSum_28 {P : Nat → Nat → Prop} {a : Nat} {kb10 : Mu → Option (Int32 × Mu)} {μ : Mu} (h0 : P (a) 10) (h1 : P (a) 11) (h2 : P (a) 12) (h3 : P (a) 13) (h4 : ∀ j, P (a + 12) j) (h5 : ∀ j, P (a + 13) j) (h6 : P (a) 23) (h7 : P (a) 27) (h8 : P (a) 28) (h_kb10 : ∀  (μ : Mu), Fq P μ (kb10  μ)) : Fq P μ (Mo_readSum_28 a kb10 μ) := by
  unfold Mo_readSum_28
  refine fq_gF (fun _ => ?_)
  refine fq_ite ?_ ?_
  · skip
    exact fq_Mo_readSum_42 h0 h1 h2 h3 h4 h5 h6 h7 h8 h_kb10
  · skip
    exact fq_Mo_readSum_42 h0 h1 h2 h3 h4 h5 h6 h7 h8 h_kb10
theorem fq_Mo_readSum_10b {P : Nat → Nat → Prop} {a : Nat} {kb10 : Mu → Option (Int32 × Mu)} {μ : Mu} (h0 : P (a) 10) (h1 : P (a) 11) (h2 : P (a) 12) (h3 : P (a) 13) (h4 : ∀ j, P (a + 12) j) (h5 : ∀ j, P (a + 13) j) (h6 : P (a) 23) (h7 : P (a) 27) (h8 : P (a) 28) (h_kb10 : ∀  (μ : Mu), Fq P μ (kb10  μ)) : Fq P μ (Mo_readSum_10b a kb10 μ) := by
  unfold Mo_readSum_10b
  refine fq_cl (fq_Mo_isSign) (fun _ _ => ?_)
  refine fq_ite ?_ ?_
  · skip
    refine fq_cl (fq_Mo_isSign) (fun _ _ => ?_)
    refine fq_ite ?_ ?_
    · skip
      exact fq_some
    · skip
      exact fq_Mo_readSum_28 h0 h1 h2 h3 h4 h5 h6 h7 h8 h_kb10
  · skip
    exact fq_Mo_readSum_28 h0 h1 h2 h3 h4 h5 h6 h7 h8 h_kb10
theorem fq_Mo_readSum_10 {P : Nat → Nat → Prop} {a : Nat} (h0 : P (a) 10) (h1 : P (a) 11) (h2 : P (a) 12) (h3 : P (a) 13) (h4 : ∀ j, P (a + 12) j) (h5 : ∀ j, P (a + 13) j) (h6 : P (a) 23) (h7 : P (a) 27) (h8 : P (a) 28)  : ∀ (fu : Nat)  (μ : Mu), Fq P μ (Mo_readSum_10 a fu  μ) := by
  intro fu
  induction fu with
  | zero => intros; exact fq_none
  | succ fu ih => intros; exact fq_Mo_readSum_10b (a := a) h0 h1 h2 h3 h4 h5 h6 h7 h8  ih
theorem fq_Mo_readSum {P : Nat → Nat → Prop} {a : Nat} {μ : Mu} (h0 : ∀ j, P (a + 12) j) (h1 : ∀ j, P (a + 13) j) (h2 : P (a) 23) (h3 : P (a) 10) (h4 : P (a) 11) (h5 : P (a) 12) (h6 : P (a) 13) (h7 : P (a) 27) (h8 : P (a) 28)  : Fq P μ (Mo_readSum a μ) := by
  unfold Mo_readSum
  refine fq_cl (fq_Mo_readProduct h0 h1 h2 h3 h4 h5 h6 h7 h8) (fun _ _ => ?_)
  refine fq_ite ?_ ?_
  · skip
    exact fq_some
  · skip
    exact fq_Mo_readSum_10 h3 h4 h5 h6 h0 h1 h2 h7 h8 _ _
theorem fq_Mo_readCompared_73 {P : Nat → Nat → Prop} {a : Nat} {s0 : Int32} {μ : Mu} (h0 : P (a) 10) (h1 : P (a) 11) (h2 : P (a) 12) (h3 : P (a) 13) (h4 : ∀ j, P (a + 12) j) (h5 : ∀ j, P (a + 13) j) (h6 : P (a) 23) (h7 : P (a) 27) (h8 : P (a) 28)  : Fq P μ (Mo_readCompared_73 a s0 μ) := by
  unfold Mo_readCompared_73
  refine fq_cl (fq_Mo_reads h0 h1 h2 h3) (fun _ _ => ?_)
  refine fq_cl (fq_Mo_readSum h4 h5 h6 h0 h1 h2 h3 h7 h8) (fun _ _ => ?_)
  refine fq_ite ?_ ?_
  · skip
    exact fq_some
  · skip
    refine fq_cl (fq_Mo_emits h4 h5 h6) (fun _ _ => ?_)
    exact fq_some
theorem fq_Mo_readCompared_43 {P : Nat → Nat → Prop} {a : Nat} {μ : Mu} (h0 : P (a) 10) (h1 : P (a) 11) (h2 : P (a) 12) (h3 : P (a) 13) (h4 : ∀ j, P (a + 12) j) (h5 : ∀ j, P (a + 13) j) (h6 : P (a) 23) (h7 : P (a) 27) (h8 : P (a) 28)  : Fq P μ (Mo_readCompared_43 a μ) := by
  unfold Mo_readCompared_43
  refine fq_gF (fun _ => ?_)
  refine fq_ite ?_ ?_
  · skip
    exact fq_Mo_readCompared_73 h0 h1 h2 h3 h4 h5 h6 h7 h8
  · skip
    refine fq_gF (fun _ => ?_)
    refine fq_ite ?_ ?_
    · skip
      exact fq_Mo_readCompared_73 h0 h1 h2 h3 h4 h5 h6 h7 h8
    · skip
      exact fq_Mo_readCompared_73 h0 h1 h2 h3 h4 h5 h6 h7 h8
theorem fq_Mo_readCompared {P : Nat → Nat → Prop} {a : Nat} {μ : Mu} (h0 : ∀ j, P (a + 12) j) (h1 : ∀ j, P (a + 13) j) (h2 : P (a) 23) (h3 : P (a) 10) (h4 : P (a) 11) (h5 : P (a) 12) (h6 : P (a) 13) (h7 : P (a) 27) (h8 : P (a) 28)  : Fq P μ (Mo_readCompared a μ) := by
  unfold Mo_readCompared
  refine fq_cl (fq_Mo_readSum h0 h1 h2 h3 h4 h5 h6 h7 h8) (fun _ _ => ?_)
  refine fq_ite ?_ ?_
  · skip
    exact fq_some
  · skip
    refine fq_cl (fq_Mo_isSign) (fun _ _ => ?_)
    refine fq_ite ?_ ?_
    · skip
      refine fq_cl (fq_Mo_isSign) (fun _ _ => ?_)
      refine fq_ite ?_ ?_
      · skip
        refine fq_cl (fq_Mo_isSign) (fun _ _ => ?_)
        refine fq_ite ?_ ?_
        · skip
          refine fq_cl (fq_Mo_errs h7 h8) (fun _ _ => ?_)
          exact fq_some
        · skip
          exact fq_Mo_readCompared_43 h3 h4 h5 h6 h0 h1 h2 h7 h8
      · skip
        exact fq_Mo_readCompared_43 h3 h4 h5 h6 h0 h1 h2 h7 h8
    · skip
      exact fq_Mo_readCompared_43 h3 h4 h5 h6 h0 h1 h2 h7 h8
theorem fq_Mo_settles_0b {P : Nat → Nat → Prop} {a : Nat} {kb0 : Mu → Option (Unit × Mu)} {v1 : Int32} {μ : Mu} (h0 : P (a) 26) (h1 : ∀ j, P (a + 12) j) (h2 : ∀ j, P (a + 13) j) (h3 : P (a) 23) (h4 : P (a) 24) (h_kb0 : ∀  (μ : Mu), Fq P μ (kb0  μ)) : Fq P μ (Mo_settles_0b a kb0 v1 μ) := by
  unfold Mo_settles_0b
  refine fq_gF (fun _ => ?_)
  refine fq_ite ?_ ?_
  · skip
    exact fq_some
  · skip
    refine fq_gF (fun _ => ?_)
    refine fq_ldA (fun _ => ?_)
    refine fq_ite ?_ ?_
    · skip
      refine fq_gF (fun _ => ?_)
      refine fq_pF h0 (fun _ => ?_)
      refine fq_cl (fq_Mo_emits h1 h2 h3) (fun _ _ => ?_)
      refine fq_ite ?_ ?_
      · skip
        refine fq_gF (fun _ => ?_)
        refine fq_pF h4 (fun _ => ?_)
        exact h_kb0 _
      · skip
        exact h_kb0 _
    · skip
      exact fq_some
theorem fq_Mo_settles_0 {P : Nat → Nat → Prop} {a : Nat} {v1 : Int32} (h0 : P (a) 26) (h1 : ∀ j, P (a + 12) j) (h2 : ∀ j, P (a + 13) j) (h3 : P (a) 23) (h4 : P (a) 24)  : ∀ (fu : Nat)  (μ : Mu), Fq P μ (Mo_settles_0 a v1 fu  μ) := by
  intro fu
  induction fu with
  | zero => intros; exact fq_none
  | succ fu ih => intros; exact fq_Mo_settles_0b (a := a) (v1 := v1) h0 h1 h2 h3 h4  ih
theorem fq_Mo_settles {P : Nat → Nat → Prop} {a : Nat} {v1 : Int32} {μ : Mu} (h0 : P (a) 26) (h1 : ∀ j, P (a + 12) j) (h2 : ∀ j, P (a + 13) j) (h3 : P (a) 23) (h4 : P (a) 24)  : Fq P μ (Mo_settles a v1 μ) := by
  unfold Mo_settles
  exact fq_Mo_settles_0 h0 h1 h2 h3 h4 _ _
theorem fq_Mo_readAny_78 {P : Nat → Nat → Prop} {a : Nat} {kb9 : Int32 → Int32 → Mu → Option (Int32 × Mu)} {v1 : Int32} {v2 : Int32} {s0 : Int32} {μ : Mu} (h0 : ∀ j, P (a + 14) j) (h1 : P (a) 26) (h2 : P (a) 10) (h3 : P (a) 11) (h4 : P (a) 12) (h5 : P (a) 13) (h_kb9 : ∀ (w0 : Int32) (w1 : Int32) (μ : Mu), Fq P μ (kb9 w0 w1 μ)) : Fq P μ (Mo_readAny_78 a kb9 v1 v2 s0 μ) := by
  unfold Mo_readAny_78
  refine fq_cl (fq_Mo_waits h0 h1) (fun _ _ => ?_)
  refine fq_cl (fq_Mo_reads h2 h3 h4 h5) (fun _ _ => ?_)
  exact h_kb9 _ _ _
theorem fq_Mo_readAny_66 {P : Nat → Nat → Prop} {a : Nat} {kb9 : Int32 → Int32 → Mu → Option (Int32 × Mu)} {v1 : Int32} {v2 : Int32} {v3 : Int32} {μ : Mu} (h0 : ∀ j, P (a + 14) j) (h1 : P (a) 26) (h2 : P (a) 10) (h3 : P (a) 11) (h4 : P (a) 12) (h5 : P (a) 13) (h_kb9 : ∀ (w0 : Int32) (w1 : Int32) (μ : Mu), Fq P μ (kb9 w0 w1 μ)) : Fq P μ (Mo_readAny_66 a kb9 v1 v2 v3 μ) := by
  unfold Mo_readAny_66
  refine fq_ite ?_ ?_
  · skip
    exact fq_Mo_readAny_78 h0 h1 h2 h3 h4 h5 h_kb9
  · skip
    exact fq_Mo_readAny_78 h0 h1 h2 h3 h4 h5 h_kb9
theorem fq_Mo_readAny_33 {P : Nat → Nat → Prop} {a : Nat} {kb9 : Int32 → Int32 → Mu → Option (Int32 × Mu)} {v1 : Int32} {v2 : Int32} {v3 : Int32} {μ : Mu} (h0 : P (a) 27) (h1 : P (a) 28) (h2 : P (a) 24) (h3 : ∀ j, P (a + 14) j) (h4 : P (a) 26) (h5 : P (a) 10) (h6 : P (a) 11) (h7 : P (a) 12) (h8 : P (a) 13) (h_kb9 : ∀ (w0 : Int32) (w1 : Int32) (μ : Mu), Fq P μ (kb9 w0 w1 μ)) : Fq P μ (Mo_readAny_33 a kb9 v1 v2 v3 μ) := by
  unfold Mo_readAny_33
  refine fq_gF (fun _ => ?_)
  refine fq_ite ?_ ?_
  · skip
    refine fq_cl (fq_Mo_errs h0 h1) (fun _ _ => ?_)
    exact fq_some
  · skip
    refine fq_gF (fun _ => ?_)
    refine fq_pF h2 (fun _ => ?_)
    refine fq_ite ?_ ?_
    · skip
      exact fq_Mo_readAny_66 h3 h4 h5 h6 h7 h8 h_kb9
    · skip
      exact fq_Mo_readAny_66 h3 h4 h5 h6 h7 h8 h_kb9
theorem fq_Mo_readAny_9b {P : Nat → Nat → Prop} {a : Nat} {kb9 : Int32 → Int32 → Mu → Option (Int32 × Mu)} {v1 : Int32} {v2 : Int32} {μ : Mu} (h0 : P (a) 26) (h1 : ∀ j, P (a + 12) j) (h2 : ∀ j, P (a + 13) j) (h3 : P (a) 23) (h4 : P (a) 24) (h5 : P (a) 27) (h6 : P (a) 28) (h7 : P (a) 10) (h8 : P (a) 11) (h9 : P (a) 12) (h10 : P (a) 13) (h11 : ∀ j, P (a + 14) j) (h_kb9 : ∀ (w0 : Int32) (w1 : Int32) (μ : Mu), Fq P μ (kb9 w0 w1 μ)) : Fq P μ (Mo_readAny_9b a kb9 v1 v2 μ) := by
  unfold Mo_readAny_9b
  refine fq_ite ?_ ?_
  · skip
    refine fq_cl (fq_Mo_isWord) (fun _ _ => ?_)
    refine fq_ite ?_ ?_
    · skip
      refine fq_cl (fq_Mo_isWord) (fun _ _ => ?_)
      refine fq_ite ?_ ?_
      · skip
        refine fq_cl (fq_Mo_settles h0 h1 h2 h3 h4) (fun _ _ => ?_)
        refine fq_cl (fq_Mo_settles h0 h1 h2 h3 h4) (fun _ _ => ?_)
        refine fq_ite ?_ ?_
        · skip
          exact fq_some
        · skip
          refine fq_cl (fq_Mo_isSign) (fun _ _ => ?_)
          refine fq_ite ?_ ?_
          · skip
            refine fq_cl (fq_Mo_errs h5 h6) (fun _ _ => ?_)
            exact fq_some
          · skip
            refine fq_gF (fun _ => ?_)
            refine fq_pF h0 (fun _ => ?_)
            refine fq_gF (fun _ => ?_)
            refine fq_pF h4 (fun _ => ?_)
            refine fq_cl (fq_Mo_settles h0 h1 h2 h3 h4) (fun _ _ => ?_)
            refine fq_cl (fq_Mo_reads h7 h8 h9 h10) (fun _ _ => ?_)
            exact h_kb9 _ _ _
      · skip
        refine fq_cl (fq_Mo_settles h0 h1 h2 h3 h4) (fun _ _ => ?_)
        refine fq_cl (fq_Mo_settles h0 h1 h2 h3 h4) (fun _ _ => ?_)
        refine fq_cl (fq_Mo_waits h11 h0) (fun _ _ => ?_)
        refine fq_cl (fq_Mo_reads h7 h8 h9 h10) (fun _ _ => ?_)
        exact h_kb9 _ _ _
    · skip
      refine fq_cl (fq_Mo_settles h0 h1 h2 h3 h4) (fun _ _ => ?_)
      refine fq_cl (fq_Mo_waits h11 h0) (fun _ _ => ?_)
      refine fq_cl (fq_Mo_reads h7 h8 h9 h10) (fun _ _ => ?_)
      exact h_kb9 _ _ _
  · skip
    refine fq_cl (fq_Mo_isWord) (fun _ _ => ?_)
    refine fq_ite ?_ ?_
    · skip
      refine fq_cl (fq_Mo_isSign) (fun _ _ => ?_)
      refine fq_ite ?_ ?_
      · skip
        refine fq_cl (fq_Mo_readCompared h1 h2 h3 h7 h8 h9 h10 h5 h6) (fun _ _ => ?_)
        refine fq_ite ?_ ?_
        · skip
          exact fq_some
        · skip
          refine fq_cl (fq_Mo_settles h0 h1 h2 h3 h4) (fun _ _ => ?_)
          exact h_kb9 _ _ _
      · skip
        exact fq_Mo_readAny_33 h5 h6 h4 h11 h0 h7 h8 h9 h10 h_kb9
    · skip
      exact fq_Mo_readAny_33 h5 h6 h4 h11 h0 h7 h8 h9 h10 h_kb9
theorem fq_Mo_readAny_9 {P : Nat → Nat → Prop} {a : Nat} (h0 : P (a) 26) (h1 : ∀ j, P (a + 12) j) (h2 : ∀ j, P (a + 13) j) (h3 : P (a) 23) (h4 : P (a) 24) (h5 : P (a) 27) (h6 : P (a) 28) (h7 : P (a) 10) (h8 : P (a) 11) (h9 : P (a) 12) (h10 : P (a) 13) (h11 : ∀ j, P (a + 14) j)  : ∀ (fu : Nat) (w0 : Int32) (w1 : Int32) (μ : Mu), Fq P μ (Mo_readAny_9 a fu w0 w1 μ) := by
  intro fu
  induction fu with
  | zero => intros; exact fq_none
  | succ fu ih => intros; exact fq_Mo_readAny_9b (a := a) h0 h1 h2 h3 h4 h5 h6 h7 h8 h9 h10 h11  ih
theorem fq_Mo_readAny {P : Nat → Nat → Prop} {a : Nat} {μ : Mu} (h0 : P (a) 26) (h1 : ∀ j, P (a + 12) j) (h2 : ∀ j, P (a + 13) j) (h3 : P (a) 23) (h4 : P (a) 24) (h5 : P (a) 27) (h6 : P (a) 28) (h7 : P (a) 10) (h8 : P (a) 11) (h9 : P (a) 12) (h10 : P (a) 13) (h11 : ∀ j, P (a + 14) j)  : Fq P μ (Mo_readAny a μ) := by
  unfold Mo_readAny
  refine fq_pF h0 (fun _ => ?_)
  exact fq_Mo_readAny_9 h0 h1 h2 h3 h4 h5 h6 h7 h8 h9 h10 h11 _ _ _ _
theorem fq_Mo_readNumber {P : Nat → Nat → Prop} {a : Nat} {v1 : Int32} {v2 : Int32} {μ : Mu} (h0 : P (a) 27) (h1 : P (a) 28) (h2 : P (a) 10) (h3 : P (a) 11) (h4 : P (a) 12) (h5 : P (a) 13)  : Fq P μ (Mo_readNumber a v1 v2 μ) := by
  unfold Mo_readNumber
  refine fq_gF (fun _ => ?_)
  refine fq_ite ?_ ?_
  · skip
    refine fq_gF (fun _ => ?_)
    refine fq_cl (fq_Mo_isIn) (fun _ _ => ?_)
    refine fq_ite ?_ ?_
    · skip
      refine fq_cl (fq_Mo_errs h0 h1) (fun _ _ => ?_)
      exact fq_some
    · skip
      refine fq_gF (fun _ => ?_)
      refine fq_cl (fq_Mo_reads h2 h3 h4 h5) (fun _ _ => ?_)
      exact fq_some
  · skip
    refine fq_cl (fq_Mo_errs h0 h1) (fun _ _ => ?_)
    exact fq_some
theorem fq_Mo_readTold {P : Nat → Nat → Prop} {a : Nat} {v1 : Int32} {v2 : Int32} {v3 : Int32} {μ : Mu} (h0 : P (a) 27) (h1 : P (a) 28) (h2 : P (a) 10) (h3 : P (a) 11) (h4 : P (a) 12) (h5 : P (a) 13)  : Fq P μ (Mo_readTold a v1 v2 v3 μ) := by
  unfold Mo_readTold
  refine fq_cl (fq_Mo_isWord) (fun _ _ => ?_)
  refine fq_ite ?_ ?_
  · skip
    refine fq_cl (fq_Mo_errs h0 h1) (fun _ _ => ?_)
    exact fq_some
  · skip
    refine fq_cl (fq_Mo_reads h2 h3 h4 h5) (fun _ _ => ?_)
    refine fq_cl (fq_Mo_readNumber h0 h1 h2 h3 h4 h5) (fun _ _ => ?_)
    exact fq_some
theorem fq_Mo_readMark {P : Nat → Nat → Prop} {a : Nat} {v1 : Int32} {μ : Mu} (h0 : P (a) 27) (h1 : P (a) 28) (h2 : P (a) 10) (h3 : P (a) 11) (h4 : P (a) 12) (h5 : P (a) 13)  : Fq P μ (Mo_readMark a v1 μ) := by
  unfold Mo_readMark
  refine fq_cl (fq_Mo_isSign) (fun _ _ => ?_)
  refine fq_ite ?_ ?_
  · skip
    refine fq_cl (fq_Mo_errs h0 h1) (fun _ _ => ?_)
    exact fq_some
  · skip
    refine fq_cl (fq_Mo_reads h2 h3 h4 h5) (fun _ _ => ?_)
    exact fq_some
theorem fq_Mo_readDeed_152 {P : Nat → Nat → Prop} {a : Nat} {v1 : Int32} {s0 : Int32} {s1 : Int32} {μ : Mu} (h0 : ∀ j, P (a + 17) j) (h1 : P (a) 27) (h2 : P (a) 28) (h3 : P (a) 10) (h4 : P (a) 11) (h5 : P (a) 12) (h6 : P (a) 13)  : Fq P μ (Mo_readDeed_152 a v1 s0 s1 μ) := by
  unfold Mo_readDeed_152
  refine fq_stA h0 (fun _ => ?_)
  refine fq_ldA (fun _ => ?_)
  refine fq_ite ?_ ?_
  · skip
    exact fq_some
  · skip
    refine fq_cl (fq_Mo_readMark h1 h2 h3 h4 h5 h6) (fun _ _ => ?_)
    exact fq_some
theorem fq_Mo_readDeed_114 {P : Nat → Nat → Prop} {a : Nat} {v1 : Int32} {v2 : Int32} {s0 : Int32} {s1 : Int32} {μ : Mu} (h0 : ∀ j, P (a + 17) j) (h1 : P (a) 27) (h2 : P (a) 28) (h3 : P (a) 10) (h4 : P (a) 11) (h5 : P (a) 12) (h6 : P (a) 13)  : Fq P μ (Mo_readDeed_114 a v1 v2 s0 s1 μ) := by
  unfold Mo_readDeed_114
  refine fq_stA h0 (fun _ => ?_)
  refine fq_ldA (fun _ => ?_)
  refine fq_ite ?_ ?_
  · skip
    exact fq_some
  · skip
    refine fq_ite ?_ ?_
    · skip
      refine fq_cl (fq_Mo_readNumber h1 h2 h3 h4 h5 h6) (fun _ _ => ?_)
      exact fq_Mo_readDeed_152 h0 h1 h2 h3 h4 h5 h6
    · skip
      exact fq_Mo_readDeed_152 h0 h1 h2 h3 h4 h5 h6
theorem fq_Mo_readDeed {P : Nat → Nat → Prop} {a : Nat} {v1 : Int32} {μ : Mu} (h0 : P (a) 27) (h1 : P (a) 28) (h2 : P (a) 10) (h3 : P (a) 11) (h4 : P (a) 12) (h5 : P (a) 13) (h6 : ∀ j, P (a + 17) j)  : Fq P μ (Mo_readDeed a v1 μ) := by
  unfold Mo_readDeed
  refine fq_cl (fq_Mo_readTold h0 h1 h2 h3 h4 h5) (fun _ _ => ?_)
  refine fq_stA h6 (fun _ => ?_)
  refine fq_ldA (fun _ => ?_)
  refine fq_ite ?_ ?_
  · skip
    exact fq_some
  · skip
    refine fq_cl (fq_Mo_kindOfDeed) (fun _ _ => ?_)
    refine fq_ite ?_ ?_
    · skip
      refine fq_cl (fq_Mo_errs h0 h1) (fun _ _ => ?_)
      exact fq_some
    · skip
      refine fq_cl (fq_Mo_reads h2 h3 h4 h5) (fun _ _ => ?_)
      refine fq_stA h6 (fun _ => ?_)
      refine fq_ite ?_ ?_
      · skip
        exact fq_Mo_readDeed_114 h6 h0 h1 h2 h3 h4 h5
      · skip
        refine fq_ite ?_ ?_
        · skip
          refine fq_cl (fq_Mo_readNumber h0 h1 h2 h3 h4 h5) (fun _ _ => ?_)
          exact fq_Mo_readDeed_114 h6 h0 h1 h2 h3 h4 h5
        · skip
          refine fq_ite ?_ ?_
          · skip
            refine fq_cl (fq_Mo_readNumber h0 h1 h2 h3 h4 h5) (fun _ _ => ?_)
            exact fq_Mo_readDeed_114 h6 h0 h1 h2 h3 h4 h5
          · skip
            refine fq_gF (fun _ => ?_)
            refine fq_cl (fq_Mo_readNumber h0 h1 h2 h3 h4 h5) (fun _ _ => ?_)
            exact fq_Mo_readDeed_114 h6 h0 h1 h2 h3 h4 h5
theorem fq_Mo_readHeir_62 {P : Nat → Nat → Prop} {a : Nat} {v1 : Int32} {μ : Mu} (h0 : P (a) 27) (h1 : P (a) 28) (h2 : P (a) 10) (h3 : P (a) 11) (h4 : P (a) 12) (h5 : P (a) 13) (h6 : ∀ j, P (a + 18) j)  : Fq P μ (Mo_readHeir_62 a v1 μ) := by
  unfold Mo_readHeir_62
  refine fq_gF (fun _ => ?_)
  refine fq_cl (fq_Mo_readNumber h0 h1 h2 h3 h4 h5) (fun _ _ => ?_)
  refine fq_ite ?_ ?_
  · skip
    exact fq_some
  · skip
    refine fq_stA h6 (fun _ => ?_)
    refine fq_cl (fq_Mo_readMark h0 h1 h2 h3 h4 h5) (fun _ _ => ?_)
    exact fq_some
theorem fq_Mo_readHeir {P : Nat → Nat → Prop} {a : Nat} {μ : Mu} (h0 : P (a) 27) (h1 : P (a) 28) (h2 : P (a) 10) (h3 : P (a) 11) (h4 : P (a) 12) (h5 : P (a) 13) (h6 : ∀ j, P (a + 18) j)  : Fq P μ (Mo_readHeir a μ) := by
  unfold Mo_readHeir
  refine fq_gF (fun _ => ?_)
  refine fq_cl (fq_Mo_readTold h0 h1 h2 h3 h4 h5) (fun _ _ => ?_)
  refine fq_ite ?_ ?_
  · skip
    exact fq_some
  · skip
    refine fq_cl (fq_Mo_isWord) (fun _ _ => ?_)
    refine fq_ite ?_ ?_
    · skip
      refine fq_cl (fq_Mo_errs h0 h1) (fun _ _ => ?_)
      exact fq_some
    · skip
      refine fq_cl (fq_Mo_reads h2 h3 h4 h5) (fun _ _ => ?_)
      refine fq_gF (fun _ => ?_)
      refine fq_ite ?_ ?_
      · skip
        refine fq_gF (fun _ => ?_)
        refine fq_ite ?_ ?_
        · skip
          refine fq_cl (fq_Mo_errs h0 h1) (fun _ _ => ?_)
          exact fq_some
        · skip
          exact fq_Mo_readHeir_62 h0 h1 h2 h3 h4 h5 h6
      · skip
        exact fq_Mo_readHeir_62 h0 h1 h2 h3 h4 h5 h6
theorem fq_Mo_readHeirs_26b {P : Nat → Nat → Prop} {a : Nat} {kb26 : Int32 → Mu → Option (Int32 × Mu)} {v1 : Int32} {μ : Mu} (h0 : P (a) 27) (h1 : P (a) 28) (h2 : P (a) 10) (h3 : P (a) 11) (h4 : P (a) 12) (h5 : P (a) 13) (h6 : ∀ j, P (a + 18) j) (h_kb26 : ∀ (w0 : Int32) (μ : Mu), Fq P μ (kb26 w0 μ)) : Fq P μ (Mo_readHeirs_26b a kb26 v1 μ) := by
  unfold Mo_readHeirs_26b
  refine fq_cl (fq_Mo_isWord) (fun _ _ => ?_)
  refine fq_ite ?_ ?_
  · skip
    refine fq_gF (fun _ => ?_)
    refine fq_ite ?_ ?_
    · skip
      exact fq_some
    · skip
      refine fq_cl (fq_Mo_errs h0 h1) (fun _ _ => ?_)
      exact fq_some
  · skip
    refine fq_ite ?_ ?_
    · skip
      refine fq_cl (fq_Mo_errs h0 h1) (fun _ _ => ?_)
      exact fq_some
    · skip
      refine fq_cl (fq_Mo_readHeir h0 h1 h2 h3 h4 h5 h6) (fun _ _ => ?_)
      refine fq_ite ?_ ?_
      · skip
        exact fq_some
      · skip
        exact h_kb26 _ _
theorem fq_Mo_readHeirs_26 {P : Nat → Nat → Prop} {a : Nat} (h0 : P (a) 27) (h1 : P (a) 28) (h2 : P (a) 10) (h3 : P (a) 11) (h4 : P (a) 12) (h5 : P (a) 13) (h6 : ∀ j, P (a + 18) j)  : ∀ (fu : Nat) (w0 : Int32) (μ : Mu), Fq P μ (Mo_readHeirs_26 a fu w0 μ) := by
  intro fu
  induction fu with
  | zero => intros; exact fq_none
  | succ fu ih => intros; exact fq_Mo_readHeirs_26b (a := a) h0 h1 h2 h3 h4 h5 h6  ih
theorem fq_Mo_readHeirs_2b {P : Nat → Nat → Prop} {a : Nat} {kb2 : Int32 → Mu → Option (Int32 × Mu)} {v1 : Int32} {μ : Mu} (h0 : P (a) 27) (h1 : P (a) 28) (h2 : P (a) 10) (h3 : P (a) 11) (h4 : P (a) 12) (h5 : P (a) 13) (h6 : ∀ j, P (a + 18) j) (h_kb2 : ∀ (w0 : Int32) (μ : Mu), Fq P μ (kb2 w0 μ)) : Fq P μ (Mo_readHeirs_2b a kb2 v1 μ) := by
  unfold Mo_readHeirs_2b
  refine fq_ite ?_ ?_
  · skip
    exact fq_Mo_readHeirs_26 h0 h1 h2 h3 h4 h5 h6 _ _ _
  · skip
    refine fq_stA h6 (fun _ => ?_)
    exact h_kb2 _ _
theorem fq_Mo_readHeirs_2 {P : Nat → Nat → Prop} {a : Nat} (h0 : P (a) 27) (h1 : P (a) 28) (h2 : P (a) 10) (h3 : P (a) 11) (h4 : P (a) 12) (h5 : P (a) 13) (h6 : ∀ j, P (a + 18) j)  : ∀ (fu : Nat) (w0 : Int32) (μ : Mu), Fq P μ (Mo_readHeirs_2 a fu w0 μ) := by
  intro fu
  induction fu with
  | zero => intros; exact fq_none
  | succ fu ih => intros; exact fq_Mo_readHeirs_2b (a := a) h0 h1 h2 h3 h4 h5 h6  ih
theorem fq_Mo_readHeirs {P : Nat → Nat → Prop} {a : Nat} {μ : Mu} (h0 : P (a) 27) (h1 : P (a) 28) (h2 : P (a) 10) (h3 : P (a) 11) (h4 : P (a) 12) (h5 : P (a) 13) (h6 : ∀ j, P (a + 18) j)  : Fq P μ (Mo_readHeirs a μ) := by
  unfold Mo_readHeirs
  exact fq_Mo_readHeirs_2 h0 h1 h2 h3 h4 h5 h6 _ _ _
theorem fq_Mo_readLaw_92 {P : Nat → Nat → Prop} {a : Nat} {kb2 : Int32 → Mu → Option (Int32 × Mu)} {v1 : Int32} {v2 : Int32} {μ : Mu} (h0 : ∀ j, P (a + 11) j) (h1 : P (a) 27) (h2 : P (a) 28) (h3 : P (a) 10) (h4 : P (a) 11) (h5 : P (a) 12) (h6 : P (a) 13) (h_kb2 : ∀ (w0 : Int32) (μ : Mu), Fq P μ (kb2 w0 μ)) : Fq P μ (Mo_readLaw_92 a kb2 v1 v2 μ) := by
  unfold Mo_readLaw_92
  refine fq_gF (fun _ => ?_)
  refine fq_stA h0 (fun _ => ?_)
  refine fq_cl (fq_Mo_isSign) (fun _ _ => ?_)
  refine fq_ite ?_ ?_
  · skip
    refine fq_cl (fq_Mo_errs h1 h2) (fun _ _ => ?_)
    exact fq_some
  · skip
    refine fq_cl (fq_Mo_reads h3 h4 h5 h6) (fun _ _ => ?_)
    exact h_kb2 _ _
theorem fq_Mo_readLaw_2b {P : Nat → Nat → Prop} {a : Nat} {kb2 : Int32 → Mu → Option (Int32 × Mu)} {v1 : Int32} {μ : Mu} (h0 : P (a) 27) (h1 : P (a) 28) (h2 : ∀ j, P (a + 8) j) (h3 : P (a) 10) (h4 : P (a) 11) (h5 : P (a) 12) (h6 : P (a) 13) (h7 : ∀ j, P (a + 9) j) (h8 : ∀ j, P (a + 12) j) (h9 : ∀ j, P (a + 13) j) (h10 : P (a) 23) (h11 : ∀ j, P (a + 10) j) (h12 : ∀ j, P (a + 11) j) (h13 : P (a) 26) (h14 : P (a) 24) (h15 : ∀ j, P (a + 14) j) (h_kb2 : ∀ (w0 : Int32) (μ : Mu), Fq P μ (kb2 w0 μ)) : Fq P μ (Mo_readLaw_2b a kb2 v1 μ) := by
  unfold Mo_readLaw_2b
  refine fq_cl (fq_Mo_isLineWord) (fun _ _ => ?_)
  refine fq_ite ?_ ?_
  · skip
    refine fq_gF (fun _ => ?_)
    refine fq_ite ?_ ?_
    · skip
      exact fq_some
    · skip
      refine fq_cl (fq_Mo_errs h0 h1) (fun _ _ => ?_)
      exact fq_some
  · skip
    refine fq_ite ?_ ?_
    · skip
      refine fq_cl (fq_Mo_errs h0 h1) (fun _ _ => ?_)
      exact fq_some
    · skip
      refine fq_gF (fun _ => ?_)
      refine fq_stA h2 (fun _ => ?_)
      refine fq_cl (fq_Mo_reads h3 h4 h5 h6) (fun _ _ => ?_)
      refine fq_gF (fun _ => ?_)
      refine fq_stA h7 (fun _ => ?_)
      refine fq_cl (fq_Mo_readSum h8 h9 h10 h3 h4 h5 h6 h0 h1) (fun _ _ => ?_)
      refine fq_ite ?_ ?_
      · skip
        exact fq_some
      · skip
        refine fq_gF (fun _ => ?_)
        refine fq_stA h11 (fun _ => ?_)
        refine fq_cl (fq_Mo_isWord) (fun _ _ => ?_)
        refine fq_ite ?_ ?_
        · skip
          exact fq_Mo_readLaw_92 h12 h0 h1 h3 h4 h5 h6 h_kb2
        · skip
          refine fq_cl (fq_Mo_reads h3 h4 h5 h6) (fun _ _ => ?_)
          refine fq_cl (fq_Mo_readAny h13 h8 h9 h10 h14 h0 h1 h3 h4 h5 h6 h15) (fun _ _ => ?_)
          refine fq_ite ?_ ?_
          · skip
            exact fq_some
          · skip
            exact fq_Mo_readLaw_92 h12 h0 h1 h3 h4 h5 h6 h_kb2
theorem fq_Mo_readLaw_2 {P : Nat → Nat → Prop} {a : Nat} (h0 : P (a) 27) (h1 : P (a) 28) (h2 : ∀ j, P (a + 8) j) (h3 : P (a) 10) (h4 : P (a) 11) (h5 : P (a) 12) (h6 : P (a) 13) (h7 : ∀ j, P (a + 9) j) (h8 : ∀ j, P (a + 12) j) (h9 : ∀ j, P (a + 13) j) (h10 : P (a) 23) (h11 : ∀ j, P (a + 10) j) (h12 : ∀ j, P (a + 11) j) (h13 : P (a) 26) (h14 : P (a) 24) (h15 : ∀ j, P (a + 14) j)  : ∀ (fu : Nat) (w0 : Int32) (μ : Mu), Fq P μ (Mo_readLaw_2 a fu w0 μ) := by
  intro fu
  induction fu with
  | zero => intros; exact fq_none
  | succ fu ih => intros; exact fq_Mo_readLaw_2b (a := a) h0 h1 h2 h3 h4 h5 h6 h7 h8 h9 h10 h11 h12 h13 h14 h15  ih
theorem fq_Mo_readLaw {P : Nat → Nat → Prop} {a : Nat} {μ : Mu} (h0 : P (a) 27) (h1 : P (a) 28) (h2 : ∀ j, P (a + 8) j) (h3 : P (a) 10) (h4 : P (a) 11) (h5 : P (a) 12) (h6 : P (a) 13) (h7 : ∀ j, P (a + 9) j) (h8 : ∀ j, P (a + 12) j) (h9 : ∀ j, P (a + 13) j) (h10 : P (a) 23) (h11 : ∀ j, P (a + 10) j) (h12 : ∀ j, P (a + 11) j) (h13 : P (a) 26) (h14 : P (a) 24) (h15 : ∀ j, P (a + 14) j)  : Fq P μ (Mo_readLaw a μ) := by
  unfold Mo_readLaw
  exact fq_Mo_readLaw_2 h0 h1 h2 h3 h4 h5 h6 h7 h8 h9 h10 h11 h12 h13 h14 h15 _ _ _
theorem fq_Mo_readTable_2b {P : Nat → Nat → Prop} {a : Nat} {kb2 : Int32 → Mu → Option (Int32 × Mu)} {v1 : Int32} {μ : Mu} (h0 : P (a) 27) (h1 : P (a) 28) (h2 : P (a) 10) (h3 : P (a) 11) (h4 : P (a) 12) (h5 : P (a) 13) (h6 : ∀ j, P (a + 15) j) (h7 : ∀ j, P (a + 16) j) (h_kb2 : ∀ (w0 : Int32) (μ : Mu), Fq P μ (kb2 w0 μ)) : Fq P μ (Mo_readTable_2b a kb2 v1 μ) := by
  unfold Mo_readTable_2b
  refine fq_cl (fq_Mo_isWord) (fun _ _ => ?_)
  refine fq_ite ?_ ?_
  · skip
    refine fq_gF (fun _ => ?_)
    refine fq_ite ?_ ?_
    · skip
      exact fq_some
    · skip
      refine fq_cl (fq_Mo_errs h0 h1) (fun _ _ => ?_)
      exact fq_some
  · skip
    refine fq_ite ?_ ?_
    · skip
      refine fq_cl (fq_Mo_errs h0 h1) (fun _ _ => ?_)
      exact fq_some
    · skip
      refine fq_cl (fq_Mo_readTold h0 h1 h2 h3 h4 h5) (fun _ _ => ?_)
      refine fq_stA h6 (fun _ => ?_)
      refine fq_ldA (fun _ => ?_)
      refine fq_ite ?_ ?_
      · skip
        exact fq_some
      · skip
        refine fq_gF (fun _ => ?_)
        refine fq_cl (fq_Mo_readTold h0 h1 h2 h3 h4 h5) (fun _ _ => ?_)
        refine fq_stA h7 (fun _ => ?_)
        refine fq_ldA (fun _ => ?_)
        refine fq_ite ?_ ?_
        · skip
          exact fq_some
        · skip
          refine fq_cl (fq_Mo_readMark h0 h1 h2 h3 h4 h5) (fun _ _ => ?_)
          refine fq_ite ?_ ?_
          · skip
            exact fq_some
          · skip
            exact h_kb2 _ _
theorem fq_Mo_readTable_2 {P : Nat → Nat → Prop} {a : Nat} (h0 : P (a) 27) (h1 : P (a) 28) (h2 : P (a) 10) (h3 : P (a) 11) (h4 : P (a) 12) (h5 : P (a) 13) (h6 : ∀ j, P (a + 15) j) (h7 : ∀ j, P (a + 16) j)  : ∀ (fu : Nat) (w0 : Int32) (μ : Mu), Fq P μ (Mo_readTable_2 a fu w0 μ) := by
  intro fu
  induction fu with
  | zero => intros; exact fq_none
  | succ fu ih => intros; exact fq_Mo_readTable_2b (a := a) h0 h1 h2 h3 h4 h5 h6 h7  ih
theorem fq_Mo_readTable {P : Nat → Nat → Prop} {a : Nat} {μ : Mu} (h0 : P (a) 27) (h1 : P (a) 28) (h2 : P (a) 10) (h3 : P (a) 11) (h4 : P (a) 12) (h5 : P (a) 13) (h6 : ∀ j, P (a + 15) j) (h7 : ∀ j, P (a + 16) j)  : Fq P μ (Mo_readTable a μ) := by
  unfold Mo_readTable
  exact fq_Mo_readTable_2 h0 h1 h2 h3 h4 h5 h6 h7 _ _ _
theorem fq_Mo_readWeather_2b {P : Nat → Nat → Prop} {a : Nat} {kb2 : Int32 → Mu → Option (Int32 × Mu)} {v1 : Int32} {μ : Mu} (h0 : P (a) 27) (h1 : P (a) 28) (h2 : P (a) 10) (h3 : P (a) 11) (h4 : P (a) 12) (h5 : P (a) 13) (h6 : ∀ j, P (a + 17) j) (h_kb2 : ∀ (w0 : Int32) (μ : Mu), Fq P μ (kb2 w0 μ)) : Fq P μ (Mo_readWeather_2b a kb2 v1 μ) := by
  unfold Mo_readWeather_2b
  refine fq_cl (fq_Mo_isWord) (fun _ _ => ?_)
  refine fq_ite ?_ ?_
  · skip
    refine fq_gF (fun _ => ?_)
    refine fq_ite ?_ ?_
    · skip
      exact fq_some
    · skip
      refine fq_cl (fq_Mo_errs h0 h1) (fun _ _ => ?_)
      exact fq_some
  · skip
    refine fq_ite ?_ ?_
    · skip
      refine fq_cl (fq_Mo_errs h0 h1) (fun _ _ => ?_)
      exact fq_some
    · skip
      refine fq_cl (fq_Mo_readDeed h0 h1 h2 h3 h4 h5 h6) (fun _ _ => ?_)
      refine fq_ite ?_ ?_
      · skip
        exact fq_some
      · skip
        exact h_kb2 _ _
theorem fq_Mo_readWeather_2 {P : Nat → Nat → Prop} {a : Nat} (h0 : P (a) 27) (h1 : P (a) 28) (h2 : P (a) 10) (h3 : P (a) 11) (h4 : P (a) 12) (h5 : P (a) 13) (h6 : ∀ j, P (a + 17) j)  : ∀ (fu : Nat) (w0 : Int32) (μ : Mu), Fq P μ (Mo_readWeather_2 a fu w0 μ) := by
  intro fu
  induction fu with
  | zero => intros; exact fq_none
  | succ fu ih => intros; exact fq_Mo_readWeather_2b (a := a) h0 h1 h2 h3 h4 h5 h6  ih
theorem fq_Mo_readWeather {P : Nat → Nat → Prop} {a : Nat} {μ : Mu} (h0 : P (a) 27) (h1 : P (a) 28) (h2 : P (a) 10) (h3 : P (a) 11) (h4 : P (a) 12) (h5 : P (a) 13) (h6 : ∀ j, P (a + 17) j)  : Fq P μ (Mo_readWeather a μ) := by
  unfold Mo_readWeather
  exact fq_Mo_readWeather_2 h0 h1 h2 h3 h4 h5 h6 _ _ _
theorem fq_Mo_readsText {P : Nat → Nat → Prop} {a : Nat} {v1 : Int32} {μ : Mu} (h0 : P (a) 22) (h1 : P (a) 10) (h2 : P (a) 11) (h3 : P (a) 12) (h4 : P (a) 13) (h5 : P (a) 27) (h6 : P (a) 28) (h7 : ∀ j, P (a + 15) j) (h8 : ∀ j, P (a + 16) j) (h9 : ∀ j, P (a + 17) j) (h10 : ∀ j, P (a + 18) j) (h11 : ∀ j, P (a + 8) j) (h12 : ∀ j, P (a + 9) j) (h13 : ∀ j, P (a + 12) j) (h14 : ∀ j, P (a + 13) j) (h15 : P (a) 23) (h16 : ∀ j, P (a + 10) j) (h17 : ∀ j, P (a + 11) j) (h18 : P (a) 26) (h19 : P (a) 24) (h20 : ∀ j, P (a + 14) j)  : Fq P μ (Mo_readsText a v1 μ) := by
  unfold Mo_readsText
  refine fq_pF h0 (fun _ => ?_)
  refine fq_cl (fq_Mo_reads h1 h2 h3 h4) (fun _ _ => ?_)
  refine fq_ite ?_ ?_
  · skip
    refine fq_cl (fq_Mo_readTable h5 h6 h1 h2 h3 h4 h7 h8) (fun _ _ => ?_)
    exact fq_some
  · skip
    refine fq_ite ?_ ?_
    · skip
      refine fq_cl (fq_Mo_readWeather h5 h6 h1 h2 h3 h4 h9) (fun _ _ => ?_)
      exact fq_some
    · skip
      refine fq_ite ?_ ?_
      · skip
        refine fq_cl (fq_Mo_readHeirs h5 h6 h1 h2 h3 h4 h10) (fun _ _ => ?_)
        exact fq_some
      · skip
        refine fq_cl (fq_Mo_readLaw h5 h6 h11 h1 h2 h3 h4 h12 h13 h14 h15 h16 h17 h18 h19 h20) (fun _ _ => ?_)
        exact fq_some
theorem fq_Mo_row {P : Nat → Nat → Prop} {a : Nat} {v1 : Int32} {v2 : Int32} {μ : Mu} (h0 : P (a) 0) (h1 : ∀ j, P (a + 26) j) (h2 : ∀ j, P (a + 27) j)  : Fq P μ (Mo_row a v1 v2 μ) := by
  unfold Mo_row
  refine fq_pF h0 (fun _ => ?_)
  refine fq_cl (fq_Mo_isIn) (fun _ _ => ?_)
  refine fq_ite ?_ ?_
  · skip
    exact fq_some
  · skip
    refine fq_ite ?_ ?_
    · skip
      refine fq_stA h1 (fun _ => ?_)
      exact fq_some
    · skip
      refine fq_cl (fq_Mo_isIn) (fun _ _ => ?_)
      refine fq_ite ?_ ?_
      · skip
        exact fq_some
      · skip
        refine fq_ldA (fun _ => ?_)
        refine fq_ite ?_ ?_
        · skip
          exact fq_some
        · skip
          refine fq_ldA (fun _ => ?_)
          refine fq_stA h2 (fun _ => ?_)
          refine fq_ldA (fun _ => ?_)
          refine fq_stA h1 (fun _ => ?_)
          refine fq_ldA (fun _ => ?_)
          exact fq_some
theorem fq_Mo_set_116 {P : Nat → Nat → Prop} {a : Nat} {μ : Mu} (h0 : P (a) 3)  : Fq P μ (Mo_set_116 a μ) := by
  unfold Mo_set_116
  refine fq_pF h0 (fun _ => ?_)
  exact fq_some
theorem fq_Mo_set_112 {P : Nat → Nat → Prop} {a : Nat} {v2 : Int32} {v3 : Int32} {s0 : Int32} {μ : Mu} (h0 : ∀ j, P (a + 1) j) (h1 : P (a) 3)  : Fq P μ (Mo_set_112 a v2 v3 s0 μ) := by
  unfold Mo_set_112
  refine fq_stA h0 (fun _ => ?_)
  exact fq_Mo_set_116 h1
theorem fq_Mo_set_73 {P : Nat → Nat → Prop} {a : Nat} {v1 : Int32} {v2 : Int32} {v3 : Int32} {s0 : Int32} {μ : Mu} (h0 : ∀ j, P (a + 1) j) (h1 : P (a) 3)  : Fq P μ (Mo_set_73 a v1 v2 v3 s0 μ) := by
  unfold Mo_set_73
  refine fq_ite ?_ ?_
  · skip
    exact fq_some
  · skip
    refine fq_ite ?_ ?_
    · skip
      refine fq_stA h0 (fun _ => ?_)
      exact fq_Mo_set_116 h1
    · skip
      refine fq_ite ?_ ?_
      · skip
        exact fq_Mo_set_112 h0 h1
      · skip
        exact fq_Mo_set_112 h0 h1
theorem fq_Mo_set_72 {P : Nat → Nat → Prop} {a : Nat} {v1 : Int32} {v2 : Int32} {v3 : Int32} {μ : Mu} (h0 : ∀ j, P (a + 1) j) (h1 : P (a) 3)  : Fq P μ (Mo_set_72 a v1 v2 v3 μ) := by
  unfold Mo_set_72
  exact fq_Mo_set_73 h0 h1
theorem fq_Mo_set_62 {P : Nat → Nat → Prop} {a : Nat} {v1 : Int32} {v2 : Int32} {v3 : Int32} {s0 : Int32} {s1 : Int32} {s2 : Int32} {μ : Mu} (h0 : ∀ j, P (a + 1) j) (h1 : P (a) 3)  : Fq P μ (Mo_set_62 a v1 v2 v3 s0 s1 s2 μ) := by
  unfold Mo_set_62
  refine fq_cl (fq_Mo_isIn) (fun _ _ => ?_)
  refine fq_ite ?_ ?_
  · skip
    exact fq_Mo_set_72 h0 h1
  · skip
    exact fq_Mo_set_73 h0 h1
theorem fq_Mo_set {P : Nat → Nat → Prop} {a : Nat} {v1 : Int32} {v2 : Int32} {v3 : Int32} {μ : Mu} (h0 : P (a) 0) (h1 : ∀ j, P (a + 1) j) (h2 : P (a) 3)  : Fq P μ (Mo_set a v1 v2 v3 μ) := by
  unfold Mo_set
  refine fq_pF h0 (fun _ => ?_)
  refine fq_ite ?_ ?_
  · skip
    refine fq_cl (fq_Mo_isIn) (fun _ _ => ?_)
    exact fq_Mo_set_73 h1 h2
  · skip
    refine fq_cl (fq_Mo_isIn) (fun _ _ => ?_)
    refine fq_ite ?_ ?_
    · skip
      exact fq_Mo_set_72 h1 h2
    · skip
      refine fq_cl (fq_Mo_isPerson) (fun _ _ => ?_)
      refine fq_ite ?_ ?_
      · skip
        exact fq_Mo_set_72 h1 h2
      · skip
        refine fq_cl (fq_Mo_isAlive) (fun _ _ => ?_)
        refine fq_ite ?_ ?_
        · skip
          exact fq_Mo_set_72 h1 h2
        · skip
          refine fq_ite ?_ ?_
          · skip
            exact fq_Mo_set_62 h1 h2
          · skip
            exact fq_Mo_set_62 h1 h2
theorem fq_Mo_shadow_117 {P : Nat → Nat → Prop} {a : Nat} {kb19 : Int32 → Mu → Option (Int32 × Mu)} {kb31 : Int32 → Mu → Option (Int32 × Mu)} {v1 : Int32} {v2 : Int32} {v3 : Int32} {v4 : Int32} {μ : Mu} (h0 : ∀ j, P (a + 28) j) (h_kb19 : ∀ (w0 : Int32) (μ : Mu), Fq P μ (kb19 w0 μ)) (h_kb31 : ∀ (w0 : Int32) (μ : Mu), Fq P μ (kb31 w0 μ)) : Fq P μ (Mo_shadow_117 a kb19 kb31 v1 v2 v3 v4 μ) := by
  unfold Mo_shadow_117
  refine fq_stA h0 (fun _ => ?_)
  exact h_kb31 _ _
theorem fq_Mo_shadow_114 {P : Nat → Nat → Prop} {a : Nat} {kb19 : Int32 → Mu → Option (Int32 × Mu)} {kb31 : Int32 → Mu → Option (Int32 × Mu)} {v1 : Int32} {v2 : Int32} {v3 : Int32} {s0 : Int32} {s1 : Int32} {μ : Mu} (h0 : ∀ j, P (a + 28) j) (h_kb19 : ∀ (w0 : Int32) (μ : Mu), Fq P μ (kb19 w0 μ)) (h_kb31 : ∀ (w0 : Int32) (μ : Mu), Fq P μ (kb31 w0 μ)) : Fq P μ (Mo_shadow_114 a kb19 kb31 v1 v2 v3 s0 s1 μ) := by
  unfold Mo_shadow_114
  exact fq_Mo_shadow_117 h0 h_kb19 h_kb31
theorem fq_Mo_shadow_50 {P : Nat → Nat → Prop} {a : Nat} {kb19 : Int32 → Mu → Option (Int32 × Mu)} {kb31 : Int32 → Mu → Option (Int32 × Mu)} {v1 : Int32} {v2 : Int32} {v3 : Int32} {s0 : Int32} {μ : Mu} (h0 : ∀ j, P (a + 28) j) (h_kb19 : ∀ (w0 : Int32) (μ : Mu), Fq P μ (kb19 w0 μ)) (h_kb31 : ∀ (w0 : Int32) (μ : Mu), Fq P μ (kb31 w0 μ)) : Fq P μ (Mo_shadow_50 a kb19 kb31 v1 v2 v3 s0 μ) := by
  unfold Mo_shadow_50
  refine fq_ite ?_ ?_
  · skip
    exact fq_Mo_shadow_117 h0 h_kb19 h_kb31
  · skip
    refine fq_ite ?_ ?_
    · skip
      exact fq_Mo_shadow_117 h0 h_kb19 h_kb31
    · skip
      refine fq_ldA (fun _ => ?_)
      refine fq_ldA (fun _ => ?_)
      refine fq_ldA (fun _ => ?_)
      refine fq_ite ?_ ?_
      · skip
        refine fq_ldA (fun _ => ?_)
        exact fq_Mo_shadow_114 h0 h_kb19 h_kb31
      · skip
        exact fq_Mo_shadow_114 h0 h_kb19 h_kb31
theorem fq_Mo_shadow_31b {P : Nat → Nat → Prop} {a : Nat} {kb19 : Int32 → Mu → Option (Int32 × Mu)} {kb31 : Int32 → Mu → Option (Int32 × Mu)} {v1 : Int32} {v2 : Int32} {v3 : Int32} {μ : Mu} (h0 : ∀ j, P (a + 28) j) (h_kb19 : ∀ (w0 : Int32) (μ : Mu), Fq P μ (kb19 w0 μ)) (h_kb31 : ∀ (w0 : Int32) (μ : Mu), Fq P μ (kb31 w0 μ)) : Fq P μ (Mo_shadow_31b a kb19 kb31 v1 v2 v3 μ) := by
  unfold Mo_shadow_31b
  refine fq_ldA (fun _ => ?_)
  refine fq_ite ?_ ?_
  · skip
    exact h_kb19 _ _
  · skip
    refine fq_ite ?_ ?_
    · skip
      exact fq_Mo_shadow_50 h0 h_kb19 h_kb31
    · skip
      exact fq_Mo_shadow_50 h0 h_kb19 h_kb31
theorem fq_Mo_shadow_31 {P : Nat → Nat → Prop} {a : Nat} {kb19 : Int32 → Mu → Option (Int32 × Mu)} {v1 : Int32} {v2 : Int32} (h0 : ∀ j, P (a + 28) j) (h_kb19 : ∀ (w0 : Int32) (μ : Mu), Fq P μ (kb19 w0 μ)) : ∀ (fu : Nat) (w0 : Int32) (μ : Mu), Fq P μ (Mo_shadow_31 a kb19 v1 v2 fu w0 μ) := by
  intro fu
  induction fu with
  | zero => intros; exact fq_none
  | succ fu ih => intros; exact fq_Mo_shadow_31b (a := a) (kb19 := kb19) (v1 := v1) (v2 := v2) h0 h_kb19 ih
theorem fq_Mo_shadow_19b {P : Nat → Nat → Prop} {a : Nat} {kb19 : Int32 → Mu → Option (Int32 × Mu)} {v1 : Int32} {v2 : Int32} {μ : Mu} (h0 : ∀ j, P (a + 28) j) (h_kb19 : ∀ (w0 : Int32) (μ : Mu), Fq P μ (kb19 w0 μ)) : Fq P μ (Mo_shadow_19b a kb19 v1 v2 μ) := by
  unfold Mo_shadow_19b
  refine fq_ldA (fun _ => ?_)
  refine fq_ite ?_ ?_
  · skip
    refine fq_ldA (fun _ => ?_)
    refine fq_ldA (fun _ => ?_)
    refine fq_ldA (fun _ => ?_)
    refine fq_ite ?_ ?_
    · skip
      exact fq_some
    · skip
      refine fq_ite ?_ ?_
      · skip
        exact fq_some
      · skip
        exact fq_some
  · skip
    exact fq_Mo_shadow_31 h0 h_kb19 _ _ _
theorem fq_Mo_shadow_19 {P : Nat → Nat → Prop} {a : Nat} {v1 : Int32} (h0 : ∀ j, P (a + 28) j)  : ∀ (fu : Nat) (w0 : Int32) (μ : Mu), Fq P μ (Mo_shadow_19 a v1 fu w0 μ) := by
  intro fu
  induction fu with
  | zero => intros; exact fq_none
  | succ fu ih => intros; exact fq_Mo_shadow_19b (a := a) (v1 := v1) h0  ih
theorem fq_Mo_shadow {P : Nat → Nat → Prop} {a : Nat} {v1 : Int32} {μ : Mu} (h0 : P (a) 0) (h1 : ∀ j, P (a + 28) j)  : Fq P μ (Mo_shadow a v1 μ) := by
  unfold Mo_shadow
  refine fq_pF h0 (fun _ => ?_)
  refine fq_cl (fq_Mo_isIn) (fun _ _ => ?_)
  refine fq_ite ?_ ?_
  · skip
    exact fq_some
  · skip
    exact fq_Mo_shadow_19 h1 _ _ _
theorem fq_Mo_side {P : Nat → Nat → Prop} {a : Nat} {v1 : Int32} {v2 : Int32} {v3 : Int32} {μ : Mu} (h0 : P (a) 0)  : Fq P μ (Mo_side a v1 v2 v3 μ) := by
  unfold Mo_side
  refine fq_pF h0 (fun _ => ?_)
  refine fq_gF (fun _ => ?_)
  refine fq_cl (fq_Mo_isIn) (fun _ _ => ?_)
  refine fq_ite ?_ ?_
  · skip
    exact fq_some
  · skip
    refine fq_gF (fun _ => ?_)
    refine fq_cl (fq_Mo_isIn) (fun _ _ => ?_)
    refine fq_ite ?_ ?_
    · skip
      exact fq_some
    · skip
      refine fq_gF (fun _ => ?_)
      refine fq_cl (fq_Mo_isIn) (fun _ _ => ?_)
      refine fq_ite ?_ ?_
      · skip
        exact fq_some
      · skip
        refine fq_ite ?_ ?_
        · skip
          exact fq_some
        · skip
          refine fq_cl (fq_Mo_areaOf) (fun _ _ => ?_)
          refine fq_ite ?_ ?_
          · skip
            refine fq_ite ?_ ?_
            · skip
              exact fq_some
            · skip
              exact fq_some
          · skip
            exact fq_some
theorem fq_Mo_slabs_120 {P : Nat → Nat → Prop} {a : Nat} {kb36 : Int32 → Mu → Option (Int32 × Mu)} {kb50 : Int32 → Mu → Option (Int32 × Mu)} {v1 : Int32} {v2 : Int32} {v3 : Int32} {μ : Mu}  (h_kb36 : ∀ (w0 : Int32) (μ : Mu), Fq P μ (kb36 w0 μ)) (h_kb50 : ∀ (w0 : Int32) (μ : Mu), Fq P μ (kb50 w0 μ)) : Fq P μ (Mo_slabs_120 a kb36 kb50 v1 v2 v3 μ) := by
  unfold Mo_slabs_120
  exact h_kb50 _ _
theorem fq_Mo_slabs_50b {P : Nat → Nat → Prop} {a : Nat} {kb36 : Int32 → Mu → Option (Int32 × Mu)} {kb50 : Int32 → Mu → Option (Int32 × Mu)} {v1 : Int32} {v2 : Int32} {v3 : Int32} {μ : Mu} (h0 : ∀ j, P (a + 25) j) (h_kb36 : ∀ (w0 : Int32) (μ : Mu), Fq P μ (kb36 w0 μ)) (h_kb50 : ∀ (w0 : Int32) (μ : Mu), Fq P μ (kb50 w0 μ)) : Fq P μ (Mo_slabs_50b a kb36 kb50 v1 v2 v3 μ) := by
  unfold Mo_slabs_50b
  refine fq_ite ?_ ?_
  · skip
    exact h_kb36 _ _
  · skip
    refine fq_ldA (fun _ => ?_)
    refine fq_ldA (fun _ => ?_)
    refine fq_ldA (fun _ => ?_)
    refine fq_cl (fq_Mo_added) (fun _ _ => ?_)
    refine fq_cl (fq_Mo_added) (fun _ _ => ?_)
    refine fq_stA h0 (fun _ => ?_)
    refine fq_ite ?_ ?_
    · skip
      refine fq_ldA (fun _ => ?_)
      refine fq_ldA (fun _ => ?_)
      refine fq_cl (fq_Mo_added) (fun _ _ => ?_)
      refine fq_stA h0 (fun _ => ?_)
      exact fq_Mo_slabs_120  h_kb36 h_kb50
    · skip
      exact fq_Mo_slabs_120  h_kb36 h_kb50
theorem fq_Mo_slabs_50 {P : Nat → Nat → Prop} {a : Nat} {kb36 : Int32 → Mu → Option (Int32 × Mu)} {v1 : Int32} {v2 : Int32} (h0 : ∀ j, P (a + 25) j) (h_kb36 : ∀ (w0 : Int32) (μ : Mu), Fq P μ (kb36 w0 μ)) : ∀ (fu : Nat) (w0 : Int32) (μ : Mu), Fq P μ (Mo_slabs_50 a kb36 v1 v2 fu w0 μ) := by
  intro fu
  induction fu with
  | zero => intros; exact fq_none
  | succ fu ih => intros; exact fq_Mo_slabs_50b (a := a) (kb36 := kb36) (v1 := v1) (v2 := v2) h0 h_kb36 ih
theorem fq_Mo_slabs_36b {P : Nat → Nat → Prop} {a : Nat} {kb36 : Int32 → Mu → Option (Int32 × Mu)} {v1 : Int32} {v2 : Int32} {μ : Mu} (h0 : ∀ j, P (a + 25) j) (h_kb36 : ∀ (w0 : Int32) (μ : Mu), Fq P μ (kb36 w0 μ)) : Fq P μ (Mo_slabs_36b a kb36 v1 v2 μ) := by
  unfold Mo_slabs_36b
  refine fq_ite ?_ ?_
  · skip
    refine fq_ldA (fun _ => ?_)
    exact fq_some
  · skip
    refine fq_stA h0 (fun _ => ?_)
    exact fq_Mo_slabs_50 h0 h_kb36 _ _ _
theorem fq_Mo_slabs_36 {P : Nat → Nat → Prop} {a : Nat} {v1 : Int32} (h0 : ∀ j, P (a + 25) j)  : ∀ (fu : Nat) (w0 : Int32) (μ : Mu), Fq P μ (Mo_slabs_36 a v1 fu w0 μ) := by
  intro fu
  induction fu with
  | zero => intros; exact fq_none
  | succ fu ih => intros; exact fq_Mo_slabs_36b (a := a) (v1 := v1) h0  ih
theorem fq_Mo_slabs {P : Nat → Nat → Prop} {a : Nat} {v1 : Int32} {μ : Mu} (h0 : P (a) 0) (h1 : ∀ j, P (a + 25) j)  : Fq P μ (Mo_slabs a v1 μ) := by
  unfold Mo_slabs
  refine fq_pF h0 (fun _ => ?_)
  refine fq_cl (fq_Mo_isIn) (fun _ _ => ?_)
  refine fq_ite ?_ ?_
  · skip
    exact fq_some
  · skip
    refine fq_ite ?_ ?_
    · skip
      exact fq_some
    · skip
      refine fq_stA h1 (fun _ => ?_)
      exact fq_Mo_slabs_36 h1 _ _ _
theorem fq_Mo_stage_32b {P : Nat → Nat → Prop} {a : Nat} {kb32 : Int32 → Mu → Option (Int32 × Mu)} {v1 : Int32} {v2 : Int32} {μ : Mu} (h0 : ∀ j, P (a + 32) j) (h1 : P (a) 55) (h_kb32 : ∀ (w0 : Int32) (μ : Mu), Fq P μ (kb32 w0 μ)) : Fq P μ (Mo_stage_32b a kb32 v1 v2 μ) := by
  unfold Mo_stage_32b
  refine fq_gF (fun _ => ?_)
  refine fq_ite ?_ ?_
  · skip
    refine fq_gF (fun _ => ?_)
    refine fq_ite ?_ ?_
    · skip
      exact fq_some
    · skip
      refine fq_gF (fun _ => ?_)
      refine fq_stA h0 (fun _ => ?_)
      refine fq_gF (fun _ => ?_)
      refine fq_pF h1 (fun _ => ?_)
      refine fq_gF (fun _ => ?_)
      exact fq_some
  · skip
    refine fq_ldA (fun _ => ?_)
    refine fq_ite ?_ ?_
    · skip
      refine fq_gF (fun _ => ?_)
      exact fq_some
    · skip
      exact h_kb32 _ _
theorem fq_Mo_stage_32 {P : Nat → Nat → Prop} {a : Nat} {v1 : Int32} (h0 : ∀ j, P (a + 32) j) (h1 : P (a) 55)  : ∀ (fu : Nat) (w0 : Int32) (μ : Mu), Fq P μ (Mo_stage_32 a v1 fu w0 μ) := by
  intro fu
  induction fu with
  | zero => intros; exact fq_none
  | succ fu ih => intros; exact fq_Mo_stage_32b (a := a) (v1 := v1) h0 h1  ih
theorem fq_Mo_stage {P : Nat → Nat → Prop} {a : Nat} {v1 : Int32} {μ : Mu} (h0 : P (a) 0) (h1 : P (a) 55) (h2 : ∀ j, P (a + 32) j)  : Fq P μ (Mo_stage a v1 μ) := by
  unfold Mo_stage
  refine fq_pF h0 (fun _ => ?_)
  refine fq_ite ?_ ?_
  · skip
    refine fq_pF h1 (fun _ => ?_)
    exact fq_some
  · skip
    refine fq_cl (fq_Mo_isIn) (fun _ _ => ?_)
    refine fq_ite ?_ ?_
    · skip
      exact fq_some
    · skip
      exact fq_Mo_stage_32 h2 h1 _ _ _
theorem fq_Mo_state {P : Nat → Nat → Prop} {a : Nat} {v1 : Int32} {μ : Mu} (h0 : P (a) 0) (h1 : ∀ j, P (a + 1) j) (h2 : P (a) 3)  : Fq P μ (Mo_state a v1 μ) := by
  unfold Mo_state
  refine fq_pF h0 (fun _ => ?_)
  refine fq_ldA (fun _ => ?_)
  refine fq_stA h1 (fun _ => ?_)
  refine fq_pF h2 (fun _ => ?_)
  exact fq_some
theorem fq_Mo_switches_41b {P : Nat → Nat → Prop} {a : Nat} {kb41 : Int32 → Mu → Option (Int32 × Mu)} {v1 : Int32} {v3 : Int32} {μ : Mu}  (h_kb41 : ∀ (w0 : Int32) (μ : Mu), Fq P μ (kb41 w0 μ)) : Fq P μ (Mo_switches_41b a kb41 v1 v3 μ) := by
  unfold Mo_switches_41b
  refine fq_ite ?_ ?_
  · skip
    exact fq_some
  · skip
    exact h_kb41 _ _
theorem fq_Mo_switches_41 {P : Nat → Nat → Prop} {a : Nat} {v1 : Int32}   : ∀ (fu : Nat) (w0 : Int32) (μ : Mu), Fq P μ (Mo_switches_41 a v1 fu w0 μ) := by
  intro fu
  induction fu with
  | zero => intros; exact fq_none
  | succ fu ih => intros; exact fq_Mo_switches_41b (a := a) (v1 := v1)   ih
theorem fq_Mo_switches {P : Nat → Nat → Prop} {a : Nat} {v1 : Int32} {v2 : Int32} {μ : Mu} (h0 : P (a) 0)  : Fq P μ (Mo_switches a v1 v2 μ) := by
  unfold Mo_switches
  refine fq_pF h0 (fun _ => ?_)
  refine fq_cl (fq_Mo_isIn) (fun _ _ => ?_)
  refine fq_ite ?_ ?_
  · skip
    exact fq_some
  · skip
    refine fq_cl (fq_Mo_isIn) (fun _ _ => ?_)
    refine fq_ite ?_ ?_
    · skip
      exact fq_some
    · skip
      refine fq_ite ?_ ?_
      · skip
        exact fq_some
      · skip
        exact fq_Mo_switches_41 _ _ _
theorem fq_Mo_takesLaw_107b {P : Nat → Nat → Prop} {a : Nat} {kb107 : Int32 → Mu → Option (Unit × Mu)} {v1 : Int32} {v2 : Int32} {μ : Mu} (h0 : ∀ j, P (a + 7) j) (h1 : ∀ j, P (a + 12) j) (h2 : ∀ j, P (a + 13) j) (h_kb107 : ∀ (w0 : Int32) (μ : Mu), Fq P μ (kb107 w0 μ)) : Fq P μ (Mo_takesLaw_107b a kb107 v1 v2 μ) := by
  unfold Mo_takesLaw_107b
  refine fq_gF (fun _ => ?_)
  refine fq_ite ?_ ?_
  · skip
    refine fq_gF (fun _ => ?_)
    refine fq_stA h0 (fun _ => ?_)
    exact fq_some
  · skip
    refine fq_gF (fun _ => ?_)
    refine fq_ldA (fun _ => ?_)
    refine fq_stA h1 (fun _ => ?_)
    refine fq_gF (fun _ => ?_)
    refine fq_ldA (fun _ => ?_)
    refine fq_stA h2 (fun _ => ?_)
    exact h_kb107 _ _
theorem fq_Mo_takesLaw_107 {P : Nat → Nat → Prop} {a : Nat} {v1 : Int32} (h0 : ∀ j, P (a + 7) j) (h1 : ∀ j, P (a + 12) j) (h2 : ∀ j, P (a + 13) j)  : ∀ (fu : Nat) (w0 : Int32) (μ : Mu), Fq P μ (Mo_takesLaw_107 a v1 fu w0 μ) := by
  intro fu
  induction fu with
  | zero => intros; exact fq_none
  | succ fu ih => intros; exact fq_Mo_takesLaw_107b (a := a) (v1 := v1) h0 h1 h2  ih
theorem fq_Mo_takesLaw_2b {P : Nat → Nat → Prop} {a : Nat} {kb2 : Int32 → Mu → Option (Unit × Mu)} {v1 : Int32} {v2 : Int32} {μ : Mu} (h0 : ∀ j, P (a + 7) j) (h1 : ∀ j, P (a + 12) j) (h2 : ∀ j, P (a + 13) j) (h3 : ∀ j, P (a + 8) j) (h4 : ∀ j, P (a + 9) j) (h5 : ∀ j, P (a + 10) j) (h6 : ∀ j, P (a + 11) j) (h_kb2 : ∀ (w0 : Int32) (μ : Mu), Fq P μ (kb2 w0 μ)) : Fq P μ (Mo_takesLaw_2b a kb2 v1 v2 μ) := by
  unfold Mo_takesLaw_2b
  refine fq_ite ?_ ?_
  · skip
    exact fq_Mo_takesLaw_107 h0 h1 h2 _ _ _
  · skip
    refine fq_gF (fun _ => ?_)
    refine fq_ldA (fun _ => ?_)
    refine fq_stA h3 (fun _ => ?_)
    refine fq_gF (fun _ => ?_)
    refine fq_ldA (fun _ => ?_)
    refine fq_stA h4 (fun _ => ?_)
    refine fq_gF (fun _ => ?_)
    refine fq_ldA (fun _ => ?_)
    refine fq_stA h5 (fun _ => ?_)
    refine fq_gF (fun _ => ?_)
    refine fq_ldA (fun _ => ?_)
    refine fq_stA h6 (fun _ => ?_)
    exact h_kb2 _ _
theorem fq_Mo_takesLaw_2 {P : Nat → Nat → Prop} {a : Nat} {v1 : Int32} (h0 : ∀ j, P (a + 7) j) (h1 : ∀ j, P (a + 12) j) (h2 : ∀ j, P (a + 13) j) (h3 : ∀ j, P (a + 8) j) (h4 : ∀ j, P (a + 9) j) (h5 : ∀ j, P (a + 10) j) (h6 : ∀ j, P (a + 11) j)  : ∀ (fu : Nat) (w0 : Int32) (μ : Mu), Fq P μ (Mo_takesLaw_2 a v1 fu w0 μ) := by
  intro fu
  induction fu with
  | zero => intros; exact fq_none
  | succ fu ih => intros; exact fq_Mo_takesLaw_2b (a := a) (v1 := v1) h0 h1 h2 h3 h4 h5 h6  ih
theorem fq_Mo_takesLaw {P : Nat → Nat → Prop} {a : Nat} {v1 : Int32} {μ : Mu} (h0 : ∀ j, P (a + 7) j) (h1 : ∀ j, P (a + 12) j) (h2 : ∀ j, P (a + 13) j) (h3 : ∀ j, P (a + 8) j) (h4 : ∀ j, P (a + 9) j) (h5 : ∀ j, P (a + 10) j) (h6 : ∀ j, P (a + 11) j)  : Fq P μ (Mo_takesLaw a v1 μ) := by
  unfold Mo_takesLaw
  exact fq_Mo_takesLaw_2 h0 h1 h2 h3 h4 h5 h6 _ _ _
theorem fq_Mo_takesTable_97 {P : Nat → Nat → Prop} {a : Nat} {kb28 : Int32 → Mu → Option (Unit × Mu)} {v1 : Int32} {v2 : Int32} {μ : Mu}  (h_kb28 : ∀ (w0 : Int32) (μ : Mu), Fq P μ (kb28 w0 μ)) : Fq P μ (Mo_takesTable_97 a kb28 v1 v2 μ) := by
  unfold Mo_takesTable_97
  exact h_kb28 _ _
theorem fq_Mo_takesTable_75 {P : Nat → Nat → Prop} {a : Nat} {kb28 : Int32 → Mu → Option (Unit × Mu)} {v1 : Int32} {v2 : Int32} {μ : Mu} (h0 : ∀ j, P (a + 1) j) (h_kb28 : ∀ (w0 : Int32) (μ : Mu), Fq P μ (kb28 w0 μ)) : Fq P μ (Mo_takesTable_75 a kb28 v1 v2 μ) := by
  unfold Mo_takesTable_75
  refine fq_ldA (fun _ => ?_)
  refine fq_ldA (fun _ => ?_)
  refine fq_stA h0 (fun _ => ?_)
  exact fq_Mo_takesTable_97  h_kb28
theorem fq_Mo_takesTable_28b {P : Nat → Nat → Prop} {a : Nat} {kb28 : Int32 → Mu → Option (Unit × Mu)} {v1 : Int32} {v2 : Int32} {μ : Mu} (h0 : P (a) 31) (h1 : ∀ j, P (a + 1) j) (h_kb28 : ∀ (w0 : Int32) (μ : Mu), Fq P μ (kb28 w0 μ)) : Fq P μ (Mo_takesTable_28b a kb28 v1 v2 μ) := by
  unfold Mo_takesTable_28b
  refine fq_ite ?_ ?_
  · skip
    refine fq_pF h0 (fun _ => ?_)
    exact fq_some
  · skip
    refine fq_ldA (fun _ => ?_)
    refine fq_cl (fq_Mo_isAlive) (fun _ _ => ?_)
    refine fq_ite ?_ ?_
    · skip
      exact fq_Mo_takesTable_97  h_kb28
    · skip
      refine fq_ldA (fun _ => ?_)
      refine fq_cl (fq_Mo_whoHas) (fun _ _ => ?_)
      refine fq_ite ?_ ?_
      · skip
        exact fq_Mo_takesTable_75 h1 h_kb28
      · skip
        refine fq_stA h1 (fun _ => ?_)
        exact fq_Mo_takesTable_75 h1 h_kb28
theorem fq_Mo_takesTable_28 {P : Nat → Nat → Prop} {a : Nat} {v1 : Int32} (h0 : P (a) 31) (h1 : ∀ j, P (a + 1) j)  : ∀ (fu : Nat) (w0 : Int32) (μ : Mu), Fq P μ (Mo_takesTable_28 a v1 fu w0 μ) := by
  intro fu
  induction fu with
  | zero => intros; exact fq_none
  | succ fu ih => intros; exact fq_Mo_takesTable_28b (a := a) (v1 := v1) h0 h1  ih
theorem fq_Mo_takesTable_2b {P : Nat → Nat → Prop} {a : Nat} {kb2 : Int32 → Mu → Option (Unit × Mu)} {v1 : Int32} {v2 : Int32} {μ : Mu} (h0 : P (a) 31) (h1 : ∀ j, P (a + 1) j) (h_kb2 : ∀ (w0 : Int32) (μ : Mu), Fq P μ (kb2 w0 μ)) : Fq P μ (Mo_takesTable_2b a kb2 v1 v2 μ) := by
  unfold Mo_takesTable_2b
  refine fq_gF (fun _ => ?_)
  refine fq_ite ?_ ?_
  · skip
    exact fq_Mo_takesTable_28 h0 h1 _ _ _
  · skip
    refine fq_stA h1 (fun _ => ?_)
    exact h_kb2 _ _
theorem fq_Mo_takesTable_2 {P : Nat → Nat → Prop} {a : Nat} {v1 : Int32} (h0 : P (a) 31) (h1 : ∀ j, P (a + 1) j)  : ∀ (fu : Nat) (w0 : Int32) (μ : Mu), Fq P μ (Mo_takesTable_2 a v1 fu w0 μ) := by
  intro fu
  induction fu with
  | zero => intros; exact fq_none
  | succ fu ih => intros; exact fq_Mo_takesTable_2b (a := a) (v1 := v1) h0 h1  ih
theorem fq_Mo_takesTable {P : Nat → Nat → Prop} {a : Nat} {v1 : Int32} {μ : Mu} (h0 : P (a) 31) (h1 : ∀ j, P (a + 1) j)  : Fq P μ (Mo_takesTable a v1 μ) := by
  unfold Mo_takesTable
  exact fq_Mo_takesTable_2 h0 h1 _ _ _
theorem fq_Mo_takesOther_88 {P : Nat → Nat → Prop} {a : Nat} {μ : Mu} (h0 : P (a) 3)  : Fq P μ (Mo_takesOther_88 a μ) := by
  unfold Mo_takesOther_88
  refine fq_pF h0 (fun _ => ?_)
  exact fq_some
theorem fq_Mo_takesOther_55b {P : Nat → Nat → Prop} {a : Nat} {kb55 : Int32 → Mu → Option (Unit × Mu)} {v2 : Int32} {v3 : Int32} {μ : Mu} (h0 : P (a) 34) (h1 : P (a) 3) (h2 : ∀ j, P (a + 17) j) (h_kb55 : ∀ (w0 : Int32) (μ : Mu), Fq P μ (kb55 w0 μ)) : Fq P μ (Mo_takesOther_55b a kb55 v2 v3 μ) := by
  unfold Mo_takesOther_55b
  refine fq_ite ?_ ?_
  · skip
    refine fq_pF h0 (fun _ => ?_)
    exact fq_Mo_takesOther_88 h1
  · skip
    refine fq_ldA (fun _ => ?_)
    refine fq_stA h2 (fun _ => ?_)
    exact h_kb55 _ _
theorem fq_Mo_takesOther_55 {P : Nat → Nat → Prop} {a : Nat} {v2 : Int32} (h0 : P (a) 34) (h1 : P (a) 3) (h2 : ∀ j, P (a + 17) j)  : ∀ (fu : Nat) (w0 : Int32) (μ : Mu), Fq P μ (Mo_takesOther_55 a v2 fu w0 μ) := by
  intro fu
  induction fu with
  | zero => intros; exact fq_none
  | succ fu ih => intros; exact fq_Mo_takesOther_55b (a := a) (v2 := v2) h0 h1 h2  ih
theorem fq_Mo_takesOther_7b {P : Nat → Nat → Prop} {a : Nat} {kb7 : Int32 → Mu → Option (Unit × Mu)} {v2 : Int32} {v3 : Int32} {μ : Mu} (h0 : P (a) 36) (h1 : ∀ j, P (a + 18) j) (h_kb7 : ∀ (w0 : Int32) (μ : Mu), Fq P μ (kb7 w0 μ)) : Fq P μ (Mo_takesOther_7b a kb7 v2 v3 μ) := by
  unfold Mo_takesOther_7b
  refine fq_ite ?_ ?_
  · skip
    refine fq_pF h0 (fun _ => ?_)
    exact fq_some
  · skip
    refine fq_ldA (fun _ => ?_)
    refine fq_stA h1 (fun _ => ?_)
    exact h_kb7 _ _
theorem fq_Mo_takesOther_7 {P : Nat → Nat → Prop} {a : Nat} {v2 : Int32} (h0 : P (a) 36) (h1 : ∀ j, P (a + 18) j)  : ∀ (fu : Nat) (w0 : Int32) (μ : Mu), Fq P μ (Mo_takesOther_7 a v2 fu w0 μ) := by
  intro fu
  induction fu with
  | zero => intros; exact fq_none
  | succ fu ih => intros; exact fq_Mo_takesOther_7b (a := a) (v2 := v2) h0 h1  ih
theorem fq_Mo_takesOther {P : Nat → Nat → Prop} {a : Nat} {v1 : Int32} {v2 : Int32} {μ : Mu} (h0 : P (a) 36) (h1 : ∀ j, P (a + 18) j) (h2 : P (a) 31) (h3 : ∀ j, P (a + 1) j) (h4 : P (a) 3) (h5 : P (a) 34) (h6 : ∀ j, P (a + 17) j)  : Fq P μ (Mo_takesOther a v1 v2 μ) := by
  unfold Mo_takesOther
  refine fq_ite ?_ ?_
  · skip
    exact fq_Mo_takesOther_7 h0 h1 _ _ _
  · skip
    refine fq_ite ?_ ?_
    · skip
      refine fq_cl (fq_Mo_takesTable h2 h3) (fun _ _ => ?_)
      exact fq_Mo_takesOther_88 h4
    · skip
      exact fq_Mo_takesOther_55 h5 h4 h6 _ _ _
theorem fq_Mo_tellsOf_76 {P : Nat → Nat → Prop} {a : Nat} {kb4 : Int32 → Int32 → Mu → Option (Int32 × Mu)} {v1 : Int32} {v2 : Int32} {v3 : Int32} {μ : Mu}  (h_kb4 : ∀ (w0 : Int32) (w1 : Int32) (μ : Mu), Fq P μ (kb4 w0 w1 μ)) : Fq P μ (Mo_tellsOf_76 a kb4 v1 v2 v3 μ) := by
  unfold Mo_tellsOf_76
  exact h_kb4 _ _ _
theorem fq_Mo_tellsOf_51 {P : Nat → Nat → Prop} {a : Nat} {kb4 : Int32 → Int32 → Mu → Option (Int32 × Mu)} {v1 : Int32} {v2 : Int32} {v3 : Int32} {μ : Mu} (h0 : ∀ j, P (a + 31) j) (h_kb4 : ∀ (w0 : Int32) (w1 : Int32) (μ : Mu), Fq P μ (kb4 w0 w1 μ)) : Fq P μ (Mo_tellsOf_51 a kb4 v1 v2 v3 μ) := by
  unfold Mo_tellsOf_51
  refine fq_stA h0 (fun _ => ?_)
  refine fq_ldA (fun _ => ?_)
  refine fq_stA h0 (fun _ => ?_)
  exact fq_Mo_tellsOf_76  h_kb4
theorem fq_Mo_tellsOf_4b {P : Nat → Nat → Prop} {a : Nat} {kb4 : Int32 → Int32 → Mu → Option (Int32 × Mu)} {v1 : Int32} {v2 : Int32} {v3 : Int32} {μ : Mu} (h0 : ∀ j, P (a + 31) j) (h_kb4 : ∀ (w0 : Int32) (w1 : Int32) (μ : Mu), Fq P μ (kb4 w0 w1 μ)) : Fq P μ (Mo_tellsOf_4b a kb4 v1 v2 v3 μ) := by
  unfold Mo_tellsOf_4b
  refine fq_ite ?_ ?_
  · skip
    exact fq_some
  · skip
    refine fq_ite ?_ ?_
    · skip
      exact fq_Mo_tellsOf_51 h0 h_kb4
    · skip
      refine fq_ldA (fun _ => ?_)
      refine fq_ldA (fun _ => ?_)
      refine fq_ite ?_ ?_
      · skip
        refine fq_ldA (fun _ => ?_)
        refine fq_stA h0 (fun _ => ?_)
        exact fq_Mo_tellsOf_76  h_kb4
      · skip
        exact fq_Mo_tellsOf_51 h0 h_kb4
theorem fq_Mo_tellsOf_4 {P : Nat → Nat → Prop} {a : Nat} {v1 : Int32} (h0 : ∀ j, P (a + 31) j)  : ∀ (fu : Nat) (w0 : Int32) (w1 : Int32) (μ : Mu), Fq P μ (Mo_tellsOf_4 a v1 fu w0 w1 μ) := by
  intro fu
  induction fu with
  | zero => intros; exact fq_none
  | succ fu ih => intros; exact fq_Mo_tellsOf_4b (a := a) (v1 := v1) h0  ih
theorem fq_Mo_tellsOf {P : Nat → Nat → Prop} {a : Nat} {v1 : Int32} {μ : Mu} (h0 : ∀ j, P (a + 31) j)  : Fq P μ (Mo_tellsOf a v1 μ) := by
  unfold Mo_tellsOf
  exact fq_Mo_tellsOf_4 h0 _ _ _ _
theorem fq_Mo_tellsOne_25b {P : Nat → Nat → Prop} {a : Nat} {kb11 : Int32 → Int32 → Mu → Option (Int32 × Mu)} {kb25 : Int32 → Mu → Option (Int32 × Mu)} {v1 : Int32} {v2 : Int32} {v3 : Int32} {v4 : Int32} {μ : Mu} (h0 : ∀ j, P (a + 30) j) (h_kb11 : ∀ (w0 : Int32) (w1 : Int32) (μ : Mu), Fq P μ (kb11 w0 w1 μ)) (h_kb25 : ∀ (w0 : Int32) (μ : Mu), Fq P μ (kb25 w0 μ)) : Fq P μ (Mo_tellsOne_25b a kb11 kb25 v1 v2 v3 v4 μ) := by
  unfold Mo_tellsOne_25b
  refine fq_ite ?_ ?_
  · skip
    exact h_kb11 _ _ _
  · skip
    refine fq_ldA (fun _ => ?_)
    refine fq_stA h0 (fun _ => ?_)
    exact h_kb25 _ _
theorem fq_Mo_tellsOne_25 {P : Nat → Nat → Prop} {a : Nat} {kb11 : Int32 → Int32 → Mu → Option (Int32 × Mu)} {v1 : Int32} {v2 : Int32} {v3 : Int32} (h0 : ∀ j, P (a + 30) j) (h_kb11 : ∀ (w0 : Int32) (w1 : Int32) (μ : Mu), Fq P μ (kb11 w0 w1 μ)) : ∀ (fu : Nat) (w0 : Int32) (μ : Mu), Fq P μ (Mo_tellsOne_25 a kb11 v1 v2 v3 fu w0 μ) := by
  intro fu
  induction fu with
  | zero => intros; exact fq_none
  | succ fu ih => intros; exact fq_Mo_tellsOne_25b (a := a) (kb11 := kb11) (v1 := v1) (v2 := v2) (v3 := v3) h0 h_kb11 ih
theorem fq_Mo_tellsOne_11b {P : Nat → Nat → Prop} {a : Nat} {kb11 : Int32 → Int32 → Mu → Option (Int32 × Mu)} {v1 : Int32} {v2 : Int32} {v3 : Int32} {μ : Mu} (h0 : ∀ j, P (a + 31) j) (h1 : ∀ j, P (a + 30) j) (h_kb11 : ∀ (w0 : Int32) (w1 : Int32) (μ : Mu), Fq P μ (kb11 w0 w1 μ)) : Fq P μ (Mo_tellsOne_11b a kb11 v1 v2 v3 μ) := by
  unfold Mo_tellsOne_11b
  refine fq_ite ?_ ?_
  · skip
    exact fq_some
  · skip
    refine fq_cl (fq_Mo_tellsOf h0) (fun _ _ => ?_)
    exact fq_Mo_tellsOne_25 h1 h_kb11 _ _ _
theorem fq_Mo_tellsOne_11 {P : Nat → Nat → Prop} {a : Nat} {v1 : Int32} (h0 : ∀ j, P (a + 31) j) (h1 : ∀ j, P (a + 30) j)  : ∀ (fu : Nat) (w0 : Int32) (w1 : Int32) (μ : Mu), Fq P μ (Mo_tellsOne_11 a v1 fu w0 w1 μ) := by
  intro fu
  induction fu with
  | zero => intros; exact fq_none
  | succ fu ih => intros; exact fq_Mo_tellsOne_11b (a := a) (v1 := v1) h0 h1  ih
theorem fq_Mo_tellsOne {P : Nat → Nat → Prop} {a : Nat} {v1 : Int32} {μ : Mu} (h0 : ∀ j, P (a + 30) j) (h1 : ∀ j, P (a + 31) j)  : Fq P μ (Mo_tellsOne a v1 μ) := by
  unfold Mo_tellsOne
  refine fq_stA h0 (fun _ => ?_)
  exact fq_Mo_tellsOne_11 h1 h0 _ _ _ _
theorem fq_Mo_text_69 {P : Nat → Nat → Prop} {a : Nat} {v1 : Int32} {v2 : Int32} {μ : Mu} (h0 : P (a) 9) (h1 : ∀ j, P (a + 7) j) (h2 : ∀ j, P (a + 12) j) (h3 : ∀ j, P (a + 13) j) (h4 : ∀ j, P (a + 8) j) (h5 : ∀ j, P (a + 9) j) (h6 : ∀ j, P (a + 10) j) (h7 : ∀ j, P (a + 11) j) (h8 : P (a) 36) (h9 : ∀ j, P (a + 18) j) (h10 : P (a) 31) (h11 : ∀ j, P (a + 1) j) (h12 : P (a) 3) (h13 : P (a) 34) (h14 : ∀ j, P (a + 17) j)  : Fq P μ (Mo_text_69 a v1 v2 μ) := by
  unfold Mo_text_69
  refine fq_pF h0 (fun _ => ?_)
  refine fq_ite ?_ ?_
  · skip
    exact fq_some
  · skip
    refine fq_ite ?_ ?_
    · skip
      refine fq_cl (fq_Mo_takesLaw h1 h2 h3 h4 h5 h6 h7) (fun _ _ => ?_)
      exact fq_some
    · skip
      refine fq_cl (fq_Mo_takesOther h8 h9 h10 h11 h12 h13 h14) (fun _ _ => ?_)
      exact fq_some
theorem fq_Mo_text {P : Nat → Nat → Prop} {a : Nat} {v1 : Int32} {μ : Mu} (h0 : P (a) 0) (h1 : P (a) 29) (h2 : P (a) 30) (h3 : P (a) 10) (h4 : P (a) 23) (h5 : P (a) 24) (h6 : P (a) 9) (h7 : ∀ j, P (a + 7) j) (h8 : ∀ j, P (a + 12) j) (h9 : ∀ j, P (a + 13) j) (h10 : ∀ j, P (a + 8) j) (h11 : ∀ j, P (a + 9) j) (h12 : ∀ j, P (a + 10) j) (h13 : ∀ j, P (a + 11) j) (h14 : P (a) 36) (h15 : ∀ j, P (a + 18) j) (h16 : P (a) 31) (h17 : ∀ j, P (a + 1) j) (h18 : P (a) 3) (h19 : P (a) 34) (h20 : ∀ j, P (a + 17) j) (h21 : P (a) 22) (h22 : P (a) 11) (h23 : P (a) 12) (h24 : P (a) 13) (h25 : P (a) 27) (h26 : P (a) 28) (h27 : ∀ j, P (a + 15) j) (h28 : ∀ j, P (a + 16) j) (h29 : P (a) 26) (h30 : ∀ j, P (a + 14) j)  : Fq P μ (Mo_text a v1 μ) := by
  unfold Mo_text
  refine fq_pF h0 (fun _ => ?_)
  refine fq_pF h1 (fun _ => ?_)
  refine fq_pF h2 (fun _ => ?_)
  refine fq_pF h3 (fun _ => ?_)
  refine fq_pF h4 (fun _ => ?_)
  refine fq_pF h5 (fun _ => ?_)
  refine fq_cl (fq_Mo_isIn) (fun _ _ => ?_)
  refine fq_ite ?_ ?_
  · skip
    exact fq_Mo_text_69 h6 h7 h8 h9 h10 h11 h12 h13 h14 h15 h16 h17 h18 h19 h20
  · skip
    refine fq_cl (fq_Mo_readsText h21 h3 h22 h23 h24 h25 h26 h27 h28 h20 h15 h10 h11 h8 h9 h4 h12 h13 h29 h5 h30) (fun _ _ => ?_)
    refine fq_ite ?_ ?_
    · skip
      refine fq_gF (fun _ => ?_)
      refine fq_pF h1 (fun _ => ?_)
      refine fq_gF (fun _ => ?_)
      refine fq_pF h2 (fun _ => ?_)
      exact fq_Mo_text_69 h6 h7 h8 h9 h10 h11 h12 h13 h14 h15 h16 h17 h18 h19 h20
    · skip
      exact fq_Mo_text_69 h6 h7 h8 h9 h10 h11 h12 h13 h14 h15 h16 h17 h18 h19 h20
theorem fq_Mo_told_31b {P : Nat → Nat → Prop} {a : Nat} {kb31 : Int32 → Mu → Option (Int32 × Mu)} {v1 : Int32} {v2 : Int32} {μ : Mu} (h0 : ∀ j, P (a + 31) j) (h1 : ∀ j, P (a + 30) j) (h_kb31 : ∀ (w0 : Int32) (μ : Mu), Fq P μ (kb31 w0 μ)) : Fq P μ (Mo_told_31b a kb31 v1 v2 μ) := by
  unfold Mo_told_31b
  refine fq_ldA (fun _ => ?_)
  refine fq_ite ?_ ?_
  · skip
    refine fq_ldA (fun _ => ?_)
    refine fq_cl (fq_Mo_tellsOf h0) (fun _ _ => ?_)
    refine fq_ite ?_ ?_
    · skip
      exact fq_some
    · skip
      refine fq_cl (fq_Mo_isIn) (fun _ _ => ?_)
      refine fq_ite ?_ ?_
      · skip
        exact fq_some
      · skip
        refine fq_ldA (fun _ => ?_)
        exact fq_some
  · skip
    refine fq_ldA (fun _ => ?_)
    refine fq_stA h1 (fun _ => ?_)
    exact h_kb31 _ _
theorem fq_Mo_told_31 {P : Nat → Nat → Prop} {a : Nat} {v1 : Int32} (h0 : ∀ j, P (a + 31) j) (h1 : ∀ j, P (a + 30) j)  : ∀ (fu : Nat) (w0 : Int32) (μ : Mu), Fq P μ (Mo_told_31 a v1 fu w0 μ) := by
  intro fu
  induction fu with
  | zero => intros; exact fq_none
  | succ fu ih => intros; exact fq_Mo_told_31b (a := a) (v1 := v1) h0 h1  ih
theorem fq_Mo_told {P : Nat → Nat → Prop} {a : Nat} {v1 : Int32} {μ : Mu} (h0 : P (a) 0) (h1 : ∀ j, P (a + 31) j) (h2 : ∀ j, P (a + 30) j)  : Fq P μ (Mo_told a v1 μ) := by
  unfold Mo_told
  refine fq_pF h0 (fun _ => ?_)
  refine fq_cl (fq_Mo_isIn) (fun _ _ => ?_)
  refine fq_ite ?_ ?_
  · skip
    exact fq_Mo_told_31 h1 h2 _ _ _
  · skip
    refine fq_cl (fq_Mo_tellsOne h2 h1) (fun _ _ => ?_)
    exact fq_some
theorem fq_Mo_turnedOf_4b {P : Nat → Nat → Prop} {a : Nat} {kb4 : Int32 → Int32 → Mu → Option (Int32 × Mu)} {v2 : Int32} {v3 : Int32} {μ : Mu}  (h_kb4 : ∀ (w0 : Int32) (w1 : Int32) (μ : Mu), Fq P μ (kb4 w0 w1 μ)) : Fq P μ (Mo_turnedOf_4b a kb4 v2 v3 μ) := by
  unfold Mo_turnedOf_4b
  refine fq_ite ?_ ?_
  · skip
    exact fq_some
  · skip
    exact h_kb4 _ _ _
theorem fq_Mo_turnedOf_4 {P : Nat → Nat → Prop} {a : Nat}   : ∀ (fu : Nat) (w0 : Int32) (w1 : Int32) (μ : Mu), Fq P μ (Mo_turnedOf_4 a fu w0 w1 μ) := by
  intro fu
  induction fu with
  | zero => intros; exact fq_none
  | succ fu ih => intros; exact fq_Mo_turnedOf_4b (a := a)   ih
theorem fq_Mo_turnedOf {P : Nat → Nat → Prop} {a : Nat} {v1 : Int32} {μ : Mu}   : Fq P μ (Mo_turnedOf a v1 μ) := by
  unfold Mo_turnedOf
  exact fq_Mo_turnedOf_4 _ _ _ _
theorem fq_Mo_turned_34b {P : Nat → Nat → Prop} {a : Nat} {kb34 : Int32 → Int32 → Mu → Option (Int32 × Mu)} {v2 : Int32} {v3 : Int32} {v4 : Int32} {μ : Mu}  (h_kb34 : ∀ (w0 : Int32) (w1 : Int32) (μ : Mu), Fq P μ (kb34 w0 w1 μ)) : Fq P μ (Mo_turned_34b a kb34 v2 v3 v4 μ) := by
  unfold Mo_turned_34b
  refine fq_ite ?_ ?_
  · skip
    exact fq_some
  · skip
    refine fq_cl (fq_Mo_turnedOf) (fun _ _ => ?_)
    refine fq_ite ?_ ?_
    · skip
      refine fq_ite ?_ ?_
      · skip
        exact fq_some
      · skip
        exact fq_some
    · skip
      refine fq_cl (fq_Mo_turnedOf) (fun _ _ => ?_)
      refine fq_ite ?_ ?_
      · skip
        refine fq_cl (fq_Mo_turnedOf) (fun _ _ => ?_)
        exact h_kb34 _ _ _
      · skip
        exact fq_some
theorem fq_Mo_turned_34 {P : Nat → Nat → Prop} {a : Nat} {v2 : Int32}   : ∀ (fu : Nat) (w0 : Int32) (w1 : Int32) (μ : Mu), Fq P μ (Mo_turned_34 a v2 fu w0 w1 μ) := by
  intro fu
  induction fu with
  | zero => intros; exact fq_none
  | succ fu ih => intros; exact fq_Mo_turned_34b (a := a) (v2 := v2)   ih
theorem fq_Mo_turned {P : Nat → Nat → Prop} {a : Nat} {v1 : Int32} {v2 : Int32} {μ : Mu} (h0 : P (a) 0)  : Fq P μ (Mo_turned a v1 v2 μ) := by
  unfold Mo_turned
  refine fq_pF h0 (fun _ => ?_)
  refine fq_cl (fq_Mo_isIn) (fun _ _ => ?_)
  refine fq_ite ?_ ?_
  · skip
    exact fq_some
  · skip
    refine fq_cl (fq_Mo_isIn) (fun _ _ => ?_)
    refine fq_ite ?_ ?_
    · skip
      exact fq_some
    · skip
      exact fq_Mo_turned_34 _ _ _ _
theorem fq_Mo_undo_26b {P : Nat → Nat → Prop} {a : Nat} {kb26 : Int32 → Mu → Option (Int32 × Mu)} {v1 : Int32} {μ : Mu} (h0 : ∀ j, P (a + 1) j) (h_kb26 : ∀ (w0 : Int32) (μ : Mu), Fq P μ (kb26 w0 μ)) : Fq P μ (Mo_undo_26b a kb26 v1 μ) := by
  unfold Mo_undo_26b
  refine fq_ite ?_ ?_
  · skip
    exact fq_some
  · skip
    refine fq_gF (fun _ => ?_)
    refine fq_ldA (fun _ => ?_)
    refine fq_stA h0 (fun _ => ?_)
    exact h_kb26 _ _
theorem fq_Mo_undo_26 {P : Nat → Nat → Prop} {a : Nat} (h0 : ∀ j, P (a + 1) j)  : ∀ (fu : Nat) (w0 : Int32) (μ : Mu), Fq P μ (Mo_undo_26 a fu w0 μ) := by
  intro fu
  induction fu with
  | zero => intros; exact fq_none
  | succ fu ih => intros; exact fq_Mo_undo_26b (a := a) h0  ih
theorem fq_Mo_undo {P : Nat → Nat → Prop} {a : Nat} {μ : Mu} (h0 : P (a) 0) (h1 : P (a) 3) (h2 : ∀ j, P (a + 1) j)  : Fq P μ (Mo_undo a μ) := by
  unfold Mo_undo
  refine fq_pF h0 (fun _ => ?_)
  refine fq_gF (fun _ => ?_)
  refine fq_ite ?_ ?_
  · skip
    exact fq_some
  · skip
    refine fq_gF (fun _ => ?_)
    refine fq_pF h1 (fun _ => ?_)
    exact fq_Mo_undo_26 h2 _ _ _
theorem fq_Mo_voyage_177 {P : Nat → Nat → Prop} {a : Nat} {v1 : Int32} {μ : Mu}   : Fq P μ (Mo_voyage_177 a v1 μ) := by
  unfold Mo_voyage_177
  refine fq_ldA (fun _ => ?_)
  exact fq_some
theorem fq_Mo_voyage_144 {P : Nat → Nat → Prop} {a : Nat} {kb31 : Int32 → Mu → Option (Int32 × Mu)} {kb66 : Int32 → Mu → Option (Int32 × Mu)} {v1 : Int32} {v2 : Int32} {v3 : Int32} {v4 : Int32} {μ : Mu}  (h_kb31 : ∀ (w0 : Int32) (μ : Mu), Fq P μ (kb31 w0 μ)) (h_kb66 : ∀ (w0 : Int32) (μ : Mu), Fq P μ (kb66 w0 μ)) : Fq P μ (Mo_voyage_144 a kb31 kb66 v1 v2 v3 v4 μ) := by
  unfold Mo_voyage_144
  exact h_kb66 _ _
theorem fq_Mo_voyage_143 {P : Nat → Nat → Prop} {a : Nat} {kb31 : Int32 → Mu → Option (Int32 × Mu)} {kb66 : Int32 → Mu → Option (Int32 × Mu)} {v1 : Int32} {v2 : Int32} {v3 : Int32} {v4 : Int32} {s0 : Int32} {s1 : Int32} {μ : Mu} (h0 : ∀ j, P (a + 33) j) (h_kb31 : ∀ (w0 : Int32) (μ : Mu), Fq P μ (kb31 w0 μ)) (h_kb66 : ∀ (w0 : Int32) (μ : Mu), Fq P μ (kb66 w0 μ)) : Fq P μ (Mo_voyage_143 a kb31 kb66 v1 v2 v3 v4 s0 s1 μ) := by
  unfold Mo_voyage_143
  refine fq_stA h0 (fun _ => ?_)
  exact fq_Mo_voyage_144  h_kb31 h_kb66
theorem fq_Mo_voyage_66b {P : Nat → Nat → Prop} {a : Nat} {kb31 : Int32 → Mu → Option (Int32 × Mu)} {kb66 : Int32 → Mu → Option (Int32 × Mu)} {v1 : Int32} {v2 : Int32} {v3 : Int32} {v4 : Int32} {μ : Mu} (h0 : ∀ j, P (a + 33) j) (h_kb31 : ∀ (w0 : Int32) (μ : Mu), Fq P μ (kb31 w0 μ)) (h_kb66 : ∀ (w0 : Int32) (μ : Mu), Fq P μ (kb66 w0 μ)) : Fq P μ (Mo_voyage_66b a kb31 kb66 v1 v2 v3 v4 μ) := by
  unfold Mo_voyage_66b
  refine fq_gF (fun _ => ?_)
  refine fq_ite ?_ ?_
  · skip
    exact h_kb31 _ _
  · skip
    refine fq_ldA (fun _ => ?_)
    refine fq_ite ?_ ?_
    · skip
      refine fq_ldA (fun _ => ?_)
      refine fq_ldA (fun _ => ?_)
      refine fq_ite ?_ ?_
      · skip
        refine fq_ldA (fun _ => ?_)
        refine fq_cl (fq_Mo_added) (fun _ _ => ?_)
        exact fq_Mo_voyage_143 h0 h_kb31 h_kb66
      · skip
        refine fq_ldA (fun _ => ?_)
        refine fq_cl (fq_Mo_lesser) (fun _ _ => ?_)
        exact fq_Mo_voyage_143 h0 h_kb31 h_kb66
    · skip
      exact fq_Mo_voyage_144  h_kb31 h_kb66
theorem fq_Mo_voyage_66 {P : Nat → Nat → Prop} {a : Nat} {kb31 : Int32 → Mu → Option (Int32 × Mu)} {v1 : Int32} {v2 : Int32} {v3 : Int32} (h0 : ∀ j, P (a + 33) j) (h_kb31 : ∀ (w0 : Int32) (μ : Mu), Fq P μ (kb31 w0 μ)) : ∀ (fu : Nat) (w0 : Int32) (μ : Mu), Fq P μ (Mo_voyage_66 a kb31 v1 v2 v3 fu w0 μ) := by
  intro fu
  induction fu with
  | zero => intros; exact fq_none
  | succ fu ih => intros; exact fq_Mo_voyage_66b (a := a) (kb31 := kb31) (v1 := v1) (v2 := v2) (v3 := v3) h0 h_kb31 ih
theorem fq_Mo_voyage_62 {P : Nat → Nat → Prop} {a : Nat} {kb31 : Int32 → Mu → Option (Int32 × Mu)} {v1 : Int32} {v2 : Int32} {v3 : Int32} {s0 : Int32} {s1 : Int32} {μ : Mu} (h0 : ∀ j, P (a + 33) j) (h_kb31 : ∀ (w0 : Int32) (μ : Mu), Fq P μ (kb31 w0 μ)) : Fq P μ (Mo_voyage_62 a kb31 v1 v2 v3 s0 s1 μ) := by
  unfold Mo_voyage_62
  refine fq_stA h0 (fun _ => ?_)
  exact fq_Mo_voyage_66 h0 h_kb31 _ _ _
theorem fq_Mo_voyage_31b {P : Nat → Nat → Prop} {a : Nat} {kb31 : Int32 → Mu → Option (Int32 × Mu)} {v1 : Int32} {v2 : Int32} {v3 : Int32} {μ : Mu} (h0 : ∀ j, P (a + 33) j) (h_kb31 : ∀ (w0 : Int32) (μ : Mu), Fq P μ (kb31 w0 μ)) : Fq P μ (Mo_voyage_31b a kb31 v1 v2 v3 μ) := by
  unfold Mo_voyage_31b
  refine fq_ite ?_ ?_
  · skip
    refine fq_ite ?_ ?_
    · skip
      refine fq_ldA (fun _ => ?_)
      refine fq_ite ?_ ?_
      · skip
        exact fq_Mo_voyage_177
      · skip
        exact fq_some
    · skip
      exact fq_Mo_voyage_177
  · skip
    refine fq_ite ?_ ?_
    · skip
      exact fq_Mo_voyage_62 h0 h_kb31
    · skip
      refine fq_ite ?_ ?_
      · skip
        exact fq_Mo_voyage_62 h0 h_kb31
      · skip
        exact fq_Mo_voyage_62 h0 h_kb31
theorem fq_Mo_voyage_31 {P : Nat → Nat → Prop} {a : Nat} {v1 : Int32} {v2 : Int32} (h0 : ∀ j, P (a + 33) j)  : ∀ (fu : Nat) (w0 : Int32) (μ : Mu), Fq P μ (Mo_voyage_31 a v1 v2 fu w0 μ) := by
  intro fu
  induction fu with
  | zero => intros; exact fq_none
  | succ fu ih => intros; exact fq_Mo_voyage_31b (a := a) (v1 := v1) (v2 := v2) h0  ih
theorem fq_Mo_voyage {P : Nat → Nat → Prop} {a : Nat} {v1 : Int32} {v2 : Int32} {μ : Mu} (h0 : P (a) 0) (h1 : ∀ j, P (a + 33) j)  : Fq P μ (Mo_voyage a v1 v2 μ) := by
  unfold Mo_voyage
  refine fq_pF h0 (fun _ => ?_)
  refine fq_cl (fq_Mo_isIn) (fun _ _ => ?_)
  refine fq_ite ?_ ?_
  · skip
    exact fq_some
  · skip
    refine fq_cl (fq_Mo_isIn) (fun _ _ => ?_)
    refine fq_ite ?_ ?_
    · skip
      exact fq_some
    · skip
      exact fq_Mo_voyage_31 h1 _ _ _
theorem fq_Mo_waysOfScales_93 {P : Nat → Nat → Prop} {a : Nat} {kb27 : Int32 → Int32 → Mu → Option (Int32 × Mu)} {v1 : Int32} {v2 : Int32} {v3 : Int32} {v4 : Int32} {μ : Mu}  (h_kb27 : ∀ (w0 : Int32) (w1 : Int32) (μ : Mu), Fq P μ (kb27 w0 w1 μ)) : Fq P μ (Mo_waysOfScales_93 a kb27 v1 v2 v3 v4 μ) := by
  unfold Mo_waysOfScales_93
  exact h_kb27 _ _ _
theorem fq_Mo_waysOfScales_43b {P : Nat → Nat → Prop} {a : Nat} {kb27 : Int32 → Int32 → Mu → Option (Int32 × Mu)} {kb43 : Int32 → Int32 → Int32 → Mu → Option (Int32 × Mu)} {v1 : Int32} {v2 : Int32} {v3 : Int32} {v4 : Int32} {v5 : Int32} {v6 : Int32} {v7 : Int32} {μ : Mu}  (h_kb27 : ∀ (w0 : Int32) (w1 : Int32) (μ : Mu), Fq P μ (kb27 w0 w1 μ)) (h_kb43 : ∀ (w0 : Int32) (w1 : Int32) (w2 : Int32) (μ : Mu), Fq P μ (kb43 w0 w1 w2 μ)) : Fq P μ (Mo_waysOfScales_43b a kb27 kb43 v1 v2 v3 v4 v5 v6 v7 μ) := by
  unfold Mo_waysOfScales_43b
  refine fq_gF (fun _ => ?_)
  refine fq_ite ?_ ?_
  · skip
    refine fq_ite ?_ ?_
    · skip
      exact fq_Mo_waysOfScales_93  h_kb27
    · skip
      exact fq_Mo_waysOfScales_93  h_kb27
  · skip
    refine fq_ldA (fun _ => ?_)
    exact h_kb43 _ _ _ _
theorem fq_Mo_waysOfScales_43 {P : Nat → Nat → Prop} {a : Nat} {kb27 : Int32 → Int32 → Mu → Option (Int32 × Mu)} {v1 : Int32} {v2 : Int32} {v3 : Int32} {v4 : Int32}  (h_kb27 : ∀ (w0 : Int32) (w1 : Int32) (μ : Mu), Fq P μ (kb27 w0 w1 μ)) : ∀ (fu : Nat) (w0 : Int32) (w1 : Int32) (w2 : Int32) (μ : Mu), Fq P μ (Mo_waysOfScales_43 a kb27 v1 v2 v3 v4 fu w0 w1 w2 μ) := by
  intro fu
  induction fu with
  | zero => intros; exact fq_none
  | succ fu ih => intros; exact fq_Mo_waysOfScales_43b (a := a) (kb27 := kb27) (v1 := v1) (v2 := v2) (v3 := v3) (v4 := v4)  h_kb27 ih
theorem fq_Mo_waysOfScales_27b {P : Nat → Nat → Prop} {a : Nat} {kb27 : Int32 → Int32 → Mu → Option (Int32 × Mu)} {v1 : Int32} {v2 : Int32} {v3 : Int32} {v4 : Int32} {μ : Mu}  (h_kb27 : ∀ (w0 : Int32) (w1 : Int32) (μ : Mu), Fq P μ (kb27 w0 w1 μ)) : Fq P μ (Mo_waysOfScales_27b a kb27 v1 v2 v3 v4 μ) := by
  unfold Mo_waysOfScales_27b
  refine fq_ite ?_ ?_
  · skip
    exact fq_some
  · skip
    exact fq_Mo_waysOfScales_43  h_kb27 _ _ _ _ _
theorem fq_Mo_waysOfScales_27 {P : Nat → Nat → Prop} {a : Nat} {v1 : Int32} {v2 : Int32}   : ∀ (fu : Nat) (w0 : Int32) (w1 : Int32) (μ : Mu), Fq P μ (Mo_waysOfScales_27 a v1 v2 fu w0 w1 μ) := by
  intro fu
  induction fu with
  | zero => intros; exact fq_none
  | succ fu ih => intros; exact fq_Mo_waysOfScales_27b (a := a) (v1 := v1) (v2 := v2)   ih
theorem fq_Mo_waysOfScales_4b {P : Nat → Nat → Prop} {a : Nat} {kb4 : Int32 → Int32 → Mu → Option (Int32 × Mu)} {v1 : Int32} {v2 : Int32} {v3 : Int32} {μ : Mu}  (h_kb4 : ∀ (w0 : Int32) (w1 : Int32) (μ : Mu), Fq P μ (kb4 w0 w1 μ)) : Fq P μ (Mo_waysOfScales_4b a kb4 v1 v2 v3 μ) := by
  unfold Mo_waysOfScales_4b
  refine fq_gF (fun _ => ?_)
  refine fq_ite ?_ ?_
  · skip
    exact fq_Mo_waysOfScales_27 _ _ _ _
  · skip
    exact h_kb4 _ _ _
theorem fq_Mo_waysOfScales_4 {P : Nat → Nat → Prop} {a : Nat} {v1 : Int32}   : ∀ (fu : Nat) (w0 : Int32) (w1 : Int32) (μ : Mu), Fq P μ (Mo_waysOfScales_4 a v1 fu w0 w1 μ) := by
  intro fu
  induction fu with
  | zero => intros; exact fq_none
  | succ fu ih => intros; exact fq_Mo_waysOfScales_4b (a := a) (v1 := v1)   ih
theorem fq_Mo_waysOfScales {P : Nat → Nat → Prop} {a : Nat} {v1 : Int32} {μ : Mu}   : Fq P μ (Mo_waysOfScales a v1 μ) := by
  unfold Mo_waysOfScales
  exact fq_Mo_waysOfScales_4 _ _ _ _
theorem fq_Mo_week_26 {P : Nat → Nat → Prop} {a : Nat} {μ : Mu}   : Fq P μ (Mo_week_26 a μ) := by
  unfold Mo_week_26
  exact fq_some
theorem fq_Mo_week_102 {P : Nat → Nat → Prop} {a : Nat} {kb72 : Int32 → Int32 → Mu → Option (Int32 × Mu)} {v1 : Int32} {v5 : Int32} {v6 : Int32} {μ : Mu}  (h_kb72 : ∀ (w0 : Int32) (w1 : Int32) (μ : Mu), Fq P μ (kb72 w0 w1 μ)) : Fq P μ (Mo_week_102 a kb72 v1 v5 v6 μ) := by
  unfold Mo_week_102
  exact h_kb72 _ _ _
theorem fq_Mo_week_72b {P : Nat → Nat → Prop} {a : Nat} {kb72 : Int32 → Int32 → Mu → Option (Int32 × Mu)} {v1 : Int32} {v5 : Int32} {v6 : Int32} {μ : Mu}  (h_kb72 : ∀ (w0 : Int32) (w1 : Int32) (μ : Mu), Fq P μ (kb72 w0 w1 μ)) : Fq P μ (Mo_week_72b a kb72 v1 v5 v6 μ) := by
  unfold Mo_week_72b
  refine fq_ite ?_ ?_
  · skip
    exact fq_some
  · skip
    refine fq_cl (fq_Mo_dayNumber) (fun _ _ => ?_)
    refine fq_cl (fq_Mo_dayOfWeek) (fun _ _ => ?_)
    refine fq_ite ?_ ?_
    · skip
      exact fq_Mo_week_102  h_kb72
    · skip
      exact fq_Mo_week_102  h_kb72
theorem fq_Mo_week_72 {P : Nat → Nat → Prop} {a : Nat} {v1 : Int32}   : ∀ (fu : Nat) (w0 : Int32) (w1 : Int32) (μ : Mu), Fq P μ (Mo_week_72 a v1 fu w0 w1 μ) := by
  intro fu
  induction fu with
  | zero => intros; exact fq_none
  | succ fu ih => intros; exact fq_Mo_week_72b (a := a) (v1 := v1)   ih
theorem fq_Mo_week {P : Nat → Nat → Prop} {a : Nat} {v1 : Int32} {v2 : Int32} {v3 : Int32} {v4 : Int32} {μ : Mu} (h0 : P (a) 0)  : Fq P μ (Mo_week a v1 v2 v3 v4 μ) := by
  unfold Mo_week
  refine fq_pF h0 (fun _ => ?_)
  refine fq_cl (fq_Mo_isDate) (fun _ _ => ?_)
  refine fq_ite ?_ ?_
  · skip
    exact fq_Mo_week_26
  · skip
    refine fq_cl (fq_Mo_isIn) (fun _ _ => ?_)
    refine fq_ite ?_ ?_
    · skip
      exact fq_Mo_week_26
    · skip
      refine fq_ite ?_ ?_
      · skip
        refine fq_cl (fq_Mo_dayNumber) (fun _ _ => ?_)
        refine fq_cl (fq_Mo_dayOfWeek) (fun _ _ => ?_)
        exact fq_some
      · skip
        refine fq_ite ?_ ?_
        · skip
          refine fq_cl (fq_Mo_dayNumber) (fun _ _ => ?_)
          refine fq_gF (fun _ => ?_)
          exact fq_some
        · skip
          exact fq_Mo_week_72 _ _ _ _
theorem fq_Mo_weighs_55 {P : Nat → Nat → Prop} {a : Nat} {kb36 : Int32 → Int32 → Mu → Option (Int32 × Mu)} {v2 : Int32} {v3 : Int32} {μ : Mu}  (h_kb36 : ∀ (w0 : Int32) (w1 : Int32) (μ : Mu), Fq P μ (kb36 w0 w1 μ)) : Fq P μ (Mo_weighs_55 a kb36 v2 v3 μ) := by
  unfold Mo_weighs_55
  exact h_kb36 _ _ _
theorem fq_Mo_weighs_36b {P : Nat → Nat → Prop} {a : Nat} {kb36 : Int32 → Int32 → Mu → Option (Int32 × Mu)} {v2 : Int32} {v3 : Int32} {μ : Mu}  (h_kb36 : ∀ (w0 : Int32) (w1 : Int32) (μ : Mu), Fq P μ (kb36 w0 w1 μ)) : Fq P μ (Mo_weighs_36b a kb36 v2 v3 μ) := by
  unfold Mo_weighs_36b
  refine fq_ite ?_ ?_
  · skip
    exact fq_some
  · skip
    refine fq_cl (fq_Mo_waysOfScales) (fun _ _ => ?_)
    refine fq_ite ?_ ?_
    · skip
      exact fq_Mo_weighs_55  h_kb36
    · skip
      exact fq_Mo_weighs_55  h_kb36
theorem fq_Mo_weighs_36 {P : Nat → Nat → Prop} {a : Nat}   : ∀ (fu : Nat) (w0 : Int32) (w1 : Int32) (μ : Mu), Fq P μ (Mo_weighs_36 a fu w0 w1 μ) := by
  intro fu
  induction fu with
  | zero => intros; exact fq_none
  | succ fu ih => intros; exact fq_Mo_weighs_36b (a := a)   ih
theorem fq_Mo_weighs {P : Nat → Nat → Prop} {a : Nat} {v1 : Int32} {μ : Mu} (h0 : P (a) 0)  : Fq P μ (Mo_weighs a v1 μ) := by
  unfold Mo_weighs
  refine fq_pF h0 (fun _ => ?_)
  refine fq_ite ?_ ?_
  · skip
    exact fq_Mo_weighs_36 _ _ _ _
  · skip
    refine fq_cl (fq_Mo_isIn) (fun _ _ => ?_)
    refine fq_ite ?_ ?_
    · skip
      exact fq_some
    · skip
      refine fq_cl (fq_Mo_waysOfScales) (fun _ _ => ?_)
      exact fq_some
theorem fq_Mo_weight {P : Nat → Nat → Prop} {a : Nat} {v1 : Int32} {μ : Mu} (h0 : P (a) 0) (h1 : P (a) 45) (h2 : ∀ j, P (a + 24) j)  : Fq P μ (Mo_weight a v1 μ) := by
  unfold Mo_weight
  refine fq_pF h0 (fun _ => ?_)
  refine fq_ite ?_ ?_
  · skip
    refine fq_pF h1 (fun _ => ?_)
    exact fq_some
  · skip
    refine fq_cl (fq_Mo_isIn) (fun _ _ => ?_)
    refine fq_ite ?_ ?_
    · skip
      exact fq_some
    · skip
      refine fq_gF (fun _ => ?_)
      refine fq_ite ?_ ?_
      · skip
        exact fq_some
      · skip
        refine fq_gF (fun _ => ?_)
        refine fq_stA h2 (fun _ => ?_)
        refine fq_gF (fun _ => ?_)
        refine fq_pF h1 (fun _ => ?_)
        refine fq_gF (fun _ => ?_)
        exact fq_some
