/-! FRAMES: which rows a model may write (by program) -/
def Fr {ρ : Type} (P : Nat → Prop) (μ : Mu) (o : Option (ρ × Mu)) : Prop := ∀ r μ', o = some (r, μ') → ∀ k, ¬ P k → μ' k = μ k
section Fr0
variable {ρ ρ' : Type} {P : Nat → Prop} {μ : Mu}
theorem fr_some {r : ρ} : Fr P μ (some (r, μ)) := fun _ _ h k _ => by cases h; rfl
theorem fr_none : Fr (ρ := ρ) P μ none := fun _ _ h => by cases h
theorem fr_ite {c : Prop} {d : Decidable c} {A B : Option (ρ × Mu)} (h1 : Fr P μ A) (h2 : Fr P μ B) : Fr P μ (@ite _ c d A B) := by
  intro r μ' h
  by_cases hc : c
  · rw [if_pos hc] at h; exact h1 r μ' h
  · rw [if_neg hc] at h; exact h2 r μ' h
theorem fr_gF {a k : Nat} {f : Int32 → Option (ρ × Mu)} (h : ∀ x, Fr P μ (f x)) : Fr P μ (gF μ a k f) := h _
theorem fr_up {a k : Nat} {v : Int32} {o : Option (ρ × Mu)} (ha : P a) (h : Fr P (up2 μ a k v) o) : Fr P μ o := fun r μ' e q hq => (h r μ' e q hq).trans (up2_ne (fun z => hq (z ▸ ha)))
theorem fr_pF {a k : Nat} {v : Int32} {f : Mu → Option (ρ × Mu)} (ha : P a) (h : ∀ μ1, Fr P μ1 (f μ1)) : Fr P μ (pF μ a k v f) := fr_up ha (h _)
theorem fr_ldA {a n : Nat} {i : Int32} {f : Int32 → Option (ρ × Mu)} (h : ∀ x, Fr P μ (f x)) : Fr P μ (ldA μ a n i f) := by
  unfold ldA; split
  · exact h _
  · exact fr_none
theorem fr_stA {a n : Nat} {i v : Int32} {f : Mu → Option (ρ × Mu)} (ha : P a) (h : ∀ μ1, Fr P μ1 (f μ1)) : Fr P μ (stA μ a n i v f) := by
  unfold stA; split
  · exact fr_up ha (h _)
  · exact fr_none
theorem fr_cpA {a0 n0 a1 n1 : Nat} {sp dp n : Int32} {f : Mu → Option (ρ × Mu)} (ha : P a1) (h : ∀ μ1, Fr P μ1 (f μ1)) : Fr P μ (cpA μ a0 n0 sp a1 n1 dp n f) := by
  unfold cpA; split
  · exact fun r μ' e q hq => (h _ r μ' e q hq).trans (by funext j; simp [cp2, show q ≠ a1 from fun z => hq (z ▸ ha)])
  · exact fr_none
theorem fr_ldZ {bs : List Int32} {i : Int32} {f : Int32 → Option (ρ × Mu)} (h : ∀ x, Fr P μ (f x)) : Fr P μ (ldZ bs i f) := by
  unfold ldZ; split
  · exact h _
  · exact fr_none
theorem fr_nz {y : Int32} {o : Option (ρ × Mu)} (h : Fr P μ o) : Fr P μ (nz y o) := by
  unfold nz; split
  · exact fr_none
  · exact h
theorem fr_nzL {y : Int64} {o : Option (ρ × Mu)} (h : Fr P μ o) : Fr P μ (nzL y o) := by
  unfold nzL; split
  · exact fr_none
  · exact h
theorem fr_zg {y : Int32} {o : Option (ρ × Mu)} (h : Fr P μ o) : Fr P μ (zg y o) := by
  unfold zg; split
  · exact h
  · exact fr_none
theorem fr_zgc {y : Int32} {o : Option (ρ × Mu)} (h : Fr P μ o) : Fr P μ (zgc y o) := by
  unfold zgc; split
  · exact h
  · exact fr_none
theorem fr_cl {oc : Option (ρ' × Mu)} {f : ρ' → Mu → Option (ρ × Mu)} (h1 : Fr P μ oc) (h2 : ∀ r μ1, Fr P μ1 (f r μ1)) : Fr P μ (cl oc f) := by
  intro r μ' e
  cases hoc : oc with
  | none => rw [hoc] at e; cases e
  | some q =>
    rw [hoc] at e
    exact fun k hk => (h2 q.1 q.2 r μ' e k hk).trans (h1 q.1 q.2 hoc k hk)
/-- a model that writes nothing -/
theorem fr_ro {r : ρ} {μ' : Mu} {o : Option (ρ × Mu)} (h : Fr (fun _ => False) μ o) (e : o = some (r, μ')) : μ' = μ := funext fun k => h r μ' e k (fun z => z)
end Fr0

theorem fr_Mo_isPerson {P : Nat → Prop} {a : Nat} {v1 : Int32} {μ : Mu}   : Fr P μ (Mo_isPerson a v1 μ) := by
  unfold Mo_isPerson
  refine fr_ite ?_ ?_
  · skip
    exact fr_some
  · skip
    refine fr_gF (fun _ => ?_)
    refine fr_ite ?_ ?_
    · skip
      exact fr_some
    · skip
      exact fr_some
theorem fr_Mo_isAlive {P : Nat → Prop} {a : Nat} {v1 : Int32} {μ : Mu}   : Fr P μ (Mo_isAlive a v1 μ) := by
  unfold Mo_isAlive
  refine fr_ldA (fun _ => ?_)
  refine fr_ite ?_ ?_
  · skip
    exact fr_some
  · skip
    exact fr_some
theorem fr_Mo_seatOf {P : Nat → Prop} {a : Nat} {v1 : Int32} {μ : Mu}   : Fr P μ (Mo_seatOf a v1 μ) := by
  unfold Mo_seatOf
  refine fr_ldA (fun _ => ?_)
  exact fr_some
theorem fr_Mo_isIn {P : Nat → Prop} {a : Nat} {v1 : Int32} {v2 : Int32} {v3 : Int32} {μ : Mu}   : Fr P μ (Mo_isIn a v1 v2 v3 μ) := by
  unfold Mo_isIn
  refine fr_ite ?_ ?_
  · skip
    exact fr_some
  · skip
    refine fr_ite ?_ ?_
    · skip
      exact fr_some
    · skip
      exact fr_some
theorem fr_Mo_whoHas_2b {P : Nat → Prop} {a : Nat} {kb2 : Int32 → Mu → Option (Int32 × Mu)} {v1 : Int32} {v2 : Int32} {μ : Mu}  (h_kb2 : ∀ (w0 : Int32) (μ : Mu), Fr P μ (kb2 w0 μ)) : Fr P μ (Mo_whoHas_2b a kb2 v1 v2 μ) := by
  unfold Mo_whoHas_2b
  refine fr_gF (fun _ => ?_)
  refine fr_ite ?_ ?_
  · skip
    exact fr_some
  · skip
    refine fr_cl (fr_Mo_seatOf) (fun _ _ => ?_)
    refine fr_ite ?_ ?_
    · skip
      exact fr_some
    · skip
      exact h_kb2 _ _
theorem fr_Mo_whoHas_2 {P : Nat → Prop} {a : Nat} {v1 : Int32}   : ∀ (fu : Nat) (w0 : Int32) (μ : Mu), Fr P μ (Mo_whoHas_2 a v1 fu w0 μ) := by
  intro fu
  induction fu with
  | zero => intros; exact fr_none
  | succ fu ih => intros; exact fr_Mo_whoHas_2b (a := a) (v1 := v1)   ih
theorem fr_Mo_whoHas {P : Nat → Prop} {a : Nat} {v1 : Int32} {μ : Mu}   : Fr P μ (Mo_whoHas a v1 μ) := by
  unfold Mo_whoHas
  exact fr_Mo_whoHas_2 _ _ _
theorem fr_Mo_canAct_104 {P : Nat → Prop} {a : Nat} {μ : Mu}   : Fr P μ (Mo_canAct_104 a μ) := by
  unfold Mo_canAct_104
  exact fr_some
theorem fr_Mo_canAct_95 {P : Nat → Prop} {a : Nat} {v1 : Int32} {μ : Mu}   : Fr P μ (Mo_canAct_95 a v1 μ) := by
  unfold Mo_canAct_95
  refine fr_ite ?_ ?_
  · skip
    exact fr_Mo_canAct_104
  · skip
    refine fr_ite ?_ ?_
    · skip
      exact fr_Mo_canAct_104
    · skip
      exact fr_some
theorem fr_Mo_canAct {P : Nat → Prop} {a : Nat} {v1 : Int32} {v2 : Int32} {v3 : Int32} {μ : Mu}   : Fr P μ (Mo_canAct a v1 v2 v3 μ) := by
  unfold Mo_canAct
  refine fr_cl (fr_Mo_isPerson) (fun _ _ => ?_)
  refine fr_ite ?_ ?_
  · skip
    exact fr_some
  · skip
    refine fr_cl (fr_Mo_isAlive) (fun _ _ => ?_)
    refine fr_ite ?_ ?_
    · skip
      exact fr_some
    · skip
      refine fr_ite ?_ ?_
      · skip
        refine fr_cl (fr_Mo_seatOf) (fun _ _ => ?_)
        refine fr_ite ?_ ?_
        · skip
          refine fr_cl (fr_Mo_isIn) (fun _ _ => ?_)
          refine fr_ite ?_ ?_
          · skip
            exact fr_some
          · skip
            refine fr_cl (fr_Mo_whoHas) (fun _ _ => ?_)
            refine fr_ite ?_ ?_
            · skip
              exact fr_some
            · skip
              exact fr_some
        · skip
          exact fr_some
      · skip
        refine fr_ite ?_ ?_
        · skip
          refine fr_cl (fr_Mo_seatOf) (fun _ _ => ?_)
          refine fr_ite ?_ ?_
          · skip
            exact fr_some
          · skip
            exact fr_some
        · skip
          refine fr_ite ?_ ?_
          · skip
            refine fr_ldA (fun _ => ?_)
            refine fr_ite ?_ ?_
            · skip
              exact fr_Mo_canAct_104
            · skip
              exact fr_Mo_canAct_95
          · skip
            exact fr_Mo_canAct_95
theorem fr_Mo_keepsAhead_55b {P : Nat → Prop} {a : Nat} {kb55 : Int32 → Mu → Option (Unit × Mu)} {v1 : Int32} {μ : Mu} (h0 : P (a)) (h1 : P (a + 2)) (h_kb55 : ∀ (w0 : Int32) (μ : Mu), Fr P μ (kb55 w0 μ)) : Fr P μ (Mo_keepsAhead_55b a kb55 v1 μ) := by
  unfold Mo_keepsAhead_55b
  refine fr_ite ?_ ?_
  · skip
    refine fr_gF (fun _ => ?_)
    refine fr_pF h0 (fun _ => ?_)
    exact fr_some
  · skip
    refine fr_gF (fun _ => ?_)
    refine fr_ldA (fun _ => ?_)
    refine fr_stA h1 (fun _ => ?_)
    exact h_kb55 _ _
theorem fr_Mo_keepsAhead_55 {P : Nat → Prop} {a : Nat} (h0 : P (a)) (h1 : P (a + 2))  : ∀ (fu : Nat) (w0 : Int32) (μ : Mu), Fr P μ (Mo_keepsAhead_55 a fu w0 μ) := by
  intro fu
  induction fu with
  | zero => intros; exact fr_none
  | succ fu ih => intros; exact fr_Mo_keepsAhead_55b (a := a) h0 h1  ih
theorem fr_Mo_keepsAhead_53 {P : Nat → Prop} {a : Nat} {μ : Mu} (h0 : P (a)) (h1 : P (a + 2))  : Fr P μ (Mo_keepsAhead_53 a μ) := by
  unfold Mo_keepsAhead_53
  exact fr_Mo_keepsAhead_55 h0 h1 _ _ _
theorem fr_Mo_keepsAhead_21b {P : Nat → Prop} {a : Nat} {kb21 : Int32 → Mu → Option (Unit × Mu)} {v1 : Int32} {μ : Mu} (h0 : P (a)) (h1 : P (a + 2)) (h_kb21 : ∀ (w0 : Int32) (μ : Mu), Fr P μ (kb21 w0 μ)) : Fr P μ (Mo_keepsAhead_21b a kb21 v1 μ) := by
  unfold Mo_keepsAhead_21b
  refine fr_gF (fun _ => ?_)
  refine fr_ite ?_ ?_
  · skip
    exact fr_Mo_keepsAhead_53 h0 h1
  · skip
    refine fr_ldA (fun _ => ?_)
    refine fr_stA h1 (fun _ => ?_)
    exact h_kb21 _ _
theorem fr_Mo_keepsAhead_21 {P : Nat → Prop} {a : Nat} (h0 : P (a)) (h1 : P (a + 2))  : ∀ (fu : Nat) (w0 : Int32) (μ : Mu), Fr P μ (Mo_keepsAhead_21 a fu w0 μ) := by
  intro fu
  induction fu with
  | zero => intros; exact fr_none
  | succ fu ih => intros; exact fr_Mo_keepsAhead_21b (a := a) h0 h1  ih
theorem fr_Mo_keepsAhead {P : Nat → Prop} {a : Nat} {μ : Mu} (h0 : P (a)) (h1 : P (a + 2))  : Fr P μ (Mo_keepsAhead a μ) := by
  unfold Mo_keepsAhead
  refine fr_gF (fun _ => ?_)
  refine fr_ite ?_ ?_
  · skip
    refine fr_gF (fun _ => ?_)
    refine fr_pF h0 (fun _ => ?_)
    exact fr_Mo_keepsAhead_21 h0 h1 _ _ _
  · skip
    exact fr_Mo_keepsAhead_53 h0 h1
theorem fr_Mo_besideOf {P : Nat → Prop} {a : Nat} {v1 : Int32} {μ : Mu}   : Fr P μ (Mo_besideOf a v1 μ) := by
  unfold Mo_besideOf
  refine fr_cl (fr_Mo_seatOf) (fun _ _ => ?_)
  refine fr_ite ?_ ?_
  · skip
    exact fr_some
  · skip
    refine fr_cl (fr_Mo_seatOf) (fun _ _ => ?_)
    refine fr_cl (fr_Mo_whoHas) (fun _ _ => ?_)
    exact fr_some
theorem fr_Mo_heirsOf_28 {P : Nat → Prop} {a : Nat} {kb4 : Int32 → Int32 → Mu → Option (Int32 × Mu)} {v1 : Int32} {v2 : Int32} {v3 : Int32} {μ : Mu}  (h_kb4 : ∀ (w0 : Int32) (w1 : Int32) (μ : Mu), Fr P μ (kb4 w0 w1 μ)) : Fr P μ (Mo_heirsOf_28 a kb4 v1 v2 v3 μ) := by
  unfold Mo_heirsOf_28
  exact h_kb4 _ _ _
theorem fr_Mo_heirsOf_4b {P : Nat → Prop} {a : Nat} {kb4 : Int32 → Int32 → Mu → Option (Int32 × Mu)} {v1 : Int32} {v2 : Int32} {v3 : Int32} {μ : Mu}  (h_kb4 : ∀ (w0 : Int32) (w1 : Int32) (μ : Mu), Fr P μ (kb4 w0 w1 μ)) : Fr P μ (Mo_heirsOf_4b a kb4 v1 v2 v3 μ) := by
  unfold Mo_heirsOf_4b
  refine fr_gF (fun _ => ?_)
  refine fr_ite ?_ ?_
  · skip
    exact fr_some
  · skip
    refine fr_ldA (fun _ => ?_)
    refine fr_ite ?_ ?_
    · skip
      exact fr_Mo_heirsOf_28  h_kb4
    · skip
      exact fr_Mo_heirsOf_28  h_kb4
theorem fr_Mo_heirsOf_4 {P : Nat → Prop} {a : Nat} {v1 : Int32}   : ∀ (fu : Nat) (w0 : Int32) (w1 : Int32) (μ : Mu), Fr P μ (Mo_heirsOf_4 a v1 fu w0 w1 μ) := by
  intro fu
  induction fu with
  | zero => intros; exact fr_none
  | succ fu ih => intros; exact fr_Mo_heirsOf_4b (a := a) (v1 := v1)   ih
theorem fr_Mo_heirsOf {P : Nat → Prop} {a : Nat} {v1 : Int32} {μ : Mu}   : Fr P μ (Mo_heirsOf a v1 μ) := by
  unfold Mo_heirsOf
  exact fr_Mo_heirsOf_4 _ _ _ _
theorem fr_Mo_asks_129 {P : Nat → Prop} {a : Nat} {v1 : Int32} {s0 : Int32} {s1 : Int32} {μ : Mu} (h0 : P (a + 19))  : Fr P μ (Mo_asks_129 a v1 s0 s1 μ) := by
  unfold Mo_asks_129
  refine fr_stA h0 (fun _ => ?_)
  refine fr_cl (fr_Mo_heirsOf) (fun _ _ => ?_)
  refine fr_stA h0 (fun _ => ?_)
  refine fr_ldA (fun _ => ?_)
  refine fr_stA h0 (fun _ => ?_)
  exact fr_some
theorem fr_Mo_asks {P : Nat → Prop} {a : Nat} {v1 : Int32} {μ : Mu} (h0 : P (a + 19))  : Fr P μ (Mo_asks a v1 μ) := by
  unfold Mo_asks
  refine fr_cl (fr_Mo_besideOf) (fun _ _ => ?_)
  refine fr_ldA (fun _ => ?_)
  refine fr_stA h0 (fun _ => ?_)
  refine fr_ldA (fun _ => ?_)
  refine fr_stA h0 (fun _ => ?_)
  refine fr_ldA (fun _ => ?_)
  refine fr_stA h0 (fun _ => ?_)
  refine fr_cl (fr_Mo_seatOf) (fun _ _ => ?_)
  refine fr_stA h0 (fun _ => ?_)
  refine fr_ldA (fun _ => ?_)
  refine fr_stA h0 (fun _ => ?_)
  refine fr_ldA (fun _ => ?_)
  refine fr_stA h0 (fun _ => ?_)
  refine fr_ldA (fun _ => ?_)
  refine fr_stA h0 (fun _ => ?_)
  refine fr_ite ?_ ?_
  · skip
    exact fr_Mo_asks_129 h0
  · skip
    refine fr_ldA (fun _ => ?_)
    exact fr_Mo_asks_129 h0
theorem fr_Mo_twoOf {P : Nat → Prop} {a : Nat} {v1 : Int32} {v2 : Int32} {v3 : Int32} {μ : Mu}   : Fr P μ (Mo_twoOf a v1 v2 v3 μ) := by
  unfold Mo_twoOf
  refine fr_ite ?_ ?_
  · skip
    exact fr_some
  · skip
    refine fr_ite ?_ ?_
    · skip
      exact fr_some
    · skip
      refine fr_ite ?_ ?_
      · skip
        exact fr_some
      · skip
        refine fr_ite ?_ ?_
        · skip
          refine fr_nz ?_
          exact fr_some
        · skip
          refine fr_ite ?_ ?_
          · skip
            refine fr_ite ?_ ?_
            · skip
              exact fr_some
            · skip
              exact fr_some
          · skip
            refine fr_ite ?_ ?_
            · skip
              refine fr_ite ?_ ?_
              · skip
                exact fr_some
              · skip
                exact fr_some
            · skip
              refine fr_ite ?_ ?_
              · skip
                refine fr_ite ?_ ?_
                · skip
                  exact fr_some
                · skip
                  exact fr_some
              · skip
                refine fr_ite ?_ ?_
                · skip
                  exact fr_some
                · skip
                  refine fr_ite ?_ ?_
                  · skip
                    exact fr_some
                  · skip
                    exact fr_some
theorem fr_Mo_runs_170 {P : Nat → Prop} {a : Nat} {kb12 : Int32 → Int32 → Mu → Option (Int32 × Mu)} {v1 : Int32} {v3 : Int32} {v4 : Int32} {v5 : Int32} {μ : Mu}  (h_kb12 : ∀ (w0 : Int32) (w1 : Int32) (μ : Mu), Fr P μ (kb12 w0 w1 μ)) : Fr P μ (Mo_runs_170 a kb12 v1 v3 v4 v5 μ) := by
  unfold Mo_runs_170
  exact h_kb12 _ _ _
theorem fr_Mo_runs_83 {P : Nat → Prop} {a : Nat} {kb12 : Int32 → Int32 → Mu → Option (Int32 × Mu)} {v1 : Int32} {v3 : Int32} {v4 : Int32} {v5 : Int32} {s0 : Int32} {s1 : Int32} {μ : Mu} (h0 : P (a + 20)) (h_kb12 : ∀ (w0 : Int32) (w1 : Int32) (μ : Mu), Fr P μ (kb12 w0 w1 μ)) : Fr P μ (Mo_runs_83 a kb12 v1 v3 v4 v5 s0 s1 μ) := by
  unfold Mo_runs_83
  refine fr_stA h0 (fun _ => ?_)
  exact fr_Mo_runs_170  h_kb12
theorem fr_Mo_runs_45 {P : Nat → Prop} {a : Nat} {kb12 : Int32 → Int32 → Mu → Option (Int32 × Mu)} {v1 : Int32} {v3 : Int32} {v4 : Int32} {v5 : Int32} {μ : Mu} (h0 : P (a + 20)) (h_kb12 : ∀ (w0 : Int32) (w1 : Int32) (μ : Mu), Fr P μ (kb12 w0 w1 μ)) : Fr P μ (Mo_runs_45 a kb12 v1 v3 v4 v5 μ) := by
  unfold Mo_runs_45
  refine fr_ldA (fun _ => ?_)
  refine fr_ite ?_ ?_
  · skip
    refine fr_ldA (fun _ => ?_)
    exact fr_Mo_runs_83 h0 h_kb12
  · skip
    refine fr_ldA (fun _ => ?_)
    refine fr_ldA (fun _ => ?_)
    exact fr_Mo_runs_83 h0 h_kb12
theorem fr_Mo_runs_12b {P : Nat → Prop} {a : Nat} {kb12 : Int32 → Int32 → Mu → Option (Int32 × Mu)} {v1 : Int32} {v3 : Int32} {v4 : Int32} {v5 : Int32} {μ : Mu} (h0 : P (a + 20)) (h_kb12 : ∀ (w0 : Int32) (w1 : Int32) (μ : Mu), Fr P μ (kb12 w0 w1 μ)) : Fr P μ (Mo_runs_12b a kb12 v1 v3 v4 v5 μ) := by
  unfold Mo_runs_12b
  refine fr_ite ?_ ?_
  · skip
    refine fr_ldA (fun _ => ?_)
    exact fr_some
  · skip
    refine fr_ldA (fun _ => ?_)
    refine fr_ite ?_ ?_
    · skip
      exact fr_Mo_runs_45 h0 h_kb12
    · skip
      refine fr_ldA (fun _ => ?_)
      refine fr_ite ?_ ?_
      · skip
        exact fr_Mo_runs_45 h0 h_kb12
      · skip
        refine fr_ldA (fun _ => ?_)
        refine fr_ite ?_ ?_
        · skip
          refine fr_ldA (fun _ => ?_)
          refine fr_stA h0 (fun _ => ?_)
          exact fr_Mo_runs_170  h_kb12
        · skip
          refine fr_ldA (fun _ => ?_)
          refine fr_ldA (fun _ => ?_)
          refine fr_ldA (fun _ => ?_)
          refine fr_cl (fr_Mo_twoOf) (fun _ _ => ?_)
          refine fr_stA h0 (fun _ => ?_)
          exact fr_Mo_runs_170  h_kb12
theorem fr_Mo_runs_12 {P : Nat → Prop} {a : Nat} {v1 : Int32} {v3 : Int32} (h0 : P (a + 20))  : ∀ (fu : Nat) (w0 : Int32) (w1 : Int32) (μ : Mu), Fr P μ (Mo_runs_12 a v1 v3 fu w0 w1 μ) := by
  intro fu
  induction fu with
  | zero => intros; exact fr_none
  | succ fu ih => intros; exact fr_Mo_runs_12b (a := a) (v1 := v1) (v3 := v3) h0  ih
theorem fr_Mo_runs {P : Nat → Prop} {a : Nat} {v1 : Int32} {v2 : Int32} {v3 : Int32} {μ : Mu} (h0 : P (a + 20))  : Fr P μ (Mo_runs a v1 v2 v3 μ) := by
  unfold Mo_runs
  exact fr_Mo_runs_12 h0 _ _ _ _
theorem fr_Mo_lineOf_59 {P : Nat → Prop} {a : Nat} {kb2 : Int32 → Mu → Option (Int32 × Mu)} {v1 : Int32} {v2 : Int32} {μ : Mu}  (h_kb2 : ∀ (w0 : Int32) (μ : Mu), Fr P μ (kb2 w0 μ)) : Fr P μ (Mo_lineOf_59 a kb2 v1 v2 μ) := by
  unfold Mo_lineOf_59
  exact h_kb2 _ _
theorem fr_Mo_lineOf_2b {P : Nat → Prop} {a : Nat} {kb2 : Int32 → Mu → Option (Int32 × Mu)} {v1 : Int32} {v2 : Int32} {μ : Mu} (h0 : P (a + 20)) (h_kb2 : ∀ (w0 : Int32) (μ : Mu), Fr P μ (kb2 w0 μ)) : Fr P μ (Mo_lineOf_2b a kb2 v1 v2 μ) := by
  unfold Mo_lineOf_2b
  refine fr_ldA (fun _ => ?_)
  refine fr_ite ?_ ?_
  · skip
    exact fr_some
  · skip
    refine fr_ldA (fun _ => ?_)
    refine fr_ite ?_ ?_
    · skip
      refine fr_ldA (fun _ => ?_)
      refine fr_ldA (fun _ => ?_)
      refine fr_ite ?_ ?_
      · skip
        exact fr_some
      · skip
        refine fr_ldA (fun _ => ?_)
        refine fr_ldA (fun _ => ?_)
        refine fr_cl (fr_Mo_runs h0) (fun _ _ => ?_)
        refine fr_ite ?_ ?_
        · skip
          exact fr_Mo_lineOf_59  h_kb2
        · skip
          exact fr_some
    · skip
      exact fr_Mo_lineOf_59  h_kb2
theorem fr_Mo_lineOf_2 {P : Nat → Prop} {a : Nat} {v1 : Int32} (h0 : P (a + 20))  : ∀ (fu : Nat) (w0 : Int32) (μ : Mu), Fr P μ (Mo_lineOf_2 a v1 fu w0 μ) := by
  intro fu
  induction fu with
  | zero => intros; exact fr_none
  | succ fu ih => intros; exact fr_Mo_lineOf_2b (a := a) (v1 := v1) h0  ih
theorem fr_Mo_lineOf {P : Nat → Prop} {a : Nat} {v1 : Int32} {μ : Mu} (h0 : P (a + 20))  : Fr P μ (Mo_lineOf a v1 μ) := by
  unfold Mo_lineOf
  exact fr_Mo_lineOf_2 h0 _ _ _
theorem fr_Mo_held {P : Nat → Prop} {a : Nat} {v1 : Int32} {v2 : Int32} {v3 : Int32} {μ : Mu}   : Fr P μ (Mo_held a v1 v2 v3 μ) := by
  unfold Mo_held
  refine fr_ite ?_ ?_
  · skip
    refine fr_ite ?_ ?_
    · skip
      exact fr_some
    · skip
      exact fr_some
  · skip
    exact fr_some
theorem fr_Mo_lawTells_37 {P : Nat → Prop} {a : Nat} {v3 : Int32} {s0 : Int32} {μ : Mu}   : Fr P μ (Mo_lawTells_37 a v3 s0 μ) := by
  unfold Mo_lawTells_37
  refine fr_cl (fr_Mo_held) (fun _ _ => ?_)
  exact fr_some
theorem fr_Mo_lawTells {P : Nat → Prop} {a : Nat} {v1 : Int32} {v2 : Int32} {v3 : Int32} {μ : Mu} (h0 : P (a + 20))  : Fr P μ (Mo_lawTells a v1 v2 v3 μ) := by
  unfold Mo_lawTells
  refine fr_cl (fr_Mo_lineOf h0) (fun _ _ => ?_)
  refine fr_ite ?_ ?_
  · skip
    exact fr_Mo_lawTells_37
  · skip
    refine fr_ldA (fun _ => ?_)
    refine fr_ldA (fun _ => ?_)
    refine fr_cl (fr_Mo_runs h0) (fun _ _ => ?_)
    exact fr_Mo_lawTells_37
theorem fr_Mo_throwsOf {P : Nat → Prop} {a : Nat} {v1 : Int32} {μ : Mu} (h0 : P (a + 19)) (h1 : P (a + 20))  : Fr P μ (Mo_throwsOf a v1 μ) := by
  unfold Mo_throwsOf
  refine fr_cl (fr_Mo_asks h0) (fun _ _ => ?_)
  refine fr_ldA (fun _ => ?_)
  refine fr_cl (fr_Mo_lawTells h1) (fun _ _ => ?_)
  exact fr_some
theorem fr_Mo_lesser {P : Nat → Prop} {a : Nat} {v1 : Int32} {v2 : Int32} {μ : Mu}   : Fr P μ (Mo_lesser a v1 v2 μ) := by
  unfold Mo_lesser
  refine fr_ite ?_ ?_
  · skip
    exact fr_some
  · skip
    exact fr_some
theorem fr_Mo_gets {P : Nat → Prop} {a : Nat} {v1 : Int32} {v2 : Int32} {μ : Mu} (h0 : P (a + 1))  : Fr P μ (Mo_gets a v1 v2 μ) := by
  unfold Mo_gets
  refine fr_ldA (fun _ => ?_)
  refine fr_cl (fr_Mo_lesser) (fun _ _ => ?_)
  refine fr_ldA (fun _ => ?_)
  refine fr_stA h0 (fun _ => ?_)
  refine fr_ldA (fun _ => ?_)
  refine fr_stA h0 (fun _ => ?_)
  exact fr_some
theorem fr_Mo_notes {P : Nat → Prop} {a : Nat} {v1 : Int32} {v2 : Int32} {v3 : Int32} {μ : Mu} (h0 : P (a + 4)) (h1 : P (a + 1))  : Fr P μ (Mo_notes a v1 v2 v3 μ) := by
  unfold Mo_notes
  refine fr_gF (fun _ => ?_)
  refine fr_ite ?_ ?_
  · skip
    refine fr_ldA (fun _ => ?_)
    refine fr_ite ?_ ?_
    · skip
      exact fr_some
    · skip
      refine fr_ldA (fun _ => ?_)
      refine fr_ldA (fun _ => ?_)
      refine fr_stA h0 (fun _ => ?_)
      refine fr_stA h0 (fun _ => ?_)
      refine fr_stA h0 (fun _ => ?_)
      refine fr_stA h0 (fun _ => ?_)
      refine fr_ldA (fun _ => ?_)
      refine fr_stA h1 (fun _ => ?_)
      exact fr_some
  · skip
    exact fr_some
theorem fr_Mo_isSpilt {P : Nat → Prop} {a : Nat} {v1 : Int32} {μ : Mu} (h0 : P (a + 1)) (h1 : P (a + 19)) (h2 : P (a + 20)) (h3 : P (a + 4))  : Fr P μ (Mo_isSpilt a v1 μ) := by
  unfold Mo_isSpilt
  refine fr_ldA (fun _ => ?_)
  refine fr_stA h0 (fun _ => ?_)
  refine fr_cl (fr_Mo_throwsOf h1 h2) (fun _ _ => ?_)
  refine fr_ldA (fun _ => ?_)
  refine fr_stA h0 (fun _ => ?_)
  refine fr_cl (fr_Mo_gets h0) (fun _ _ => ?_)
  refine fr_cl (fr_Mo_notes h3 h0) (fun _ _ => ?_)
  exact fr_some
theorem fr_Mo_isSwept {P : Nat → Prop} {a : Nat} {v1 : Int32} {μ : Mu} (h0 : P (a + 4)) (h1 : P (a + 1))  : Fr P μ (Mo_isSwept a v1 μ) := by
  unfold Mo_isSwept
  refine fr_ldA (fun _ => ?_)
  refine fr_cl (fr_Mo_notes h0 h1) (fun _ _ => ?_)
  refine fr_ldA (fun _ => ?_)
  refine fr_ldA (fun _ => ?_)
  refine fr_stA h1 (fun _ => ?_)
  refine fr_stA h1 (fun _ => ?_)
  exact fr_some
theorem fr_Mo_dies_84 {P : Nat → Prop} {a : Nat} {v2 : Int32} {μ : Mu} (h0 : P (a + 1))  : Fr P μ (Mo_dies_84 a v2 μ) := by
  unfold Mo_dies_84
  refine fr_ldA (fun _ => ?_)
  refine fr_stA h0 (fun _ => ?_)
  exact fr_some
theorem fr_Mo_dies {P : Nat → Prop} {a : Nat} {v1 : Int32} {μ : Mu} (h0 : P (a + 1)) (h1 : P (a + 4))  : Fr P μ (Mo_dies a v1 μ) := by
  unfold Mo_dies
  refine fr_ldA (fun _ => ?_)
  refine fr_ldA (fun _ => ?_)
  refine fr_stA h0 (fun _ => ?_)
  refine fr_stA h0 (fun _ => ?_)
  refine fr_stA h0 (fun _ => ?_)
  refine fr_cl (fr_Mo_notes h1 h0) (fun _ _ => ?_)
  refine fr_ite ?_ ?_
  · skip
    exact fr_Mo_dies_84 h0
  · skip
    refine fr_cl (fr_Mo_isAlive) (fun _ _ => ?_)
    refine fr_ite ?_ ?_
    · skip
      exact fr_Mo_dies_84 h0
    · skip
      refine fr_cl (fr_Mo_gets h0) (fun _ _ => ?_)
      refine fr_cl (fr_Mo_notes h1 h0) (fun _ _ => ?_)
      exact fr_some
theorem fr_Mo_act_72 {P : Nat → Prop} {a : Nat} {v1 : Int32} {v2 : Int32} {μ : Mu} (h0 : P (a + 1)) (h1 : P (a + 4))  : Fr P μ (Mo_act_72 a v1 v2 μ) := by
  unfold Mo_act_72
  refine fr_ite ?_ ?_
  · skip
    refine fr_cl (fr_Mo_dies h0 h1) (fun _ _ => ?_)
    exact fr_some
  · skip
    exact fr_some
theorem fr_Mo_act_62 {P : Nat → Prop} {a : Nat} {v1 : Int32} {v2 : Int32} {μ : Mu} (h0 : P (a + 4)) (h1 : P (a + 1))  : Fr P μ (Mo_act_62 a v1 v2 μ) := by
  unfold Mo_act_62
  refine fr_ite ?_ ?_
  · skip
    refine fr_cl (fr_Mo_isSwept h0 h1) (fun _ _ => ?_)
    exact fr_Mo_act_72 h1 h0
  · skip
    exact fr_Mo_act_72 h1 h0
theorem fr_Mo_act_47 {P : Nat → Prop} {a : Nat} {v1 : Int32} {v2 : Int32} {μ : Mu} (h0 : P (a + 1)) (h1 : P (a + 4))  : Fr P μ (Mo_act_47 a v1 v2 μ) := by
  unfold Mo_act_47
  refine fr_ite ?_ ?_
  · skip
    refine fr_stA h0 (fun _ => ?_)
    exact fr_Mo_act_62 h1 h0
  · skip
    exact fr_Mo_act_62 h1 h0
theorem fr_Mo_act_30 {P : Nat → Prop} {a : Nat} {v1 : Int32} {v2 : Int32} {v3 : Int32} {μ : Mu} (h0 : P (a + 1)) (h1 : P (a + 4))  : Fr P μ (Mo_act_30 a v1 v2 v3 μ) := by
  unfold Mo_act_30
  refine fr_ite ?_ ?_
  · skip
    refine fr_stA h0 (fun _ => ?_)
    exact fr_Mo_act_47 h0 h1
  · skip
    exact fr_Mo_act_47 h0 h1
theorem fr_Mo_act {P : Nat → Prop} {a : Nat} {v1 : Int32} {v2 : Int32} {v3 : Int32} {μ : Mu} (h0 : P (a)) (h1 : P (a + 2)) (h2 : P (a + 1)) (h3 : P (a + 19)) (h4 : P (a + 20)) (h5 : P (a + 4))  : Fr P μ (Mo_act a v1 v2 v3 μ) := by
  unfold Mo_act
  refine fr_pF h0 (fun _ => ?_)
  refine fr_cl (fr_Mo_canAct) (fun _ _ => ?_)
  refine fr_ite ?_ ?_
  · skip
    exact fr_some
  · skip
    refine fr_cl (fr_Mo_keepsAhead h0 h1) (fun _ _ => ?_)
    refine fr_ite ?_ ?_
    · skip
      refine fr_cl (fr_Mo_isSpilt h2 h3 h4 h5) (fun _ _ => ?_)
      exact fr_Mo_act_30 h2 h5
    · skip
      exact fr_Mo_act_30 h2 h5
theorem fr_Mo_added {P : Nat → Prop} {a : Nat} {v1 : Int32} {v2 : Int32} {μ : Mu}   : Fr P μ (Mo_added a v1 v2 μ) := by
  unfold Mo_added
  refine fr_ite ?_ ?_
  · skip
    exact fr_some
  · skip
    exact fr_some
theorem fr_Mo_aliveSet_26 {P : Nat → Prop} {a : Nat} {kb4 : Int32 → Int32 → Mu → Option (Int32 × Mu)} {v1 : Int32} {v2 : Int32} {μ : Mu}  (h_kb4 : ∀ (w0 : Int32) (w1 : Int32) (μ : Mu), Fr P μ (kb4 w0 w1 μ)) : Fr P μ (Mo_aliveSet_26 a kb4 v1 v2 μ) := by
  unfold Mo_aliveSet_26
  exact h_kb4 _ _ _
theorem fr_Mo_aliveSet_4b {P : Nat → Prop} {a : Nat} {kb4 : Int32 → Int32 → Mu → Option (Int32 × Mu)} {v1 : Int32} {v2 : Int32} {μ : Mu}  (h_kb4 : ∀ (w0 : Int32) (w1 : Int32) (μ : Mu), Fr P μ (kb4 w0 w1 μ)) : Fr P μ (Mo_aliveSet_4b a kb4 v1 v2 μ) := by
  unfold Mo_aliveSet_4b
  refine fr_gF (fun _ => ?_)
  refine fr_ite ?_ ?_
  · skip
    exact fr_some
  · skip
    refine fr_cl (fr_Mo_isAlive) (fun _ _ => ?_)
    refine fr_ite ?_ ?_
    · skip
      exact fr_Mo_aliveSet_26  h_kb4
    · skip
      exact fr_Mo_aliveSet_26  h_kb4
theorem fr_Mo_aliveSet_4 {P : Nat → Prop} {a : Nat}   : ∀ (fu : Nat) (w0 : Int32) (w1 : Int32) (μ : Mu), Fr P μ (Mo_aliveSet_4 a fu w0 w1 μ) := by
  intro fu
  induction fu with
  | zero => intros; exact fr_none
  | succ fu ih => intros; exact fr_Mo_aliveSet_4b (a := a)   ih
theorem fr_Mo_aliveSet {P : Nat → Prop} {a : Nat} {μ : Mu}   : Fr P μ (Mo_aliveSet a μ) := by
  unfold Mo_aliveSet
  exact fr_Mo_aliveSet_4 _ _ _ _
theorem fr_Mo_areaOf {P : Nat → Prop} {a : Nat} {v1 : Int32} {v2 : Int32} {v3 : Int32} {μ : Mu}   : Fr P μ (Mo_areaOf a v1 v2 v3 μ) := by
  unfold Mo_areaOf
  refine fr_ldA (fun _ => ?_)
  refine fr_ldA (fun _ => ?_)
  refine fr_ldA (fun _ => ?_)
  refine fr_ldA (fun _ => ?_)
  refine fr_ldA (fun _ => ?_)
  refine fr_ldA (fun _ => ?_)
  refine fr_ldA (fun _ => ?_)
  refine fr_ldA (fun _ => ?_)
  exact fr_some
theorem fr_Mo_book {P : Nat → Prop} {a : Nat} {v1 : Int32} {v2 : Int32} {μ : Mu} (h0 : P (a))  : Fr P μ (Mo_book a v1 v2 μ) := by
  unfold Mo_book
  refine fr_pF h0 (fun _ => ?_)
  refine fr_ldA (fun _ => ?_)
  refine fr_cl (fr_Mo_isIn) (fun _ _ => ?_)
  refine fr_ite ?_ ?_
  · skip
    exact fr_some
  · skip
    refine fr_cl (fr_Mo_isIn) (fun _ _ => ?_)
    refine fr_ite ?_ ?_
    · skip
      exact fr_some
    · skip
      refine fr_ldA (fun _ => ?_)
      exact fr_some
theorem fr_Mo_canAsk {P : Nat → Prop} {a : Nat} {v1 : Int32} {μ : Mu}   : Fr P μ (Mo_canAsk a v1 μ) := by
  unfold Mo_canAsk
  refine fr_cl (fr_Mo_isIn) (fun _ _ => ?_)
  refine fr_zg ?_
  exact fr_some
theorem fr_Mo_tallest_44 {P : Nat → Prop} {a : Nat} {kb4 : Int32 → Int32 → Mu → Option (Int32 × Mu)} {v1 : Int32} {v2 : Int32} {μ : Mu}  (h_kb4 : ∀ (w0 : Int32) (w1 : Int32) (μ : Mu), Fr P μ (kb4 w0 w1 μ)) : Fr P μ (Mo_tallest_44 a kb4 v1 v2 μ) := by
  unfold Mo_tallest_44
  exact h_kb4 _ _ _
theorem fr_Mo_tallest_39 {P : Nat → Prop} {a : Nat} {kb4 : Int32 → Int32 → Mu → Option (Int32 × Mu)} {v1 : Int32} {v2 : Int32} {s0 : Int32} {s1 : Int32} {μ : Mu}  (h_kb4 : ∀ (w0 : Int32) (w1 : Int32) (μ : Mu), Fr P μ (kb4 w0 w1 μ)) : Fr P μ (Mo_tallest_39 a kb4 v1 v2 s0 s1 μ) := by
  unfold Mo_tallest_39
  refine fr_ite ?_ ?_
  · skip
    exact fr_Mo_tallest_44  h_kb4
  · skip
    exact fr_Mo_tallest_44  h_kb4
theorem fr_Mo_tallest_4b {P : Nat → Prop} {a : Nat} {kb4 : Int32 → Int32 → Mu → Option (Int32 × Mu)} {v1 : Int32} {v2 : Int32} {μ : Mu}  (h_kb4 : ∀ (w0 : Int32) (w1 : Int32) (μ : Mu), Fr P μ (kb4 w0 w1 μ)) : Fr P μ (Mo_tallest_4b a kb4 v1 v2 μ) := by
  unfold Mo_tallest_4b
  refine fr_gF (fun _ => ?_)
  refine fr_ite ?_ ?_
  · skip
    exact fr_some
  · skip
    refine fr_ldA (fun _ => ?_)
    refine fr_ite ?_ ?_
    · skip
      exact fr_Mo_tallest_39  h_kb4
    · skip
      refine fr_ldA (fun _ => ?_)
      exact fr_Mo_tallest_39  h_kb4
theorem fr_Mo_tallest_4 {P : Nat → Prop} {a : Nat}   : ∀ (fu : Nat) (w0 : Int32) (w1 : Int32) (μ : Mu), Fr P μ (Mo_tallest_4 a fu w0 w1 μ) := by
  intro fu
  induction fu with
  | zero => intros; exact fr_none
  | succ fu ih => intros; exact fr_Mo_tallest_4b (a := a)   ih
theorem fr_Mo_tallest {P : Nat → Prop} {a : Nat} {μ : Mu}   : Fr P μ (Mo_tallest a μ) := by
  unfold Mo_tallest
  exact fr_Mo_tallest_4 _ _ _ _
theorem fr_Mo_cattleLick_132 {P : Nat → Prop} {a : Nat} {kb103 : Int32 → Mu → Option (Unit × Mu)} {v2 : Int32} {μ : Mu}  (h_kb103 : ∀ (w0 : Int32) (μ : Mu), Fr P μ (kb103 w0 μ)) : Fr P μ (Mo_cattleLick_132 a kb103 v2 μ) := by
  unfold Mo_cattleLick_132
  exact h_kb103 _ _
theorem fr_Mo_cattleLick_103b {P : Nat → Prop} {a : Nat} {kb103 : Int32 → Mu → Option (Unit × Mu)} {v2 : Int32} {μ : Mu} (h0 : P (a + 4)) (h1 : P (a + 1)) (h_kb103 : ∀ (w0 : Int32) (μ : Mu), Fr P μ (kb103 w0 μ)) : Fr P μ (Mo_cattleLick_103b a kb103 v2 μ) := by
  unfold Mo_cattleLick_103b
  refine fr_gF (fun _ => ?_)
  refine fr_ite ?_ ?_
  · skip
    exact fr_some
  · skip
    refine fr_ldA (fun _ => ?_)
    refine fr_ite ?_ ?_
    · skip
      exact fr_Mo_cattleLick_132  h_kb103
    · skip
      refine fr_ldA (fun _ => ?_)
      refine fr_cl (fr_Mo_notes h0 h1) (fun _ _ => ?_)
      exact fr_Mo_cattleLick_132  h_kb103
theorem fr_Mo_cattleLick_103 {P : Nat → Prop} {a : Nat} (h0 : P (a + 4)) (h1 : P (a + 1))  : ∀ (fu : Nat) (w0 : Int32) (μ : Mu), Fr P μ (Mo_cattleLick_103 a fu w0 μ) := by
  intro fu
  induction fu with
  | zero => intros; exact fr_none
  | succ fu ih => intros; exact fr_Mo_cattleLick_103b (a := a) h0 h1  ih
theorem fr_Mo_cattleLick_95 {P : Nat → Prop} {a : Nat} {kb23 : Int32 → Mu → Option (Unit × Mu)} {v1 : Int32} {v2 : Int32} {μ : Mu}  (h_kb23 : ∀ (w0 : Int32) (μ : Mu), Fr P μ (kb23 w0 μ)) : Fr P μ (Mo_cattleLick_95 a kb23 v1 v2 μ) := by
  unfold Mo_cattleLick_95
  exact h_kb23 _ _
theorem fr_Mo_cattleLick_23b {P : Nat → Prop} {a : Nat} {kb23 : Int32 → Mu → Option (Unit × Mu)} {v1 : Int32} {v2 : Int32} {μ : Mu} (h0 : P (a + 4)) (h1 : P (a + 1)) (h2 : P (a + 21)) (h_kb23 : ∀ (w0 : Int32) (μ : Mu), Fr P μ (kb23 w0 μ)) : Fr P μ (Mo_cattleLick_23b a kb23 v1 v2 μ) := by
  unfold Mo_cattleLick_23b
  refine fr_ite ?_ ?_
  · skip
    exact fr_Mo_cattleLick_103 h0 h1 _ _ _
  · skip
    refine fr_cl (fr_Mo_tallest) (fun _ _ => ?_)
    refine fr_ite ?_ ?_
    · skip
      exact fr_Mo_cattleLick_95  h_kb23
    · skip
      refine fr_ldA (fun _ => ?_)
      refine fr_stA h1 (fun _ => ?_)
      refine fr_ldA (fun _ => ?_)
      refine fr_stA h1 (fun _ => ?_)
      refine fr_ldA (fun _ => ?_)
      refine fr_stA h2 (fun _ => ?_)
      exact fr_Mo_cattleLick_95  h_kb23
theorem fr_Mo_cattleLick_23 {P : Nat → Prop} {a : Nat} {v1 : Int32} (h0 : P (a + 4)) (h1 : P (a + 1)) (h2 : P (a + 21))  : ∀ (fu : Nat) (w0 : Int32) (μ : Mu), Fr P μ (Mo_cattleLick_23 a v1 fu w0 μ) := by
  intro fu
  induction fu with
  | zero => intros; exact fr_none
  | succ fu ih => intros; exact fr_Mo_cattleLick_23b (a := a) (v1 := v1) h0 h1 h2  ih
theorem fr_Mo_cattleLick_2b {P : Nat → Prop} {a : Nat} {kb2 : Int32 → Mu → Option (Unit × Mu)} {v1 : Int32} {v2 : Int32} {μ : Mu} (h0 : P (a + 4)) (h1 : P (a + 1)) (h2 : P (a + 21)) (h_kb2 : ∀ (w0 : Int32) (μ : Mu), Fr P μ (kb2 w0 μ)) : Fr P μ (Mo_cattleLick_2b a kb2 v1 v2 μ) := by
  unfold Mo_cattleLick_2b
  refine fr_ite ?_ ?_
  · skip
    exact fr_Mo_cattleLick_23 h0 h1 h2 _ _ _
  · skip
    refine fr_stA h2 (fun _ => ?_)
    exact h_kb2 _ _
theorem fr_Mo_cattleLick_2 {P : Nat → Prop} {a : Nat} {v1 : Int32} (h0 : P (a + 4)) (h1 : P (a + 1)) (h2 : P (a + 21))  : ∀ (fu : Nat) (w0 : Int32) (μ : Mu), Fr P μ (Mo_cattleLick_2 a v1 fu w0 μ) := by
  intro fu
  induction fu with
  | zero => intros; exact fr_none
  | succ fu ih => intros; exact fr_Mo_cattleLick_2b (a := a) (v1 := v1) h0 h1 h2  ih
theorem fr_Mo_cattleLick {P : Nat → Prop} {a : Nat} {v1 : Int32} {μ : Mu} (h0 : P (a + 4)) (h1 : P (a + 1)) (h2 : P (a + 21))  : Fr P μ (Mo_cattleLick a v1 μ) := by
  unfold Mo_cattleLick
  exact fr_Mo_cattleLick_2 h0 h1 h2 _ _ _
theorem fr_Mo_coins_65 {P : Nat → Prop} {a : Nat} {kb49 : Int32 → Int32 → Mu → Option (Int32 × Mu)} {v1 : Int32} {v2 : Int32} {v3 : Int32} {v4 : Int32} {s0 : Int32} {μ : Mu}  (h_kb49 : ∀ (w0 : Int32) (w1 : Int32) (μ : Mu), Fr P μ (kb49 w0 w1 μ)) : Fr P μ (Mo_coins_65 a kb49 v1 v2 v3 v4 s0 μ) := by
  unfold Mo_coins_65
  refine fr_ite ?_ ?_
  · skip
    exact fr_some
  · skip
    exact h_kb49 _ _ _
theorem fr_Mo_coins_49b {P : Nat → Prop} {a : Nat} {kb49 : Int32 → Int32 → Mu → Option (Int32 × Mu)} {v1 : Int32} {v2 : Int32} {v3 : Int32} {v4 : Int32} {μ : Mu}  (h_kb49 : ∀ (w0 : Int32) (w1 : Int32) (μ : Mu), Fr P μ (kb49 w0 w1 μ)) : Fr P μ (Mo_coins_49b a kb49 v1 v2 v3 v4 μ) := by
  unfold Mo_coins_49b
  refine fr_ite ?_ ?_
  · skip
    exact fr_Mo_coins_65  h_kb49
  · skip
    exact fr_Mo_coins_65  h_kb49
theorem fr_Mo_coins_49 {P : Nat → Prop} {a : Nat} {v1 : Int32} {v2 : Int32}   : ∀ (fu : Nat) (w0 : Int32) (w1 : Int32) (μ : Mu), Fr P μ (Mo_coins_49 a v1 v2 fu w0 w1 μ) := by
  intro fu
  induction fu with
  | zero => intros; exact fr_none
  | succ fu ih => intros; exact fr_Mo_coins_49b (a := a) (v1 := v1) (v2 := v2)   ih
theorem fr_Mo_coins_37 {P : Nat → Prop} {a : Nat} {v1 : Int32} {v2 : Int32} {μ : Mu}   : Fr P μ (Mo_coins_37 a v1 v2 μ) := by
  unfold Mo_coins_37
  refine fr_ite ?_ ?_
  · skip
    exact fr_some
  · skip
    exact fr_Mo_coins_49 _ _ _ _
theorem fr_Mo_coins {P : Nat → Prop} {a : Nat} {v1 : Int32} {v2 : Int32} {μ : Mu} (h0 : P (a))  : Fr P μ (Mo_coins a v1 v2 μ) := by
  unfold Mo_coins
  refine fr_pF h0 (fun _ => ?_)
  refine fr_cl (fr_Mo_isIn) (fun _ _ => ?_)
  refine fr_ite ?_ ?_
  · skip
    exact fr_some
  · skip
    refine fr_cl (fr_Mo_isIn) (fun _ _ => ?_)
    refine fr_ite ?_ ?_
    · skip
      exact fr_some
    · skip
      refine fr_ite ?_ ?_
      · skip
        refine fr_ite ?_ ?_
        · skip
          exact fr_some
        · skip
          exact fr_Mo_coins_37
      · skip
        exact fr_Mo_coins_37
theorem fr_Mo_feast_41 {P : Nat → Prop} {a : Nat} {kb4 : Int32 → Int32 → Mu → Option (Int32 × Mu)} {v1 : Int32} {v2 : Int32} {μ : Mu}  (h_kb4 : ∀ (w0 : Int32) (w1 : Int32) (μ : Mu), Fr P μ (kb4 w0 w1 μ)) : Fr P μ (Mo_feast_41 a kb4 v1 v2 μ) := by
  unfold Mo_feast_41
  exact h_kb4 _ _ _
theorem fr_Mo_feast_4b {P : Nat → Prop} {a : Nat} {kb4 : Int32 → Int32 → Mu → Option (Int32 × Mu)} {v1 : Int32} {v2 : Int32} {μ : Mu} (h0 : P (a + 1)) (h1 : P (a + 19)) (h2 : P (a + 20)) (h3 : P (a + 4)) (h_kb4 : ∀ (w0 : Int32) (w1 : Int32) (μ : Mu), Fr P μ (kb4 w0 w1 μ)) : Fr P μ (Mo_feast_4b a kb4 v1 v2 μ) := by
  unfold Mo_feast_4b
  refine fr_gF (fun _ => ?_)
  refine fr_ite ?_ ?_
  · skip
    exact fr_some
  · skip
    refine fr_cl (fr_Mo_isAlive) (fun _ _ => ?_)
    refine fr_ite ?_ ?_
    · skip
      exact fr_Mo_feast_41  h_kb4
    · skip
      refine fr_cl (fr_Mo_seatOf) (fun _ _ => ?_)
      refine fr_ite ?_ ?_
      · skip
        exact fr_Mo_feast_41  h_kb4
      · skip
        refine fr_cl (fr_Mo_isSpilt h0 h1 h2 h3) (fun _ _ => ?_)
        exact fr_Mo_feast_41  h_kb4
theorem fr_Mo_feast_4 {P : Nat → Prop} {a : Nat} (h0 : P (a + 1)) (h1 : P (a + 19)) (h2 : P (a + 20)) (h3 : P (a + 4))  : ∀ (fu : Nat) (w0 : Int32) (w1 : Int32) (μ : Mu), Fr P μ (Mo_feast_4 a fu w0 w1 μ) := by
  intro fu
  induction fu with
  | zero => intros; exact fr_none
  | succ fu ih => intros; exact fr_Mo_feast_4b (a := a) h0 h1 h2 h3  ih
theorem fr_Mo_feast {P : Nat → Prop} {a : Nat} {μ : Mu} (h0 : P (a + 1)) (h1 : P (a + 19)) (h2 : P (a + 20)) (h3 : P (a + 4))  : Fr P μ (Mo_feast a μ) := by
  unfold Mo_feast
  exact fr_Mo_feast_4 h0 h1 h2 h3 _ _ _ _
theorem fr_Mo_comes_79 {P : Nat → Prop} {a : Nat} {v2 : Int32} {μ : Mu} (h0 : P (a + 1)) (h1 : P (a + 19)) (h2 : P (a + 20)) (h3 : P (a + 4))  : Fr P μ (Mo_comes_79 a v2 μ) := by
  unfold Mo_comes_79
  refine fr_ite ?_ ?_
  · skip
    refine fr_cl (fr_Mo_feast h0 h1 h2 h3) (fun _ _ => ?_)
    exact fr_some
  · skip
    exact fr_some
theorem fr_Mo_comes_69 {P : Nat → Prop} {a : Nat} {v2 : Int32} {v3 : Int32} {μ : Mu} (h0 : P (a + 4)) (h1 : P (a + 1)) (h2 : P (a + 21)) (h3 : P (a + 19)) (h4 : P (a + 20))  : Fr P μ (Mo_comes_69 a v2 v3 μ) := by
  unfold Mo_comes_69
  refine fr_ite ?_ ?_
  · skip
    refine fr_cl (fr_Mo_cattleLick h0 h1 h2) (fun _ _ => ?_)
    exact fr_Mo_comes_79 h1 h3 h4 h0
  · skip
    exact fr_Mo_comes_79 h1 h3 h4 h0
theorem fr_Mo_comes_51 {P : Nat → Prop} {a : Nat} {v2 : Int32} {v3 : Int32} {μ : Mu} (h0 : P (a + 4)) (h1 : P (a + 1)) (h2 : P (a + 21)) (h3 : P (a + 19)) (h4 : P (a + 20))  : Fr P μ (Mo_comes_51 a v2 v3 μ) := by
  unfold Mo_comes_51
  refine fr_ite ?_ ?_
  · skip
    refine fr_cl (fr_Mo_isAlive) (fun _ _ => ?_)
    refine fr_ite ?_ ?_
    · skip
      exact fr_Mo_comes_69 h0 h1 h2 h3 h4
    · skip
      refine fr_cl (fr_Mo_dies h1 h0) (fun _ _ => ?_)
      exact fr_Mo_comes_69 h0 h1 h2 h3 h4
  · skip
    exact fr_Mo_comes_69 h0 h1 h2 h3 h4
theorem fr_Mo_comes_29 {P : Nat → Prop} {a : Nat} {v1 : Int32} {v2 : Int32} {v3 : Int32} {μ : Mu} (h0 : P (a + 1)) (h1 : P (a + 4)) (h2 : P (a + 21)) (h3 : P (a + 19)) (h4 : P (a + 20))  : Fr P μ (Mo_comes_29 a v1 v2 v3 μ) := by
  unfold Mo_comes_29
  refine fr_ite ?_ ?_
  · skip
    refine fr_ldA (fun _ => ?_)
    refine fr_stA h0 (fun _ => ?_)
    exact fr_Mo_comes_51 h1 h0 h2 h3 h4
  · skip
    exact fr_Mo_comes_51 h1 h0 h2 h3 h4
theorem fr_Mo_comes {P : Nat → Prop} {a : Nat} {v1 : Int32} {μ : Mu} (h0 : P (a + 1)) (h1 : P (a + 4)) (h2 : P (a + 21)) (h3 : P (a + 19)) (h4 : P (a + 20))  : Fr P μ (Mo_comes a v1 μ) := by
  unfold Mo_comes
  refine fr_ldA (fun _ => ?_)
  refine fr_ldA (fun _ => ?_)
  refine fr_ite ?_ ?_
  · skip
    refine fr_stA h0 (fun _ => ?_)
    exact fr_Mo_comes_29 h0 h1 h2 h3 h4
  · skip
    exact fr_Mo_comes_29 h0 h1 h2 h3 h4
theorem fr_Mo_common_5b {P : Nat → Prop} {a : Nat} {kb5 : Int32 → Int32 → Mu → Option (Int32 × Mu)} {v3 : Int32} {v4 : Int32} {μ : Mu}  (h_kb5 : ∀ (w0 : Int32) (w1 : Int32) (μ : Mu), Fr P μ (kb5 w0 w1 μ)) : Fr P μ (Mo_common_5b a kb5 v3 v4 μ) := by
  unfold Mo_common_5b
  refine fr_ite ?_ ?_
  · skip
    exact fr_some
  · skip
    refine fr_nz ?_
    exact h_kb5 _ _ _
theorem fr_Mo_common_5 {P : Nat → Prop} {a : Nat}   : ∀ (fu : Nat) (w0 : Int32) (w1 : Int32) (μ : Mu), Fr P μ (Mo_common_5 a fu w0 w1 μ) := by
  intro fu
  induction fu with
  | zero => intros; exact fr_none
  | succ fu ih => intros; exact fr_Mo_common_5b (a := a)   ih
theorem fr_Mo_common {P : Nat → Prop} {a : Nat} {v1 : Int32} {v2 : Int32} {μ : Mu}   : Fr P μ (Mo_common a v1 v2 μ) := by
  unfold Mo_common
  exact fr_Mo_common_5 _ _ _ _
theorem fr_Mo_isLeap_21 {P : Nat → Prop} {a : Nat} {μ : Mu}   : Fr P μ (Mo_isLeap_21 a μ) := by
  unfold Mo_isLeap_21
  exact fr_some
theorem fr_Mo_isLeap {P : Nat → Prop} {a : Nat} {v1 : Int32} {μ : Mu}   : Fr P μ (Mo_isLeap a v1 μ) := by
  unfold Mo_isLeap
  refine fr_ite ?_ ?_
  · skip
    refine fr_ite ?_ ?_
    · skip
      refine fr_ite ?_ ?_
      · skip
        exact fr_Mo_isLeap_21
      · skip
        exact fr_some
    · skip
      exact fr_Mo_isLeap_21
  · skip
    exact fr_some
theorem fr_Mo_daysOfMonth_44 {P : Nat → Prop} {a : Nat} {μ : Mu}   : Fr P μ (Mo_daysOfMonth_44 a μ) := by
  unfold Mo_daysOfMonth_44
  exact fr_some
theorem fr_Mo_daysOfMonth {P : Nat → Prop} {a : Nat} {v1 : Int32} {v2 : Int32} {μ : Mu}   : Fr P μ (Mo_daysOfMonth a v1 v2 μ) := by
  unfold Mo_daysOfMonth
  refine fr_ite ?_ ?_
  · skip
    refine fr_cl (fr_Mo_isLeap) (fun _ _ => ?_)
    refine fr_ite ?_ ?_
    · skip
      exact fr_some
    · skip
      exact fr_some
  · skip
    refine fr_ite ?_ ?_
    · skip
      exact fr_Mo_daysOfMonth_44
    · skip
      refine fr_ite ?_ ?_
      · skip
        exact fr_Mo_daysOfMonth_44
      · skip
        refine fr_ite ?_ ?_
        · skip
          exact fr_Mo_daysOfMonth_44
        · skip
          refine fr_ite ?_ ?_
          · skip
            exact fr_Mo_daysOfMonth_44
          · skip
            exact fr_some
theorem fr_Mo_isDate {P : Nat → Prop} {a : Nat} {v1 : Int32} {v2 : Int32} {v3 : Int32} {μ : Mu}   : Fr P μ (Mo_isDate a v1 v2 v3 μ) := by
  unfold Mo_isDate
  refine fr_cl (fr_Mo_isIn) (fun _ _ => ?_)
  refine fr_ite ?_ ?_
  · skip
    exact fr_some
  · skip
    refine fr_cl (fr_Mo_isIn) (fun _ _ => ?_)
    refine fr_ite ?_ ?_
    · skip
      exact fr_some
    · skip
      refine fr_cl (fr_Mo_daysOfMonth) (fun _ _ => ?_)
      refine fr_cl (fr_Mo_isIn) (fun _ _ => ?_)
      refine fr_ite ?_ ?_
      · skip
        exact fr_some
      · skip
        exact fr_some
theorem fr_Mo_dayNumber_48b {P : Nat → Prop} {a : Nat} {kb48 : Int32 → Int32 → Mu → Option (Int32 × Mu)} {v1 : Int32} {v2 : Int32} {v4 : Int32} {v5 : Int32} {μ : Mu}  (h_kb48 : ∀ (w0 : Int32) (w1 : Int32) (μ : Mu), Fr P μ (kb48 w0 w1 μ)) : Fr P μ (Mo_dayNumber_48b a kb48 v1 v2 v4 v5 μ) := by
  unfold Mo_dayNumber_48b
  refine fr_ite ?_ ?_
  · skip
    exact fr_some
  · skip
    refine fr_cl (fr_Mo_daysOfMonth) (fun _ _ => ?_)
    exact h_kb48 _ _ _
theorem fr_Mo_dayNumber_48 {P : Nat → Prop} {a : Nat} {v1 : Int32} {v2 : Int32}   : ∀ (fu : Nat) (w0 : Int32) (w1 : Int32) (μ : Mu), Fr P μ (Mo_dayNumber_48 a v1 v2 fu w0 w1 μ) := by
  intro fu
  induction fu with
  | zero => intros; exact fr_none
  | succ fu ih => intros; exact fr_Mo_dayNumber_48b (a := a) (v1 := v1) (v2 := v2)   ih
theorem fr_Mo_dayNumber_36 {P : Nat → Prop} {a : Nat} {kb10 : Int32 → Int32 → Mu → Option (Int32 × Mu)} {v1 : Int32} {v2 : Int32} {v5 : Int32} {s0 : Int32} {s1 : Int32} {μ : Mu}  (h_kb10 : ∀ (w0 : Int32) (w1 : Int32) (μ : Mu), Fr P μ (kb10 w0 w1 μ)) : Fr P μ (Mo_dayNumber_36 a kb10 v1 v2 v5 s0 s1 μ) := by
  unfold Mo_dayNumber_36
  exact h_kb10 _ _ _
theorem fr_Mo_dayNumber_10b {P : Nat → Prop} {a : Nat} {kb10 : Int32 → Int32 → Mu → Option (Int32 × Mu)} {v1 : Int32} {v2 : Int32} {v4 : Int32} {v5 : Int32} {μ : Mu}  (h_kb10 : ∀ (w0 : Int32) (w1 : Int32) (μ : Mu), Fr P μ (kb10 w0 w1 μ)) : Fr P μ (Mo_dayNumber_10b a kb10 v1 v2 v4 v5 μ) := by
  unfold Mo_dayNumber_10b
  refine fr_ite ?_ ?_
  · skip
    exact fr_Mo_dayNumber_48 _ _ _ _
  · skip
    refine fr_cl (fr_Mo_isLeap) (fun _ _ => ?_)
    refine fr_ite ?_ ?_
    · skip
      exact fr_Mo_dayNumber_36  h_kb10
    · skip
      exact fr_Mo_dayNumber_36  h_kb10
theorem fr_Mo_dayNumber_10 {P : Nat → Prop} {a : Nat} {v1 : Int32} {v2 : Int32}   : ∀ (fu : Nat) (w0 : Int32) (w1 : Int32) (μ : Mu), Fr P μ (Mo_dayNumber_10 a v1 v2 fu w0 w1 μ) := by
  intro fu
  induction fu with
  | zero => intros; exact fr_none
  | succ fu ih => intros; exact fr_Mo_dayNumber_10b (a := a) (v1 := v1) (v2 := v2)   ih
theorem fr_Mo_dayNumber {P : Nat → Prop} {a : Nat} {v1 : Int32} {v2 : Int32} {v3 : Int32} {μ : Mu}   : Fr P μ (Mo_dayNumber a v1 v2 v3 μ) := by
  unfold Mo_dayNumber
  exact fr_Mo_dayNumber_10 _ _ _ _
theorem fr_Mo_date {P : Nat → Prop} {a : Nat} {v1 : Int32} {v2 : Int32} {v3 : Int32} {μ : Mu} (h0 : P (a))  : Fr P μ (Mo_date a v1 v2 v3 μ) := by
  unfold Mo_date
  refine fr_pF h0 (fun _ => ?_)
  refine fr_cl (fr_Mo_isDate) (fun _ _ => ?_)
  refine fr_ite ?_ ?_
  · skip
    exact fr_some
  · skip
    refine fr_cl (fr_Mo_dayNumber) (fun _ _ => ?_)
    refine fr_pF h0 (fun _ => ?_)
    exact fr_some
theorem fr_Mo_dayOfWeek {P : Nat → Prop} {a : Nat} {v1 : Int32} {μ : Mu}   : Fr P μ (Mo_dayOfWeek a v1 μ) := by
  unfold Mo_dayOfWeek
  exact fr_some
theorem fr_Mo_spillsOf {P : Nat → Prop} {a : Nat} {v1 : Int32} {μ : Mu} (h0 : P (a + 19)) (h1 : P (a + 20))  : Fr P μ (Mo_spillsOf a v1 μ) := by
  unfold Mo_spillsOf
  refine fr_cl (fr_Mo_asks h0) (fun _ _ => ?_)
  refine fr_cl (fr_Mo_lawTells h1) (fun _ _ => ?_)
  exact fr_some
theorem fr_Mo_draw {P : Nat → Prop} {a : Nat} {v1 : Int32} {μ : Mu} (h0 : P (a + 1))  : Fr P μ (Mo_draw a v1 μ) := by
  unfold Mo_draw
  refine fr_ldA (fun _ => ?_)
  refine fr_stA h0 (fun _ => ?_)
  refine fr_ldA (fun _ => ?_)
  refine fr_nz ?_
  exact fr_some
theorem fr_Mo_happens {P : Nat → Prop} {a : Nat} {v1 : Int32} {μ : Mu} (h0 : P (a + 1))  : Fr P μ (Mo_happens a v1 μ) := by
  unfold Mo_happens
  refine fr_gF (fun _ => ?_)
  refine fr_ite ?_ ?_
  · skip
    refine fr_ite ?_ ?_
    · skip
      exact fr_some
    · skip
      refine fr_cl (fr_Mo_draw h0) (fun _ _ => ?_)
      refine fr_ite ?_ ?_
      · skip
        exact fr_some
      · skip
        exact fr_some
  · skip
    refine fr_ite ?_ ?_
    · skip
      exact fr_some
    · skip
      exact fr_some
theorem fr_Mo_runsOf {P : Nat → Prop} {a : Nat} {v1 : Int32} {μ : Mu} (h0 : P (a + 19)) (h1 : P (a + 20))  : Fr P μ (Mo_runsOf a v1 μ) := by
  unfold Mo_runsOf
  refine fr_cl (fr_Mo_asks h0) (fun _ _ => ?_)
  refine fr_ldA (fun _ => ?_)
  refine fr_ldA (fun _ => ?_)
  refine fr_ldA (fun _ => ?_)
  refine fr_cl (fr_Mo_lawTells h1) (fun _ _ => ?_)
  exact fr_some
theorem fr_Mo_runsOff {P : Nat → Prop} {a : Nat} {v1 : Int32} {μ : Mu} (h0 : P (a + 19)) (h1 : P (a + 20)) (h2 : P (a + 1)) (h3 : P (a + 4))  : Fr P μ (Mo_runsOff a v1 μ) := by
  unfold Mo_runsOff
  refine fr_cl (fr_Mo_runsOf h0 h1) (fun _ _ => ?_)
  refine fr_ite ?_ ?_
  · skip
    exact fr_some
  · skip
    refine fr_ldA (fun _ => ?_)
    refine fr_stA h2 (fun _ => ?_)
    refine fr_cl (fr_Mo_notes h3 h2) (fun _ _ => ?_)
    refine fr_cl (fr_Mo_besideOf) (fun _ _ => ?_)
    refine fr_ldA (fun _ => ?_)
    refine fr_stA h2 (fun _ => ?_)
    refine fr_ite ?_ ?_
    · skip
      refine fr_ldA (fun _ => ?_)
      refine fr_stA h2 (fun _ => ?_)
      exact fr_some
    · skip
      refine fr_cl (fr_Mo_gets h2) (fun _ _ => ?_)
      exact fr_some
theorem fr_Mo_goesBy_128 {P : Nat → Prop} {a : Nat} {kb94 : Int32 → Mu → Option (Int32 × Mu)} {v1 : Int32} {v2 : Int32} {μ : Mu}  (h_kb94 : ∀ (w0 : Int32) (μ : Mu), Fr P μ (kb94 w0 μ)) : Fr P μ (Mo_goesBy_128 a kb94 v1 v2 μ) := by
  unfold Mo_goesBy_128
  exact h_kb94 _ _
theorem fr_Mo_goesBy_94b {P : Nat → Prop} {a : Nat} {kb94 : Int32 → Mu → Option (Int32 × Mu)} {v1 : Int32} {v2 : Int32} {μ : Mu} (h0 : P (a + 1)) (h1 : P (a + 19)) (h2 : P (a + 20)) (h3 : P (a + 4)) (h_kb94 : ∀ (w0 : Int32) (μ : Mu), Fr P μ (kb94 w0 μ)) : Fr P μ (Mo_goesBy_94b a kb94 v1 v2 μ) := by
  unfold Mo_goesBy_94b
  refine fr_ite ?_ ?_
  · skip
    refine fr_ldA (fun _ => ?_)
    refine fr_stA h0 (fun _ => ?_)
    exact fr_some
  · skip
    refine fr_cl (fr_Mo_whoHas) (fun _ _ => ?_)
    refine fr_ite ?_ ?_
    · skip
      exact fr_Mo_goesBy_128  h_kb94
    · skip
      refine fr_ldA (fun _ => ?_)
      refine fr_ite ?_ ?_
      · skip
        exact fr_Mo_goesBy_128  h_kb94
      · skip
        refine fr_cl (fr_Mo_runsOff h1 h2 h0 h3) (fun _ _ => ?_)
        exact fr_Mo_goesBy_128  h_kb94
theorem fr_Mo_goesBy_94 {P : Nat → Prop} {a : Nat} {v1 : Int32} (h0 : P (a + 1)) (h1 : P (a + 19)) (h2 : P (a + 20)) (h3 : P (a + 4))  : ∀ (fu : Nat) (w0 : Int32) (μ : Mu), Fr P μ (Mo_goesBy_94 a v1 fu w0 μ) := by
  intro fu
  induction fu with
  | zero => intros; exact fr_none
  | succ fu ih => intros; exact fr_Mo_goesBy_94b (a := a) (v1 := v1) h0 h1 h2 h3  ih
theorem fr_Mo_goesBy_86 {P : Nat → Prop} {a : Nat} {kb46 : Int32 → Int32 → Mu → Option (Int32 × Mu)} {v1 : Int32} {v2 : Int32} {μ : Mu}  (h_kb46 : ∀ (w0 : Int32) (w1 : Int32) (μ : Mu), Fr P μ (kb46 w0 w1 μ)) : Fr P μ (Mo_goesBy_86 a kb46 v1 v2 μ) := by
  unfold Mo_goesBy_86
  exact h_kb46 _ _ _
theorem fr_Mo_goesBy_46b {P : Nat → Prop} {a : Nat} {kb46 : Int32 → Int32 → Mu → Option (Int32 × Mu)} {v1 : Int32} {v2 : Int32} {μ : Mu} (h0 : P (a + 1)) (h1 : P (a + 19)) (h2 : P (a + 20)) (h3 : P (a + 4)) (h_kb46 : ∀ (w0 : Int32) (w1 : Int32) (μ : Mu), Fr P μ (kb46 w0 w1 μ)) : Fr P μ (Mo_goesBy_46b a kb46 v1 v2 μ) := by
  unfold Mo_goesBy_46b
  refine fr_gF (fun _ => ?_)
  refine fr_ite ?_ ?_
  · skip
    exact fr_Mo_goesBy_94 h0 h1 h2 h3 _ _ _
  · skip
    refine fr_cl (fr_Mo_isAlive) (fun _ _ => ?_)
    refine fr_ite ?_ ?_
    · skip
      exact fr_Mo_goesBy_86  h_kb46
    · skip
      refine fr_cl (fr_Mo_spillsOf h1 h2) (fun _ _ => ?_)
      refine fr_cl (fr_Mo_happens h0) (fun _ _ => ?_)
      refine fr_ite ?_ ?_
      · skip
        exact fr_Mo_goesBy_86  h_kb46
      · skip
        refine fr_cl (fr_Mo_isSpilt h0 h1 h2 h3) (fun _ _ => ?_)
        exact fr_Mo_goesBy_86  h_kb46
theorem fr_Mo_goesBy_46 {P : Nat → Prop} {a : Nat} (h0 : P (a + 1)) (h1 : P (a + 19)) (h2 : P (a + 20)) (h3 : P (a + 4))  : ∀ (fu : Nat) (w0 : Int32) (w1 : Int32) (μ : Mu), Fr P μ (Mo_goesBy_46 a fu w0 w1 μ) := by
  intro fu
  induction fu with
  | zero => intros; exact fr_none
  | succ fu ih => intros; exact fr_Mo_goesBy_46b (a := a) h0 h1 h2 h3  ih
theorem fr_Mo_goesBy_37 {P : Nat → Prop} {a : Nat} {kb4 : Int32 → Int32 → Mu → Option (Int32 × Mu)} {v1 : Int32} {v2 : Int32} {μ : Mu}  (h_kb4 : ∀ (w0 : Int32) (w1 : Int32) (μ : Mu), Fr P μ (kb4 w0 w1 μ)) : Fr P μ (Mo_goesBy_37 a kb4 v1 v2 μ) := by
  unfold Mo_goesBy_37
  exact h_kb4 _ _ _
theorem fr_Mo_goesBy_4b {P : Nat → Prop} {a : Nat} {kb4 : Int32 → Int32 → Mu → Option (Int32 × Mu)} {v1 : Int32} {v2 : Int32} {μ : Mu} (h0 : P (a + 1)) (h1 : P (a + 19)) (h2 : P (a + 20)) (h3 : P (a + 4)) (h4 : P (a + 21)) (h_kb4 : ∀ (w0 : Int32) (w1 : Int32) (μ : Mu), Fr P μ (kb4 w0 w1 μ)) : Fr P μ (Mo_goesBy_4b a kb4 v1 v2 μ) := by
  unfold Mo_goesBy_4b
  refine fr_gF (fun _ => ?_)
  refine fr_ite ?_ ?_
  · skip
    exact fr_Mo_goesBy_46 h0 h1 h2 h3 _ _ _ _
  · skip
    refine fr_ldA (fun _ => ?_)
    refine fr_ldA (fun _ => ?_)
    refine fr_ite ?_ ?_
    · skip
      refine fr_cl (fr_Mo_comes h0 h3 h4 h1 h2) (fun _ _ => ?_)
      exact fr_Mo_goesBy_37  h_kb4
    · skip
      exact fr_Mo_goesBy_37  h_kb4
theorem fr_Mo_goesBy_4 {P : Nat → Prop} {a : Nat} (h0 : P (a + 1)) (h1 : P (a + 19)) (h2 : P (a + 20)) (h3 : P (a + 4)) (h4 : P (a + 21))  : ∀ (fu : Nat) (w0 : Int32) (w1 : Int32) (μ : Mu), Fr P μ (Mo_goesBy_4 a fu w0 w1 μ) := by
  intro fu
  induction fu with
  | zero => intros; exact fr_none
  | succ fu ih => intros; exact fr_Mo_goesBy_4b (a := a) h0 h1 h2 h3 h4  ih
theorem fr_Mo_goesBy {P : Nat → Prop} {a : Nat} {μ : Mu} (h0 : P (a + 1)) (h1 : P (a + 19)) (h2 : P (a + 20)) (h3 : P (a + 4)) (h4 : P (a + 21))  : Fr P μ (Mo_goesBy a μ) := by
  unfold Mo_goesBy
  exact fr_Mo_goesBy_4 h0 h1 h2 h3 h4 _ _ _ _
theorem fr_Mo_days_36b {P : Nat → Prop} {a : Nat} {kb36 : Int32 → Int32 → Mu → Option (Int32 × Mu)} {v1 : Int32} {v2 : Int32} {v3 : Int32} {μ : Mu} (h0 : P (a)) (h1 : P (a + 2)) (h2 : P (a + 1)) (h3 : P (a + 19)) (h4 : P (a + 20)) (h5 : P (a + 4)) (h6 : P (a + 21)) (h_kb36 : ∀ (w0 : Int32) (w1 : Int32) (μ : Mu), Fr P μ (kb36 w0 w1 μ)) : Fr P μ (Mo_days_36b a kb36 v1 v2 v3 μ) := by
  unfold Mo_days_36b
  refine fr_ite ?_ ?_
  · skip
    exact fr_some
  · skip
    refine fr_cl (fr_Mo_keepsAhead h0 h1) (fun _ _ => ?_)
    refine fr_cl (fr_Mo_goesBy h2 h3 h4 h5 h6) (fun _ _ => ?_)
    exact h_kb36 _ _ _
theorem fr_Mo_days_36 {P : Nat → Prop} {a : Nat} {v1 : Int32} (h0 : P (a)) (h1 : P (a + 2)) (h2 : P (a + 1)) (h3 : P (a + 19)) (h4 : P (a + 20)) (h5 : P (a + 4)) (h6 : P (a + 21))  : ∀ (fu : Nat) (w0 : Int32) (w1 : Int32) (μ : Mu), Fr P μ (Mo_days_36 a v1 fu w0 w1 μ) := by
  intro fu
  induction fu with
  | zero => intros; exact fr_none
  | succ fu ih => intros; exact fr_Mo_days_36b (a := a) (v1 := v1) h0 h1 h2 h3 h4 h5 h6  ih
theorem fr_Mo_days {P : Nat → Prop} {a : Nat} {v1 : Int32} {μ : Mu} (h0 : P (a)) (h1 : P (a + 2)) (h2 : P (a + 1)) (h3 : P (a + 19)) (h4 : P (a + 20)) (h5 : P (a + 4)) (h6 : P (a + 21))  : Fr P μ (Mo_days a v1 μ) := by
  unfold Mo_days
  refine fr_pF h0 (fun _ => ?_)
  refine fr_cl (fr_Mo_isIn) (fun _ _ => ?_)
  refine fr_ite ?_ ?_
  · skip
    exact fr_some
  · skip
    refine fr_ldA (fun _ => ?_)
    refine fr_ite ?_ ?_
    · skip
      exact fr_Mo_days_36 h0 h1 h2 h3 h4 h5 h6 _ _ _ _
    · skip
      exact fr_some
theorem fr_Mo_doorHigh {P : Nat → Prop} {a : Nat} {v1 : Int32} {μ : Mu}   : Fr P μ (Mo_doorHigh a v1 μ) := by
  unfold Mo_doorHigh
  refine fr_cl (fr_Mo_whoHas) (fun _ _ => ?_)
  refine fr_ite ?_ ?_
  · skip
    exact fr_some
  · skip
    refine fr_ldA (fun _ => ?_)
    exact fr_some
theorem fr_Mo_door_99 {P : Nat → Prop} {a : Nat} {kb27 : Int32 → Int32 → Int32 → Int32 → Mu → Option (Int32 × Mu)} {kb43 : Int32 → Int32 → Int32 → Int32 → Int32 → Mu → Option (Int32 × Mu)} {v1 : Int32} {v2 : Int32} {v3 : Int32} {v4 : Int32} {v5 : Int32} {v6 : Int32} {v7 : Int32} {μ : Mu}  (h_kb27 : ∀ (w0 : Int32) (w1 : Int32) (w2 : Int32) (w3 : Int32) (μ : Mu), Fr P μ (kb27 w0 w1 w2 w3 μ)) (h_kb43 : ∀ (w0 : Int32) (w1 : Int32) (w2 : Int32) (w3 : Int32) (w4 : Int32) (μ : Mu), Fr P μ (kb43 w0 w1 w2 w3 w4 μ)) : Fr P μ (Mo_door_99 a kb27 kb43 v1 v2 v3 v4 v5 v6 v7 μ) := by
  unfold Mo_door_99
  exact h_kb43 _ _ _ _ _ _
theorem fr_Mo_door_43b {P : Nat → Prop} {a : Nat} {kb27 : Int32 → Int32 → Int32 → Int32 → Mu → Option (Int32 × Mu)} {kb43 : Int32 → Int32 → Int32 → Int32 → Int32 → Mu → Option (Int32 × Mu)} {v1 : Int32} {v5 : Int32} {v2 : Int32} {v3 : Int32} {v4 : Int32} {v6 : Int32} {v7 : Int32} {μ : Mu}  (h_kb27 : ∀ (w0 : Int32) (w1 : Int32) (w2 : Int32) (w3 : Int32) (μ : Mu), Fr P μ (kb27 w0 w1 w2 w3 μ)) (h_kb43 : ∀ (w0 : Int32) (w1 : Int32) (w2 : Int32) (w3 : Int32) (w4 : Int32) (μ : Mu), Fr P μ (kb43 w0 w1 w2 w3 w4 μ)) : Fr P μ (Mo_door_43b a kb27 kb43 v1 v5 v2 v3 v4 v6 v7 μ) := by
  unfold Mo_door_43b
  refine fr_ite ?_ ?_
  · skip
    exact h_kb27 _ _ _ _ _
  · skip
    refine fr_cl (fr_Mo_doorHigh) (fun _ _ => ?_)
    refine fr_cl (fr_Mo_lesser) (fun _ _ => ?_)
    refine fr_ite ?_ ?_
    · skip
      exact fr_Mo_door_99  h_kb27 h_kb43
    · skip
      exact fr_Mo_door_99  h_kb27 h_kb43
theorem fr_Mo_door_43 {P : Nat → Prop} {a : Nat} {kb27 : Int32 → Int32 → Int32 → Int32 → Mu → Option (Int32 × Mu)} {v1 : Int32} {v5 : Int32}  (h_kb27 : ∀ (w0 : Int32) (w1 : Int32) (w2 : Int32) (w3 : Int32) (μ : Mu), Fr P μ (kb27 w0 w1 w2 w3 μ)) : ∀ (fu : Nat) (w0 : Int32) (w1 : Int32) (w2 : Int32) (w3 : Int32) (w4 : Int32) (μ : Mu), Fr P μ (Mo_door_43 a kb27 v1 v5 fu w0 w1 w2 w3 w4 μ) := by
  intro fu
  induction fu with
  | zero => intros; exact fr_none
  | succ fu ih => intros; exact fr_Mo_door_43b (a := a) (kb27 := kb27) (v1 := v1) (v5 := v5)  h_kb27 ih
theorem fr_Mo_door_27b {P : Nat → Prop} {a : Nat} {kb27 : Int32 → Int32 → Int32 → Int32 → Mu → Option (Int32 × Mu)} {v1 : Int32} {v2 : Int32} {v3 : Int32} {v4 : Int32} {v5 : Int32} {μ : Mu}  (h_kb27 : ∀ (w0 : Int32) (w1 : Int32) (w2 : Int32) (w3 : Int32) (μ : Mu), Fr P μ (kb27 w0 w1 w2 w3 μ)) : Fr P μ (Mo_door_27b a kb27 v1 v2 v3 v4 v5 μ) := by
  unfold Mo_door_27b
  refine fr_ite ?_ ?_
  · skip
    refine fr_ite ?_ ?_
    · skip
      exact fr_some
    · skip
      refine fr_ite ?_ ?_
      · skip
        exact fr_some
      · skip
        exact fr_some
  · skip
    exact fr_Mo_door_43  h_kb27 _ _ _ _ _ _ _
theorem fr_Mo_door_27 {P : Nat → Prop} {a : Nat} {v1 : Int32}   : ∀ (fu : Nat) (w0 : Int32) (w1 : Int32) (w2 : Int32) (w3 : Int32) (μ : Mu), Fr P μ (Mo_door_27 a v1 fu w0 w1 w2 w3 μ) := by
  intro fu
  induction fu with
  | zero => intros; exact fr_none
  | succ fu ih => intros; exact fr_Mo_door_27b (a := a) (v1 := v1)   ih
theorem fr_Mo_door {P : Nat → Prop} {a : Nat} {v1 : Int32} {μ : Mu} (h0 : P (a))  : Fr P μ (Mo_door a v1 μ) := by
  unfold Mo_door
  refine fr_pF h0 (fun _ => ?_)
  refine fr_cl (fr_Mo_isIn) (fun _ _ => ?_)
  refine fr_ite ?_ ?_
  · skip
    exact fr_some
  · skip
    exact fr_Mo_door_27 _ _ _ _ _ _
theorem fr_Mo_drip {P : Nat → Prop} {a : Nat} {v1 : Int32} {μ : Mu} (h0 : P (a)) (h1 : P (a + 29))  : Fr P μ (Mo_drip a v1 μ) := by
  unfold Mo_drip
  refine fr_pF h0 (fun _ => ?_)
  refine fr_ite ?_ ?_
  · skip
    refine fr_pF h0 (fun _ => ?_)
    exact fr_some
  · skip
    refine fr_cl (fr_Mo_isIn) (fun _ _ => ?_)
    refine fr_ite ?_ ?_
    · skip
      exact fr_some
    · skip
      refine fr_gF (fun _ => ?_)
      refine fr_ite ?_ ?_
      · skip
        exact fr_some
      · skip
        refine fr_gF (fun _ => ?_)
        refine fr_stA h1 (fun _ => ?_)
        refine fr_gF (fun _ => ?_)
        refine fr_pF h0 (fun _ => ?_)
        refine fr_gF (fun _ => ?_)
        exact fr_some
theorem fr_Mo_isDry_2b {P : Nat → Prop} {a : Nat} {kb2 : Int32 → Mu → Option (Int32 × Mu)} {v1 : Int32} {v2 : Int32} {μ : Mu}  (h_kb2 : ∀ (w0 : Int32) (μ : Mu), Fr P μ (kb2 w0 μ)) : Fr P μ (Mo_isDry_2b a kb2 v1 v2 μ) := by
  unfold Mo_isDry_2b
  refine fr_gF (fun _ => ?_)
  refine fr_ite ?_ ?_
  · skip
    exact fr_some
  · skip
    refine fr_ldA (fun _ => ?_)
    refine fr_nz ?_
    refine fr_ite ?_ ?_
    · skip
      exact fr_some
    · skip
      exact h_kb2 _ _
theorem fr_Mo_isDry_2 {P : Nat → Prop} {a : Nat} {v1 : Int32}   : ∀ (fu : Nat) (w0 : Int32) (μ : Mu), Fr P μ (Mo_isDry_2 a v1 fu w0 μ) := by
  intro fu
  induction fu with
  | zero => intros; exact fr_none
  | succ fu ih => intros; exact fr_Mo_isDry_2b (a := a) (v1 := v1)   ih
theorem fr_Mo_isDry {P : Nat → Prop} {a : Nat} {v1 : Int32} {μ : Mu}   : Fr P μ (Mo_isDry a v1 μ) := by
  unfold Mo_isDry
  exact fr_Mo_isDry_2 _ _ _
theorem fr_Mo_drips_97 {P : Nat → Prop} {a : Nat} {kb80 : Int32 → Int32 → Mu → Option (Int32 × Mu)} {v1 : Int32} {v2 : Int32} {v3 : Int32} {μ : Mu}  (h_kb80 : ∀ (w0 : Int32) (w1 : Int32) (μ : Mu), Fr P μ (kb80 w0 w1 μ)) : Fr P μ (Mo_drips_97 a kb80 v1 v2 v3 μ) := by
  unfold Mo_drips_97
  exact h_kb80 _ _ _
theorem fr_Mo_drips_80b {P : Nat → Prop} {a : Nat} {kb80 : Int32 → Int32 → Mu → Option (Int32 × Mu)} {v1 : Int32} {v2 : Int32} {v3 : Int32} {μ : Mu}  (h_kb80 : ∀ (w0 : Int32) (w1 : Int32) (μ : Mu), Fr P μ (kb80 w0 w1 μ)) : Fr P μ (Mo_drips_80b a kb80 v1 v2 v3 μ) := by
  unfold Mo_drips_80b
  refine fr_ite ?_ ?_
  · skip
    exact fr_some
  · skip
    refine fr_cl (fr_Mo_isDry) (fun _ _ => ?_)
    refine fr_ite ?_ ?_
    · skip
      exact fr_Mo_drips_97  h_kb80
    · skip
      exact fr_Mo_drips_97  h_kb80
theorem fr_Mo_drips_80 {P : Nat → Prop} {a : Nat} {v1 : Int32}   : ∀ (fu : Nat) (w0 : Int32) (w1 : Int32) (μ : Mu), Fr P μ (Mo_drips_80 a v1 fu w0 w1 μ) := by
  intro fu
  induction fu with
  | zero => intros; exact fr_none
  | succ fu ih => intros; exact fr_Mo_drips_80b (a := a) (v1 := v1)   ih
theorem fr_Mo_drips_14b {P : Nat → Prop} {a : Nat} {kb14 : Int32 → Int32 → Mu → Option (Int32 × Mu)} {v2 : Int32} {v3 : Int32} {μ : Mu}  (h_kb14 : ∀ (w0 : Int32) (w1 : Int32) (μ : Mu), Fr P μ (kb14 w0 w1 μ)) : Fr P μ (Mo_drips_14b a kb14 v2 v3 μ) := by
  unfold Mo_drips_14b
  refine fr_gF (fun _ => ?_)
  refine fr_ite ?_ ?_
  · skip
    refine fr_gF (fun _ => ?_)
    refine fr_ite ?_ ?_
    · skip
      exact fr_some
    · skip
      exact fr_some
  · skip
    refine fr_ldA (fun _ => ?_)
    refine fr_cl (fr_Mo_common) (fun _ _ => ?_)
    refine fr_nz ?_
    refine fr_ldA (fun _ => ?_)
    exact h_kb14 _ _ _
theorem fr_Mo_drips_14 {P : Nat → Prop} {a : Nat}   : ∀ (fu : Nat) (w0 : Int32) (w1 : Int32) (μ : Mu), Fr P μ (Mo_drips_14 a fu w0 w1 μ) := by
  intro fu
  induction fu with
  | zero => intros; exact fr_none
  | succ fu ih => intros; exact fr_Mo_drips_14b (a := a)   ih
theorem fr_Mo_drips {P : Nat → Prop} {a : Nat} {v1 : Int32} {μ : Mu} (h0 : P (a))  : Fr P μ (Mo_drips a v1 μ) := by
  unfold Mo_drips
  refine fr_pF h0 (fun _ => ?_)
  refine fr_ite ?_ ?_
  · skip
    exact fr_Mo_drips_14 _ _ _ _
  · skip
    refine fr_cl (fr_Mo_isIn) (fun _ _ => ?_)
    refine fr_ite ?_ ?_
    · skip
      exact fr_some
    · skip
      exact fr_Mo_drips_80 _ _ _ _
theorem fr_Mo_emits {P : Nat → Prop} {a : Nat} {v1 : Int32} {v2 : Int32} {μ : Mu} (h0 : P (a + 12)) (h1 : P (a + 13)) (h2 : P (a))  : Fr P μ (Mo_emits a v1 v2 μ) := by
  unfold Mo_emits
  refine fr_gF (fun _ => ?_)
  refine fr_stA h0 (fun _ => ?_)
  refine fr_gF (fun _ => ?_)
  refine fr_stA h1 (fun _ => ?_)
  refine fr_gF (fun _ => ?_)
  refine fr_pF h2 (fun _ => ?_)
  exact fr_some
theorem fr_Mo_end {P : Nat → Prop} {a : Nat} {v1 : Int32} {μ : Mu} (h0 : P (a))  : Fr P μ (Mo_end a v1 μ) := by
  unfold Mo_end
  refine fr_pF h0 (fun _ => ?_)
  refine fr_gF (fun _ => ?_)
  refine fr_cl (fr_Mo_isIn) (fun _ _ => ?_)
  refine fr_ite ?_ ?_
  · skip
    exact fr_some
  · skip
    refine fr_pF h0 (fun _ => ?_)
    exact fr_some
theorem fr_Mo_endsThought_2b {P : Nat → Prop} {a : Nat} {kb2 : Int32 → Mu → Option (Unit × Mu)} {v1 : Int32} {μ : Mu} (h0 : P (a)) (h1 : P (a + 1)) (h_kb2 : ∀ (w0 : Int32) (μ : Mu), Fr P μ (kb2 w0 μ)) : Fr P μ (Mo_endsThought_2b a kb2 v1 μ) := by
  unfold Mo_endsThought_2b
  refine fr_ite ?_ ?_
  · skip
    refine fr_zg ?_
    refine fr_pF h0 (fun _ => ?_)
    exact fr_some
  · skip
    refine fr_ldA (fun _ => ?_)
    refine fr_stA h1 (fun _ => ?_)
    exact h_kb2 _ _
theorem fr_Mo_endsThought_2 {P : Nat → Prop} {a : Nat} (h0 : P (a)) (h1 : P (a + 1))  : ∀ (fu : Nat) (w0 : Int32) (μ : Mu), Fr P μ (Mo_endsThought_2 a fu w0 μ) := by
  intro fu
  induction fu with
  | zero => intros; exact fr_none
  | succ fu ih => intros; exact fr_Mo_endsThought_2b (a := a) h0 h1  ih
theorem fr_Mo_endsThought {P : Nat → Prop} {a : Nat} {μ : Mu} (h0 : P (a)) (h1 : P (a + 1))  : Fr P μ (Mo_endsThought a μ) := by
  unfold Mo_endsThought
  exact fr_Mo_endsThought_2 h0 h1 _ _ _
theorem fr_Mo_errs {P : Nat → Prop} {a : Nat} {v1 : Int32} {μ : Mu} (h0 : P (a))  : Fr P μ (Mo_errs a v1 μ) := by
  unfold Mo_errs
  refine fr_pF h0 (fun _ => ?_)
  refine fr_gF (fun _ => ?_)
  refine fr_pF h0 (fun _ => ?_)
  exact fr_some
theorem fr_Mo_fault {P : Nat → Prop} {a : Nat} {v1 : Int32} {μ : Mu} (h0 : P (a))  : Fr P μ (Mo_fault a v1 μ) := by
  unfold Mo_fault
  refine fr_pF h0 (fun _ => ?_)
  refine fr_ite ?_ ?_
  · skip
    refine fr_gF (fun _ => ?_)
    exact fr_some
  · skip
    refine fr_ite ?_ ?_
    · skip
      refine fr_gF (fun _ => ?_)
      exact fr_some
    · skip
      exact fr_some
theorem fr_Mo_types_3b {P : Nat → Prop} {a : Nat} {kb3 : Int32 → Mu → Option (Unit × Mu)} {v1 : Int32} {v2 : Int32} {μ : Mu} (h0 : P (a + 5)) (h1 : P (a)) (h_kb3 : ∀ (w0 : Int32) (μ : Mu), Fr P μ (kb3 w0 μ)) : Fr P μ (Mo_types_3b a kb3 v1 v2 μ) := by
  unfold Mo_types_3b
  refine fr_ite ?_ ?_
  · skip
    exact fr_some
  · skip
    refine fr_gF (fun _ => ?_)
    refine fr_stA h0 (fun _ => ?_)
    refine fr_gF (fun _ => ?_)
    refine fr_pF h1 (fun _ => ?_)
    exact h_kb3 _ _
theorem fr_Mo_types_3 {P : Nat → Prop} {a : Nat} {v1 : Int32} (h0 : P (a + 5)) (h1 : P (a))  : ∀ (fu : Nat) (w0 : Int32) (μ : Mu), Fr P μ (Mo_types_3 a v1 fu w0 μ) := by
  intro fu
  induction fu with
  | zero => intros; exact fr_none
  | succ fu ih => intros; exact fr_Mo_types_3b (a := a) (v1 := v1) h0 h1  ih
theorem fr_Mo_types {P : Nat → Prop} {a : Nat} {v1 : Int32} {μ : Mu} (h0 : P (a + 5)) (h1 : P (a))  : Fr P μ (Mo_types a v1 μ) := by
  unfold Mo_types
  exact fr_Mo_types_3 h0 h1 _ _ _
theorem fr_Mo_feed {P : Nat → Prop} {a : Nat} {v1 : Int32} {v2 : Int32} {v3 : Int32} {v4 : Int32} {v5 : Int32} {μ : Mu} (h0 : P (a)) (h1 : P (a + 5))  : Fr P μ (Mo_feed a v1 v2 v3 v4 v5 μ) := by
  unfold Mo_feed
  refine fr_pF h0 (fun _ => ?_)
  refine fr_gF (fun _ => ?_)
  refine fr_ite ?_ ?_
  · skip
    refine fr_cl (fr_Mo_types h1 h0) (fun _ _ => ?_)
    refine fr_cl (fr_Mo_types h1 h0) (fun _ _ => ?_)
    refine fr_cl (fr_Mo_types h1 h0) (fun _ _ => ?_)
    refine fr_cl (fr_Mo_types h1 h0) (fun _ _ => ?_)
    refine fr_cl (fr_Mo_types h1 h0) (fun _ _ => ?_)
    refine fr_gF (fun _ => ?_)
    exact fr_some
  · skip
    exact fr_some
theorem fr_Mo_goodTaking_26 {P : Nat → Prop} {a : Nat} {kb2 : Int32 → Mu → Option (Int32 × Mu)} {v1 : Int32} {v2 : Int32} {μ : Mu}  (h_kb2 : ∀ (w0 : Int32) (μ : Mu), Fr P μ (kb2 w0 μ)) : Fr P μ (Mo_goodTaking_26 a kb2 v1 v2 μ) := by
  unfold Mo_goodTaking_26
  exact h_kb2 _ _
theorem fr_Mo_goodTaking_2b {P : Nat → Prop} {a : Nat} {kb2 : Int32 → Mu → Option (Int32 × Mu)} {v1 : Int32} {v2 : Int32} {μ : Mu}  (h_kb2 : ∀ (w0 : Int32) (μ : Mu), Fr P μ (kb2 w0 μ)) : Fr P μ (Mo_goodTaking_2b a kb2 v1 v2 μ) := by
  unfold Mo_goodTaking_2b
  refine fr_ite ?_ ?_
  · skip
    exact fr_some
  · skip
    refine fr_nz ?_
    refine fr_ite ?_ ?_
    · skip
      refine fr_ldA (fun _ => ?_)
      refine fr_ite ?_ ?_
      · skip
        exact fr_some
      · skip
        exact fr_Mo_goodTaking_26  h_kb2
    · skip
      exact fr_Mo_goodTaking_26  h_kb2
theorem fr_Mo_goodTaking_2 {P : Nat → Prop} {a : Nat} {v1 : Int32}   : ∀ (fu : Nat) (w0 : Int32) (μ : Mu), Fr P μ (Mo_goodTaking_2 a v1 fu w0 μ) := by
  intro fu
  induction fu with
  | zero => intros; exact fr_none
  | succ fu ih => intros; exact fr_Mo_goodTaking_2b (a := a) (v1 := v1)   ih
theorem fr_Mo_goodTaking {P : Nat → Prop} {a : Nat} {v1 : Int32} {μ : Mu}   : Fr P μ (Mo_goodTaking a v1 μ) := by
  unfold Mo_goodTaking
  exact fr_Mo_goodTaking_2 _ _ _
theorem fr_Mo_game_61 {P : Nat → Prop} {a : Nat} {kb34 : Int32 → Int32 → Mu → Option (Int32 × Mu)} {v1 : Int32} {v2 : Int32} {v3 : Int32} {v4 : Int32} {s0 : Int32} {s1 : Int32} {μ : Mu} (h0 : P (a + 38)) (h_kb34 : ∀ (w0 : Int32) (w1 : Int32) (μ : Mu), Fr P μ (kb34 w0 w1 μ)) : Fr P μ (Mo_game_61 a kb34 v1 v2 v3 v4 s0 s1 μ) := by
  unfold Mo_game_61
  refine fr_stA h0 (fun _ => ?_)
  refine fr_ldA (fun _ => ?_)
  exact h_kb34 _ _ _
theorem fr_Mo_game_34b {P : Nat → Prop} {a : Nat} {kb34 : Int32 → Int32 → Mu → Option (Int32 × Mu)} {v1 : Int32} {v2 : Int32} {v3 : Int32} {v4 : Int32} {μ : Mu} (h0 : P (a + 38)) (h_kb34 : ∀ (w0 : Int32) (w1 : Int32) (μ : Mu), Fr P μ (kb34 w0 w1 μ)) : Fr P μ (Mo_game_34b a kb34 v1 v2 v3 v4 μ) := by
  unfold Mo_game_34b
  refine fr_ite ?_ ?_
  · skip
    refine fr_ite ?_ ?_
    · skip
      refine fr_ldA (fun _ => ?_)
      exact fr_some
    · skip
      refine fr_ite ?_ ?_
      · skip
        refine fr_cl (fr_Mo_goodTaking) (fun _ _ => ?_)
        exact fr_some
      · skip
        exact fr_some
  · skip
    refine fr_cl (fr_Mo_goodTaking) (fun _ _ => ?_)
    refine fr_ite ?_ ?_
    · skip
      exact fr_Mo_game_61 h0 h_kb34
    · skip
      exact fr_Mo_game_61 h0 h_kb34
theorem fr_Mo_game_34 {P : Nat → Prop} {a : Nat} {v1 : Int32} {v2 : Int32} (h0 : P (a + 38))  : ∀ (fu : Nat) (w0 : Int32) (w1 : Int32) (μ : Mu), Fr P μ (Mo_game_34 a v1 v2 fu w0 w1 μ) := by
  intro fu
  induction fu with
  | zero => intros; exact fr_none
  | succ fu ih => intros; exact fr_Mo_game_34b (a := a) (v1 := v1) (v2 := v2) h0  ih
theorem fr_Mo_game {P : Nat → Prop} {a : Nat} {v1 : Int32} {v2 : Int32} {μ : Mu} (h0 : P (a)) (h1 : P (a + 38))  : Fr P μ (Mo_game a v1 v2 μ) := by
  unfold Mo_game
  refine fr_pF h0 (fun _ => ?_)
  refine fr_cl (fr_Mo_isIn) (fun _ _ => ?_)
  refine fr_ite ?_ ?_
  · skip
    exact fr_some
  · skip
    refine fr_cl (fr_Mo_isIn) (fun _ _ => ?_)
    refine fr_ite ?_ ?_
    · skip
      exact fr_some
    · skip
      exact fr_Mo_game_34 h1 _ _ _ _
theorem fr_Mo_thinks_2b {P : Nat → Prop} {a : Nat} {kb2 : Int32 → Mu → Option (Unit × Mu)} {v1 : Int32} {μ : Mu} (h0 : P (a)) (h1 : P (a + 3)) (h_kb2 : ∀ (w0 : Int32) (μ : Mu), Fr P μ (kb2 w0 μ)) : Fr P μ (Mo_thinks_2b a kb2 v1 μ) := by
  unfold Mo_thinks_2b
  refine fr_ite ?_ ?_
  · skip
    refine fr_zg ?_
    refine fr_pF h0 (fun _ => ?_)
    exact fr_some
  · skip
    refine fr_ldA (fun _ => ?_)
    refine fr_stA h1 (fun _ => ?_)
    exact h_kb2 _ _
theorem fr_Mo_thinks_2 {P : Nat → Prop} {a : Nat} (h0 : P (a)) (h1 : P (a + 3))  : ∀ (fu : Nat) (w0 : Int32) (μ : Mu), Fr P μ (Mo_thinks_2 a fu w0 μ) := by
  intro fu
  induction fu with
  | zero => intros; exact fr_none
  | succ fu ih => intros; exact fr_Mo_thinks_2b (a := a) h0 h1  ih
theorem fr_Mo_thinks {P : Nat → Prop} {a : Nat} {μ : Mu} (h0 : P (a)) (h1 : P (a + 3))  : Fr P μ (Mo_thinks a μ) := by
  unfold Mo_thinks
  exact fr_Mo_thinks_2 h0 h1 _ _ _
theorem fr_Mo_sumOf_4b {P : Nat → Prop} {a : Nat} {kb4 : Int32 → Int32 → Mu → Option (Int32 × Mu)} {v1 : Int32} {v2 : Int32} {v3 : Int32} {μ : Mu}  (h_kb4 : ∀ (w0 : Int32) (w1 : Int32) (μ : Mu), Fr P μ (kb4 w0 w1 μ)) : Fr P μ (Mo_sumOf_4b a kb4 v1 v2 v3 μ) := by
  unfold Mo_sumOf_4b
  refine fr_gF (fun _ => ?_)
  refine fr_ite ?_ ?_
  · skip
    exact fr_some
  · skip
    refine fr_ldA (fun _ => ?_)
    exact h_kb4 _ _ _
theorem fr_Mo_sumOf_4 {P : Nat → Prop} {a : Nat} {v1 : Int32}   : ∀ (fu : Nat) (w0 : Int32) (w1 : Int32) (μ : Mu), Fr P μ (Mo_sumOf_4 a v1 fu w0 w1 μ) := by
  intro fu
  induction fu with
  | zero => intros; exact fr_none
  | succ fu ih => intros; exact fr_Mo_sumOf_4b (a := a) (v1 := v1)   ih
theorem fr_Mo_sumOf {P : Nat → Prop} {a : Nat} {v1 : Int32} {μ : Mu}   : Fr P μ (Mo_sumOf a v1 μ) := by
  unfold Mo_sumOf
  exact fr_Mo_sumOf_4 _ _ _ _
theorem fr_Mo_goes_97 {P : Nat → Prop} {a : Nat} {s0 : Int32} {μ : Mu} (h0 : P (a)) (h1 : P (a + 1))  : Fr P μ (Mo_goes_97 a s0 μ) := by
  unfold Mo_goes_97
  refine fr_cl (fr_Mo_endsThought h0 h1) (fun _ _ => ?_)
  exact fr_some
theorem fr_Mo_goes_34b {P : Nat → Prop} {a : Nat} {kb34 : Int32 → Mu → Option (Int32 × Mu)} {v1 : Int32} {v2 : Int32} {v3 : Int32} {μ : Mu} (h0 : P (a)) (h1 : P (a + 1)) (h2 : P (a + 19)) (h3 : P (a + 20)) (h4 : P (a + 4)) (h5 : P (a + 21)) (h_kb34 : ∀ (w0 : Int32) (μ : Mu), Fr P μ (kb34 w0 μ)) : Fr P μ (Mo_goes_34b a kb34 v1 v2 v3 μ) := by
  unfold Mo_goes_34b
  refine fr_ite ?_ ?_
  · skip
    refine fr_ite ?_ ?_
    · skip
      refine fr_cl (fr_Mo_sumOf) (fun _ _ => ?_)
      exact fr_Mo_goes_97 h0 h1
    · skip
      refine fr_ite ?_ ?_
      · skip
        refine fr_ldA (fun _ => ?_)
        exact fr_Mo_goes_97 h0 h1
      · skip
        refine fr_ite ?_ ?_
        · skip
          refine fr_cl (fr_Mo_sumOf) (fun _ _ => ?_)
          exact fr_Mo_goes_97 h0 h1
        · skip
          refine fr_cl (fr_Mo_sumOf) (fun _ _ => ?_)
          exact fr_Mo_goes_97 h0 h1
  · skip
    refine fr_cl (fr_Mo_goesBy h1 h2 h3 h4 h5) (fun _ _ => ?_)
    exact h_kb34 _ _
theorem fr_Mo_goes_34 {P : Nat → Prop} {a : Nat} {v1 : Int32} {v2 : Int32} (h0 : P (a)) (h1 : P (a + 1)) (h2 : P (a + 19)) (h3 : P (a + 20)) (h4 : P (a + 4)) (h5 : P (a + 21))  : ∀ (fu : Nat) (w0 : Int32) (μ : Mu), Fr P μ (Mo_goes_34 a v1 v2 fu w0 μ) := by
  intro fu
  induction fu with
  | zero => intros; exact fr_none
  | succ fu ih => intros; exact fr_Mo_goes_34b (a := a) (v1 := v1) (v2 := v2) h0 h1 h2 h3 h4 h5  ih
theorem fr_Mo_goes {P : Nat → Prop} {a : Nat} {v1 : Int32} {v2 : Int32} {μ : Mu} (h0 : P (a)) (h1 : P (a + 3)) (h2 : P (a + 1)) (h3 : P (a + 19)) (h4 : P (a + 20)) (h5 : P (a + 4)) (h6 : P (a + 21))  : Fr P μ (Mo_goes a v1 v2 μ) := by
  unfold Mo_goes
  refine fr_pF h0 (fun _ => ?_)
  refine fr_cl (fr_Mo_isIn) (fun _ _ => ?_)
  refine fr_ite ?_ ?_
  · skip
    exact fr_some
  · skip
    refine fr_cl (fr_Mo_isIn) (fun _ _ => ?_)
    refine fr_ite ?_ ?_
    · skip
      exact fr_some
    · skip
      refine fr_cl (fr_Mo_thinks h0 h1) (fun _ _ => ?_)
      exact fr_Mo_goes_34 h0 h2 h3 h4 h5 h6 _ _ _
theorem fr_Mo_heap {P : Nat → Prop} {a : Nat} {v1 : Int32} {μ : Mu} (h0 : P (a)) (h1 : P (a + 36))  : Fr P μ (Mo_heap a v1 μ) := by
  unfold Mo_heap
  refine fr_pF h0 (fun _ => ?_)
  refine fr_ite ?_ ?_
  · skip
    refine fr_pF h0 (fun _ => ?_)
    exact fr_some
  · skip
    refine fr_cl (fr_Mo_isIn) (fun _ _ => ?_)
    refine fr_ite ?_ ?_
    · skip
      exact fr_some
    · skip
      refine fr_gF (fun _ => ?_)
      refine fr_ite ?_ ?_
      · skip
        exact fr_some
      · skip
        refine fr_gF (fun _ => ?_)
        refine fr_stA h1 (fun _ => ?_)
        refine fr_gF (fun _ => ?_)
        refine fr_pF h0 (fun _ => ?_)
        refine fr_gF (fun _ => ?_)
        exact fr_some
theorem fr_Mo_steepPlace_33 {P : Nat → Prop} {a : Nat} {kb7 : Int32 → Mu → Option (Int32 × Mu)} {v1 : Int32} {s0 : Int32} {s1 : Int32} {μ : Mu}  (h_kb7 : ∀ (w0 : Int32) (μ : Mu), Fr P μ (kb7 w0 μ)) : Fr P μ (Mo_steepPlace_33 a kb7 v1 s0 s1 μ) := by
  unfold Mo_steepPlace_33
  refine fr_ite ?_ ?_
  · skip
    exact h_kb7 _ _
  · skip
    exact fr_some
theorem fr_Mo_steepPlace_7b {P : Nat → Prop} {a : Nat} {kb7 : Int32 → Mu → Option (Int32 × Mu)} {v1 : Int32} {μ : Mu}  (h_kb7 : ∀ (w0 : Int32) (μ : Mu), Fr P μ (kb7 w0 μ)) : Fr P μ (Mo_steepPlace_7b a kb7 v1 μ) := by
  unfold Mo_steepPlace_7b
  refine fr_ite ?_ ?_
  · skip
    exact fr_some
  · skip
    refine fr_ldA (fun _ => ?_)
    refine fr_ite ?_ ?_
    · skip
      exact fr_Mo_steepPlace_33  h_kb7
    · skip
      refine fr_ldA (fun _ => ?_)
      exact fr_Mo_steepPlace_33  h_kb7
theorem fr_Mo_steepPlace_7 {P : Nat → Prop} {a : Nat}   : ∀ (fu : Nat) (w0 : Int32) (μ : Mu), Fr P μ (Mo_steepPlace_7 a fu w0 μ) := by
  intro fu
  induction fu with
  | zero => intros; exact fr_none
  | succ fu ih => intros; exact fr_Mo_steepPlace_7b (a := a)   ih
theorem fr_Mo_steepPlace {P : Nat → Prop} {a : Nat} {μ : Mu}   : Fr P μ (Mo_steepPlace a μ) := by
  unfold Mo_steepPlace
  refine fr_gF (fun _ => ?_)
  exact fr_Mo_steepPlace_7 _ _ _
theorem fr_Mo_heaped_96 {P : Nat → Prop} {a : Nat} {kb55 : Int32 → Int32 → Mu → Option (Int32 × Mu)} {v1 : Int32} {v2 : Int32} {μ : Mu}  (h_kb55 : ∀ (w0 : Int32) (w1 : Int32) (μ : Mu), Fr P μ (kb55 w0 w1 μ)) : Fr P μ (Mo_heaped_96 a kb55 v1 v2 μ) := by
  unfold Mo_heaped_96
  refine fr_cl (fr_Mo_steepPlace) (fun _ _ => ?_)
  exact h_kb55 _ _ _
theorem fr_Mo_heaped_55b {P : Nat → Prop} {a : Nat} {kb55 : Int32 → Int32 → Mu → Option (Int32 × Mu)} {v1 : Int32} {v2 : Int32} {v3 : Int32} {μ : Mu} (h0 : P (a + 37)) (h_kb55 : ∀ (w0 : Int32) (w1 : Int32) (μ : Mu), Fr P μ (kb55 w0 w1 μ)) : Fr P μ (Mo_heaped_55b a kb55 v1 v2 v3 μ) := by
  unfold Mo_heaped_55b
  refine fr_ite ?_ ?_
  · skip
    refine fr_ite ?_ ?_
    · skip
      exact fr_some
    · skip
      refine fr_ldA (fun _ => ?_)
      exact fr_some
  · skip
    refine fr_ldA (fun _ => ?_)
    refine fr_stA h0 (fun _ => ?_)
    refine fr_ite ?_ ?_
    · skip
      exact fr_Mo_heaped_96  h_kb55
    · skip
      refine fr_ldA (fun _ => ?_)
      refine fr_stA h0 (fun _ => ?_)
      exact fr_Mo_heaped_96  h_kb55
theorem fr_Mo_heaped_55 {P : Nat → Prop} {a : Nat} {v1 : Int32} (h0 : P (a + 37))  : ∀ (fu : Nat) (w0 : Int32) (w1 : Int32) (μ : Mu), Fr P μ (Mo_heaped_55 a v1 fu w0 w1 μ) := by
  intro fu
  induction fu with
  | zero => intros; exact fr_none
  | succ fu ih => intros; exact fr_Mo_heaped_55b (a := a) (v1 := v1) h0  ih
theorem fr_Mo_heaped_22b {P : Nat → Prop} {a : Nat} {kb22 : Int32 → Mu → Option (Int32 × Mu)} {v1 : Int32} {v2 : Int32} {μ : Mu} (h0 : P (a + 37)) (h_kb22 : ∀ (w0 : Int32) (μ : Mu), Fr P μ (kb22 w0 μ)) : Fr P μ (Mo_heaped_22b a kb22 v1 v2 μ) := by
  unfold Mo_heaped_22b
  refine fr_gF (fun _ => ?_)
  refine fr_ite ?_ ?_
  · skip
    refine fr_cl (fr_Mo_steepPlace) (fun _ _ => ?_)
    exact fr_Mo_heaped_55 h0 _ _ _ _
  · skip
    refine fr_ldA (fun _ => ?_)
    refine fr_stA h0 (fun _ => ?_)
    exact h_kb22 _ _
theorem fr_Mo_heaped_22 {P : Nat → Prop} {a : Nat} {v1 : Int32} (h0 : P (a + 37))  : ∀ (fu : Nat) (w0 : Int32) (μ : Mu), Fr P μ (Mo_heaped_22 a v1 fu w0 μ) := by
  intro fu
  induction fu with
  | zero => intros; exact fr_none
  | succ fu ih => intros; exact fr_Mo_heaped_22b (a := a) (v1 := v1) h0  ih
theorem fr_Mo_heaped {P : Nat → Prop} {a : Nat} {v1 : Int32} {μ : Mu} (h0 : P (a)) (h1 : P (a + 37))  : Fr P μ (Mo_heaped a v1 μ) := by
  unfold Mo_heaped
  refine fr_pF h0 (fun _ => ?_)
  refine fr_gF (fun _ => ?_)
  refine fr_cl (fr_Mo_isIn) (fun _ _ => ?_)
  refine fr_ite ?_ ?_
  · skip
    exact fr_some
  · skip
    exact fr_Mo_heaped_22 h1 _ _ _
theorem fr_Mo_high_72 {P : Nat → Prop} {a : Nat} {v3 : Int32} {μ : Mu} (h0 : P (a)) (h1 : P (a + 1))  : Fr P μ (Mo_high_72 a v3 μ) := by
  unfold Mo_high_72
  refine fr_cl (fr_Mo_endsThought h0 h1) (fun _ _ => ?_)
  refine fr_ite ?_ ?_
  · skip
    exact fr_some
  · skip
    exact fr_some
theorem fr_Mo_high_41b {P : Nat → Prop} {a : Nat} {kb41 : Int32 → Mu → Option (Int32 × Mu)} {v1 : Int32} {v2 : Int32} {v3 : Int32} {μ : Mu} (h0 : P (a)) (h1 : P (a + 1)) (h2 : P (a + 19)) (h3 : P (a + 20)) (h4 : P (a + 4)) (h5 : P (a + 21)) (h_kb41 : ∀ (w0 : Int32) (μ : Mu), Fr P μ (kb41 w0 μ)) : Fr P μ (Mo_high_41b a kb41 v1 v2 v3 μ) := by
  unfold Mo_high_41b
  refine fr_ite ?_ ?_
  · skip
    exact fr_Mo_high_72 h0 h1
  · skip
    refine fr_ldA (fun _ => ?_)
    refine fr_ite ?_ ?_
    · skip
      exact fr_Mo_high_72 h0 h1
    · skip
      refine fr_cl (fr_Mo_goesBy h1 h2 h3 h4 h5) (fun _ _ => ?_)
      exact h_kb41 _ _
theorem fr_Mo_high_41 {P : Nat → Prop} {a : Nat} {v1 : Int32} {v2 : Int32} (h0 : P (a)) (h1 : P (a + 1)) (h2 : P (a + 19)) (h3 : P (a + 20)) (h4 : P (a + 4)) (h5 : P (a + 21))  : ∀ (fu : Nat) (w0 : Int32) (μ : Mu), Fr P μ (Mo_high_41 a v1 v2 fu w0 μ) := by
  intro fu
  induction fu with
  | zero => intros; exact fr_none
  | succ fu ih => intros; exact fr_Mo_high_41b (a := a) (v1 := v1) (v2 := v2) h0 h1 h2 h3 h4 h5  ih
theorem fr_Mo_high {P : Nat → Prop} {a : Nat} {v1 : Int32} {v2 : Int32} {μ : Mu} (h0 : P (a)) (h1 : P (a + 3)) (h2 : P (a + 1)) (h3 : P (a + 19)) (h4 : P (a + 20)) (h5 : P (a + 4)) (h6 : P (a + 21))  : Fr P μ (Mo_high a v1 v2 μ) := by
  unfold Mo_high
  refine fr_pF h0 (fun _ => ?_)
  refine fr_cl (fr_Mo_isPerson) (fun _ _ => ?_)
  refine fr_ite ?_ ?_
  · skip
    exact fr_some
  · skip
    refine fr_cl (fr_Mo_isAlive) (fun _ _ => ?_)
    refine fr_ite ?_ ?_
    · skip
      exact fr_some
    · skip
      refine fr_cl (fr_Mo_isIn) (fun _ _ => ?_)
      refine fr_ite ?_ ?_
      · skip
        exact fr_some
      · skip
        refine fr_cl (fr_Mo_thinks h0 h1) (fun _ _ => ?_)
        exact fr_Mo_high_41 h0 h2 h3 h4 h5 h6 _ _ _
theorem fr_Mo_isBetween {P : Nat → Prop} {a : Nat} {v1 : Int32} {v2 : Int32} {v3 : Int32} {μ : Mu}   : Fr P μ (Mo_isBetween a v1 v2 v3 μ) := by
  unfold Mo_isBetween
  refine fr_ldA (fun _ => ?_)
  refine fr_ldA (fun _ => ?_)
  refine fr_ldA (fun _ => ?_)
  refine fr_ldA (fun _ => ?_)
  refine fr_ldA (fun _ => ?_)
  refine fr_ldA (fun _ => ?_)
  refine fr_ldA (fun _ => ?_)
  refine fr_ldA (fun _ => ?_)
  refine fr_cl (fr_Mo_areaOf) (fun _ _ => ?_)
  refine fr_ite ?_ ?_
  · skip
    refine fr_ite ?_ ?_
    · skip
      exact fr_some
    · skip
      exact fr_some
  · skip
    exact fr_some
theorem fr_Mo_isEdge_42 {P : Nat → Prop} {a : Nat} {kb2 : Int32 → Mu → Option (Int32 × Mu)} {v1 : Int32} {v2 : Int32} {v3 : Int32} {μ : Mu}  (h_kb2 : ∀ (w0 : Int32) (μ : Mu), Fr P μ (kb2 w0 μ)) : Fr P μ (Mo_isEdge_42 a kb2 v1 v2 v3 μ) := by
  unfold Mo_isEdge_42
  exact h_kb2 _ _
theorem fr_Mo_isEdge_2b {P : Nat → Prop} {a : Nat} {kb2 : Int32 → Mu → Option (Int32 × Mu)} {v1 : Int32} {v2 : Int32} {v3 : Int32} {μ : Mu}  (h_kb2 : ∀ (w0 : Int32) (μ : Mu), Fr P μ (kb2 w0 μ)) : Fr P μ (Mo_isEdge_2b a kb2 v1 v2 v3 μ) := by
  unfold Mo_isEdge_2b
  refine fr_gF (fun _ => ?_)
  refine fr_ite ?_ ?_
  · skip
    exact fr_some
  · skip
    refine fr_ite ?_ ?_
    · skip
      exact fr_Mo_isEdge_42  h_kb2
    · skip
      refine fr_ite ?_ ?_
      · skip
        exact fr_Mo_isEdge_42  h_kb2
      · skip
        refine fr_cl (fr_Mo_areaOf) (fun _ _ => ?_)
        refine fr_ite ?_ ?_
        · skip
          exact fr_Mo_isEdge_42  h_kb2
        · skip
          refine fr_cl (fr_Mo_isBetween) (fun _ _ => ?_)
          refine fr_ite ?_ ?_
          · skip
            exact fr_some
          · skip
            exact fr_Mo_isEdge_42  h_kb2
theorem fr_Mo_isEdge_2 {P : Nat → Prop} {a : Nat} {v1 : Int32} {v2 : Int32}   : ∀ (fu : Nat) (w0 : Int32) (μ : Mu), Fr P μ (Mo_isEdge_2 a v1 v2 fu w0 μ) := by
  intro fu
  induction fu with
  | zero => intros; exact fr_none
  | succ fu ih => intros; exact fr_Mo_isEdge_2b (a := a) (v1 := v1) (v2 := v2)   ih
theorem fr_Mo_isEdge {P : Nat → Prop} {a : Nat} {v1 : Int32} {v2 : Int32} {μ : Mu}   : Fr P μ (Mo_isEdge a v1 v2 μ) := by
  unfold Mo_isEdge
  exact fr_Mo_isEdge_2 _ _ _
theorem fr_Mo_hull_104 {P : Nat → Prop} {a : Nat} {kb24 : Int32 → Int32 → Int32 → Mu → Option (Int32 × Mu)} {kb36 : Int32 → Int32 → Int32 → Mu → Option (Int32 × Mu)} {v1 : Int32} {v2 : Int32} {v3 : Int32} {v4 : Int32} {v5 : Int32} {μ : Mu}  (h_kb24 : ∀ (w0 : Int32) (w1 : Int32) (w2 : Int32) (μ : Mu), Fr P μ (kb24 w0 w1 w2 μ)) (h_kb36 : ∀ (w0 : Int32) (w1 : Int32) (w2 : Int32) (μ : Mu), Fr P μ (kb36 w0 w1 w2 μ)) : Fr P μ (Mo_hull_104 a kb24 kb36 v1 v2 v3 v4 v5 μ) := by
  unfold Mo_hull_104
  exact h_kb36 _ _ _ _
theorem fr_Mo_hull_36b {P : Nat → Prop} {a : Nat} {kb24 : Int32 → Int32 → Int32 → Mu → Option (Int32 × Mu)} {kb36 : Int32 → Int32 → Int32 → Mu → Option (Int32 × Mu)} {v1 : Int32} {v4 : Int32} {v2 : Int32} {v3 : Int32} {v5 : Int32} {μ : Mu}  (h_kb24 : ∀ (w0 : Int32) (w1 : Int32) (w2 : Int32) (μ : Mu), Fr P μ (kb24 w0 w1 w2 μ)) (h_kb36 : ∀ (w0 : Int32) (w1 : Int32) (w2 : Int32) (μ : Mu), Fr P μ (kb36 w0 w1 w2 μ)) : Fr P μ (Mo_hull_36b a kb24 kb36 v1 v4 v2 v3 v5 μ) := by
  unfold Mo_hull_36b
  refine fr_gF (fun _ => ?_)
  refine fr_ite ?_ ?_
  · skip
    exact h_kb24 _ _ _ _
  · skip
    refine fr_ite ?_ ?_
    · skip
      exact fr_Mo_hull_104  h_kb24 h_kb36
    · skip
      refine fr_cl (fr_Mo_isEdge) (fun _ _ => ?_)
      refine fr_ite ?_ ?_
      · skip
        exact fr_Mo_hull_104  h_kb24 h_kb36
      · skip
        refine fr_ldA (fun _ => ?_)
        refine fr_ldA (fun _ => ?_)
        refine fr_ldA (fun _ => ?_)
        refine fr_ldA (fun _ => ?_)
        exact fr_Mo_hull_104  h_kb24 h_kb36
theorem fr_Mo_hull_36 {P : Nat → Prop} {a : Nat} {kb24 : Int32 → Int32 → Int32 → Mu → Option (Int32 × Mu)} {v1 : Int32} {v4 : Int32}  (h_kb24 : ∀ (w0 : Int32) (w1 : Int32) (w2 : Int32) (μ : Mu), Fr P μ (kb24 w0 w1 w2 μ)) : ∀ (fu : Nat) (w0 : Int32) (w1 : Int32) (w2 : Int32) (μ : Mu), Fr P μ (Mo_hull_36 a kb24 v1 v4 fu w0 w1 w2 μ) := by
  intro fu
  induction fu with
  | zero => intros; exact fr_none
  | succ fu ih => intros; exact fr_Mo_hull_36b (a := a) (kb24 := kb24) (v1 := v1) (v4 := v4)  h_kb24 ih
theorem fr_Mo_hull_24b {P : Nat → Prop} {a : Nat} {kb24 : Int32 → Int32 → Int32 → Mu → Option (Int32 × Mu)} {v1 : Int32} {v2 : Int32} {v3 : Int32} {v4 : Int32} {μ : Mu}  (h_kb24 : ∀ (w0 : Int32) (w1 : Int32) (w2 : Int32) (μ : Mu), Fr P μ (kb24 w0 w1 w2 μ)) : Fr P μ (Mo_hull_24b a kb24 v1 v2 v3 v4 μ) := by
  unfold Mo_hull_24b
  refine fr_gF (fun _ => ?_)
  refine fr_ite ?_ ?_
  · skip
    refine fr_ite ?_ ?_
    · skip
      exact fr_some
    · skip
      refine fr_gF (fun _ => ?_)
      refine fr_ite ?_ ?_
      · skip
        exact fr_some
      · skip
        exact fr_some
  · skip
    exact fr_Mo_hull_36  h_kb24 _ _ _ _ _
theorem fr_Mo_hull_24 {P : Nat → Prop} {a : Nat} {v1 : Int32}   : ∀ (fu : Nat) (w0 : Int32) (w1 : Int32) (w2 : Int32) (μ : Mu), Fr P μ (Mo_hull_24 a v1 fu w0 w1 w2 μ) := by
  intro fu
  induction fu with
  | zero => intros; exact fr_none
  | succ fu ih => intros; exact fr_Mo_hull_24b (a := a) (v1 := v1)   ih
theorem fr_Mo_hull {P : Nat → Prop} {a : Nat} {v1 : Int32} {μ : Mu} (h0 : P (a))  : Fr P μ (Mo_hull a v1 μ) := by
  unfold Mo_hull
  refine fr_pF h0 (fun _ => ?_)
  refine fr_cl (fr_Mo_isIn) (fun _ _ => ?_)
  refine fr_ite ?_ ?_
  · skip
    exact fr_some
  · skip
    exact fr_Mo_hull_24 _ _ _ _ _
theorem fr_Mo_keeps {P : Nat → Prop} {a : Nat} {v1 : Int32} {μ : Mu} (h0 : P (a)) (h1 : P (a + 39))  : Fr P μ (Mo_keeps a v1 μ) := by
  unfold Mo_keeps
  refine fr_gF (fun _ => ?_)
  refine fr_pF h0 (fun _ => ?_)
  refine fr_gF (fun _ => ?_)
  refine fr_ite ?_ ?_
  · skip
    refine fr_gF (fun _ => ?_)
    refine fr_ldA (fun _ => ?_)
    exact fr_some
  · skip
    refine fr_gF (fun _ => ?_)
    refine fr_stA h1 (fun _ => ?_)
    exact fr_some
theorem fr_Mo_keepsTold_382b {P : Nat → Prop} {a : Nat} {kb382 : Int32 → Mu → Option (Unit × Mu)} {v1 : Int32} {μ : Mu} (h0 : P (a)) (h1 : P (a + 39)) (h2 : P (a + 27)) (h_kb382 : ∀ (w0 : Int32) (μ : Mu), Fr P μ (kb382 w0 μ)) : Fr P μ (Mo_keepsTold_382b a kb382 v1 μ) := by
  unfold Mo_keepsTold_382b
  refine fr_ite ?_ ?_
  · skip
    exact fr_some
  · skip
    refine fr_ldA (fun _ => ?_)
    refine fr_cl (fr_Mo_keeps h0 h1) (fun _ _ => ?_)
    refine fr_stA h2 (fun _ => ?_)
    exact h_kb382 _ _
theorem fr_Mo_keepsTold_382 {P : Nat → Prop} {a : Nat} (h0 : P (a)) (h1 : P (a + 39)) (h2 : P (a + 27))  : ∀ (fu : Nat) (w0 : Int32) (μ : Mu), Fr P μ (Mo_keepsTold_382 a fu w0 μ) := by
  intro fu
  induction fu with
  | zero => intros; exact fr_none
  | succ fu ih => intros; exact fr_Mo_keepsTold_382b (a := a) h0 h1 h2  ih
theorem fr_Mo_keepsTold_320b {P : Nat → Prop} {a : Nat} {kb320 : Int32 → Mu → Option (Unit × Mu)} {v1 : Int32} {μ : Mu} (h0 : P (a)) (h1 : P (a + 39)) (h2 : P (a + 27)) (h3 : P (a + 24)) (h4 : P (a + 29)) (h5 : P (a + 32)) (h_kb320 : ∀ (w0 : Int32) (μ : Mu), Fr P μ (kb320 w0 μ)) : Fr P μ (Mo_keepsTold_320b a kb320 v1 μ) := by
  unfold Mo_keepsTold_320b
  refine fr_ite ?_ ?_
  · skip
    exact fr_Mo_keepsTold_382 h0 h1 h2 _ _ _
  · skip
    refine fr_ldA (fun _ => ?_)
    refine fr_cl (fr_Mo_keeps h0 h1) (fun _ _ => ?_)
    refine fr_stA h3 (fun _ => ?_)
    refine fr_ldA (fun _ => ?_)
    refine fr_cl (fr_Mo_keeps h0 h1) (fun _ _ => ?_)
    refine fr_stA h4 (fun _ => ?_)
    refine fr_ldA (fun _ => ?_)
    refine fr_cl (fr_Mo_keeps h0 h1) (fun _ _ => ?_)
    refine fr_stA h5 (fun _ => ?_)
    exact h_kb320 _ _
theorem fr_Mo_keepsTold_320 {P : Nat → Prop} {a : Nat} (h0 : P (a)) (h1 : P (a + 39)) (h2 : P (a + 27)) (h3 : P (a + 24)) (h4 : P (a + 29)) (h5 : P (a + 32))  : ∀ (fu : Nat) (w0 : Int32) (μ : Mu), Fr P μ (Mo_keepsTold_320 a fu w0 μ) := by
  intro fu
  induction fu with
  | zero => intros; exact fr_none
  | succ fu ih => intros; exact fr_Mo_keepsTold_320b (a := a) h0 h1 h2 h3 h4 h5  ih
theorem fr_Mo_keepsTold_226b {P : Nat → Prop} {a : Nat} {kb226 : Int32 → Mu → Option (Unit × Mu)} {v1 : Int32} {μ : Mu} (h0 : P (a)) (h1 : P (a + 39)) (h2 : P (a + 27)) (h3 : P (a + 24)) (h4 : P (a + 29)) (h5 : P (a + 32)) (h6 : P (a + 22)) (h7 : P (a + 23)) (h8 : P (a + 34)) (h9 : P (a + 35)) (h10 : P (a + 36)) (h_kb226 : ∀ (w0 : Int32) (μ : Mu), Fr P μ (kb226 w0 μ)) : Fr P μ (Mo_keepsTold_226b a kb226 v1 μ) := by
  unfold Mo_keepsTold_226b
  refine fr_ite ?_ ?_
  · skip
    exact fr_Mo_keepsTold_320 h0 h1 h2 h3 h4 h5 _ _ _
  · skip
    refine fr_ldA (fun _ => ?_)
    refine fr_cl (fr_Mo_keeps h0 h1) (fun _ _ => ?_)
    refine fr_stA h6 (fun _ => ?_)
    refine fr_ldA (fun _ => ?_)
    refine fr_cl (fr_Mo_keeps h0 h1) (fun _ _ => ?_)
    refine fr_stA h7 (fun _ => ?_)
    refine fr_ldA (fun _ => ?_)
    refine fr_cl (fr_Mo_keeps h0 h1) (fun _ _ => ?_)
    refine fr_stA h8 (fun _ => ?_)
    refine fr_ldA (fun _ => ?_)
    refine fr_cl (fr_Mo_keeps h0 h1) (fun _ _ => ?_)
    refine fr_stA h9 (fun _ => ?_)
    refine fr_ldA (fun _ => ?_)
    refine fr_cl (fr_Mo_keeps h0 h1) (fun _ _ => ?_)
    refine fr_stA h10 (fun _ => ?_)
    exact h_kb226 _ _
theorem fr_Mo_keepsTold_226 {P : Nat → Prop} {a : Nat} (h0 : P (a)) (h1 : P (a + 39)) (h2 : P (a + 27)) (h3 : P (a + 24)) (h4 : P (a + 29)) (h5 : P (a + 32)) (h6 : P (a + 22)) (h7 : P (a + 23)) (h8 : P (a + 34)) (h9 : P (a + 35)) (h10 : P (a + 36))  : ∀ (fu : Nat) (w0 : Int32) (μ : Mu), Fr P μ (Mo_keepsTold_226 a fu w0 μ) := by
  intro fu
  induction fu with
  | zero => intros; exact fr_none
  | succ fu ih => intros; exact fr_Mo_keepsTold_226b (a := a) h0 h1 h2 h3 h4 h5 h6 h7 h8 h9 h10  ih
theorem fr_Mo_keepsTold_196b {P : Nat → Prop} {a : Nat} {kb196 : Int32 → Mu → Option (Unit × Mu)} {v1 : Int32} {μ : Mu} (h0 : P (a)) (h1 : P (a + 39)) (h2 : P (a + 27)) (h3 : P (a + 24)) (h4 : P (a + 29)) (h5 : P (a + 32)) (h6 : P (a + 22)) (h7 : P (a + 23)) (h8 : P (a + 34)) (h9 : P (a + 35)) (h10 : P (a + 36)) (h11 : P (a + 17)) (h_kb196 : ∀ (w0 : Int32) (μ : Mu), Fr P μ (kb196 w0 μ)) : Fr P μ (Mo_keepsTold_196b a kb196 v1 μ) := by
  unfold Mo_keepsTold_196b
  refine fr_ite ?_ ?_
  · skip
    exact fr_Mo_keepsTold_226 h0 h1 h2 h3 h4 h5 h6 h7 h8 h9 h10 _ _ _
  · skip
    refine fr_ldA (fun _ => ?_)
    refine fr_cl (fr_Mo_keeps h0 h1) (fun _ _ => ?_)
    refine fr_stA h11 (fun _ => ?_)
    exact h_kb196 _ _
theorem fr_Mo_keepsTold_196 {P : Nat → Prop} {a : Nat} (h0 : P (a)) (h1 : P (a + 39)) (h2 : P (a + 27)) (h3 : P (a + 24)) (h4 : P (a + 29)) (h5 : P (a + 32)) (h6 : P (a + 22)) (h7 : P (a + 23)) (h8 : P (a + 34)) (h9 : P (a + 35)) (h10 : P (a + 36)) (h11 : P (a + 17))  : ∀ (fu : Nat) (w0 : Int32) (μ : Mu), Fr P μ (Mo_keepsTold_196 a fu w0 μ) := by
  intro fu
  induction fu with
  | zero => intros; exact fr_none
  | succ fu ih => intros; exact fr_Mo_keepsTold_196b (a := a) h0 h1 h2 h3 h4 h5 h6 h7 h8 h9 h10 h11  ih
theorem fr_Mo_keepsTold_166b {P : Nat → Prop} {a : Nat} {kb166 : Int32 → Mu → Option (Unit × Mu)} {v1 : Int32} {μ : Mu} (h0 : P (a)) (h1 : P (a + 39)) (h2 : P (a + 27)) (h3 : P (a + 24)) (h4 : P (a + 29)) (h5 : P (a + 32)) (h6 : P (a + 22)) (h7 : P (a + 23)) (h8 : P (a + 34)) (h9 : P (a + 35)) (h10 : P (a + 36)) (h11 : P (a + 17)) (h12 : P (a + 18)) (h_kb166 : ∀ (w0 : Int32) (μ : Mu), Fr P μ (kb166 w0 μ)) : Fr P μ (Mo_keepsTold_166b a kb166 v1 μ) := by
  unfold Mo_keepsTold_166b
  refine fr_ite ?_ ?_
  · skip
    exact fr_Mo_keepsTold_196 h0 h1 h2 h3 h4 h5 h6 h7 h8 h9 h10 h11 _ _ _
  · skip
    refine fr_ldA (fun _ => ?_)
    refine fr_cl (fr_Mo_keeps h0 h1) (fun _ _ => ?_)
    refine fr_stA h12 (fun _ => ?_)
    exact h_kb166 _ _
theorem fr_Mo_keepsTold_166 {P : Nat → Prop} {a : Nat} (h0 : P (a)) (h1 : P (a + 39)) (h2 : P (a + 27)) (h3 : P (a + 24)) (h4 : P (a + 29)) (h5 : P (a + 32)) (h6 : P (a + 22)) (h7 : P (a + 23)) (h8 : P (a + 34)) (h9 : P (a + 35)) (h10 : P (a + 36)) (h11 : P (a + 17)) (h12 : P (a + 18))  : ∀ (fu : Nat) (w0 : Int32) (μ : Mu), Fr P μ (Mo_keepsTold_166 a fu w0 μ) := by
  intro fu
  induction fu with
  | zero => intros; exact fr_none
  | succ fu ih => intros; exact fr_Mo_keepsTold_166b (a := a) h0 h1 h2 h3 h4 h5 h6 h7 h8 h9 h10 h11 h12  ih
theorem fr_Mo_keepsTold {P : Nat → Prop} {a : Nat} {μ : Mu} (h0 : P (a)) (h1 : P (a + 39)) (h2 : P (a + 26)) (h3 : P (a + 27)) (h4 : P (a + 24)) (h5 : P (a + 29)) (h6 : P (a + 32)) (h7 : P (a + 22)) (h8 : P (a + 23)) (h9 : P (a + 34)) (h10 : P (a + 35)) (h11 : P (a + 36)) (h12 : P (a + 17)) (h13 : P (a + 18))  : Fr P μ (Mo_keepsTold a μ) := by
  unfold Mo_keepsTold
  refine fr_gF (fun _ => ?_)
  refine fr_cl (fr_Mo_keeps h0 h1) (fun _ _ => ?_)
  refine fr_pF h0 (fun _ => ?_)
  refine fr_gF (fun _ => ?_)
  refine fr_cl (fr_Mo_keeps h0 h1) (fun _ _ => ?_)
  refine fr_pF h0 (fun _ => ?_)
  refine fr_gF (fun _ => ?_)
  refine fr_cl (fr_Mo_keeps h0 h1) (fun _ _ => ?_)
  refine fr_pF h0 (fun _ => ?_)
  refine fr_gF (fun _ => ?_)
  refine fr_cl (fr_Mo_keeps h0 h1) (fun _ _ => ?_)
  refine fr_pF h0 (fun _ => ?_)
  refine fr_gF (fun _ => ?_)
  refine fr_cl (fr_Mo_keeps h0 h1) (fun _ _ => ?_)
  refine fr_pF h0 (fun _ => ?_)
  refine fr_gF (fun _ => ?_)
  refine fr_cl (fr_Mo_keeps h0 h1) (fun _ _ => ?_)
  refine fr_pF h0 (fun _ => ?_)
  refine fr_gF (fun _ => ?_)
  refine fr_cl (fr_Mo_keeps h0 h1) (fun _ _ => ?_)
  refine fr_pF h0 (fun _ => ?_)
  refine fr_gF (fun _ => ?_)
  refine fr_cl (fr_Mo_keeps h0 h1) (fun _ _ => ?_)
  refine fr_pF h0 (fun _ => ?_)
  refine fr_gF (fun _ => ?_)
  refine fr_cl (fr_Mo_keeps h0 h1) (fun _ _ => ?_)
  refine fr_pF h0 (fun _ => ?_)
  refine fr_gF (fun _ => ?_)
  refine fr_cl (fr_Mo_keeps h0 h1) (fun _ _ => ?_)
  refine fr_pF h0 (fun _ => ?_)
  refine fr_gF (fun _ => ?_)
  refine fr_cl (fr_Mo_keeps h0 h1) (fun _ _ => ?_)
  refine fr_pF h0 (fun _ => ?_)
  refine fr_ldA (fun _ => ?_)
  refine fr_cl (fr_Mo_keeps h0 h1) (fun _ _ => ?_)
  refine fr_stA h2 (fun _ => ?_)
  refine fr_ldA (fun _ => ?_)
  refine fr_cl (fr_Mo_keeps h0 h1) (fun _ _ => ?_)
  refine fr_stA h2 (fun _ => ?_)
  exact fr_Mo_keepsTold_166 h0 h1 h3 h4 h5 h6 h7 h8 h9 h10 h11 h12 h13 _ _ _
theorem fr_Mo_keepsLaw_96b {P : Nat → Prop} {a : Nat} {kb96 : Int32 → Mu → Option (Unit × Mu)} {v1 : Int32} {μ : Mu} (h0 : P (a)) (h1 : P (a + 39)) (h2 : P (a + 12)) (h3 : P (a + 13)) (h_kb96 : ∀ (w0 : Int32) (μ : Mu), Fr P μ (kb96 w0 μ)) : Fr P μ (Mo_keepsLaw_96b a kb96 v1 μ) := by
  unfold Mo_keepsLaw_96b
  refine fr_ite ?_ ?_
  · skip
    exact fr_some
  · skip
    refine fr_ldA (fun _ => ?_)
    refine fr_cl (fr_Mo_keeps h0 h1) (fun _ _ => ?_)
    refine fr_stA h2 (fun _ => ?_)
    refine fr_ldA (fun _ => ?_)
    refine fr_cl (fr_Mo_keeps h0 h1) (fun _ _ => ?_)
    refine fr_stA h3 (fun _ => ?_)
    exact h_kb96 _ _
theorem fr_Mo_keepsLaw_96 {P : Nat → Prop} {a : Nat} (h0 : P (a)) (h1 : P (a + 39)) (h2 : P (a + 12)) (h3 : P (a + 13))  : ∀ (fu : Nat) (w0 : Int32) (μ : Mu), Fr P μ (Mo_keepsLaw_96 a fu w0 μ) := by
  intro fu
  induction fu with
  | zero => intros; exact fr_none
  | succ fu ih => intros; exact fr_Mo_keepsLaw_96b (a := a) h0 h1 h2 h3  ih
theorem fr_Mo_keepsLaw_18b {P : Nat → Prop} {a : Nat} {kb18 : Int32 → Mu → Option (Unit × Mu)} {v1 : Int32} {μ : Mu} (h0 : P (a)) (h1 : P (a + 39)) (h2 : P (a + 12)) (h3 : P (a + 13)) (h4 : P (a + 8)) (h5 : P (a + 9)) (h6 : P (a + 10)) (h7 : P (a + 11)) (h_kb18 : ∀ (w0 : Int32) (μ : Mu), Fr P μ (kb18 w0 μ)) : Fr P μ (Mo_keepsLaw_18b a kb18 v1 μ) := by
  unfold Mo_keepsLaw_18b
  refine fr_ite ?_ ?_
  · skip
    exact fr_Mo_keepsLaw_96 h0 h1 h2 h3 _ _ _
  · skip
    refine fr_ldA (fun _ => ?_)
    refine fr_cl (fr_Mo_keeps h0 h1) (fun _ _ => ?_)
    refine fr_stA h4 (fun _ => ?_)
    refine fr_ldA (fun _ => ?_)
    refine fr_cl (fr_Mo_keeps h0 h1) (fun _ _ => ?_)
    refine fr_stA h5 (fun _ => ?_)
    refine fr_ldA (fun _ => ?_)
    refine fr_cl (fr_Mo_keeps h0 h1) (fun _ _ => ?_)
    refine fr_stA h6 (fun _ => ?_)
    refine fr_ldA (fun _ => ?_)
    refine fr_cl (fr_Mo_keeps h0 h1) (fun _ _ => ?_)
    refine fr_stA h7 (fun _ => ?_)
    exact h_kb18 _ _
theorem fr_Mo_keepsLaw_18 {P : Nat → Prop} {a : Nat} (h0 : P (a)) (h1 : P (a + 39)) (h2 : P (a + 12)) (h3 : P (a + 13)) (h4 : P (a + 8)) (h5 : P (a + 9)) (h6 : P (a + 10)) (h7 : P (a + 11))  : ∀ (fu : Nat) (w0 : Int32) (μ : Mu), Fr P μ (Mo_keepsLaw_18 a fu w0 μ) := by
  intro fu
  induction fu with
  | zero => intros; exact fr_none
  | succ fu ih => intros; exact fr_Mo_keepsLaw_18b (a := a) h0 h1 h2 h3 h4 h5 h6 h7  ih
theorem fr_Mo_keepsLaw {P : Nat → Prop} {a : Nat} {μ : Mu} (h0 : P (a)) (h1 : P (a + 39)) (h2 : P (a + 7)) (h3 : P (a + 12)) (h4 : P (a + 13)) (h5 : P (a + 8)) (h6 : P (a + 9)) (h7 : P (a + 10)) (h8 : P (a + 11))  : Fr P μ (Mo_keepsLaw a μ) := by
  unfold Mo_keepsLaw
  refine fr_ldA (fun _ => ?_)
  refine fr_cl (fr_Mo_keeps h0 h1) (fun _ _ => ?_)
  refine fr_stA h2 (fun _ => ?_)
  exact fr_Mo_keepsLaw_18 h0 h1 h3 h4 h5 h6 h7 h8 _ _ _
theorem fr_Mo_image_69b {P : Nat → Prop} {a : Nat} {kb69 : Int32 → Mu → Option (Int32 × Mu)} {v1 : Int32} {v2 : Int32} {μ : Mu} (h0 : P (a)) (h1 : P (a + 39)) (h2 : P (a + 7)) (h3 : P (a + 12)) (h4 : P (a + 13)) (h5 : P (a + 8)) (h6 : P (a + 9)) (h7 : P (a + 10)) (h8 : P (a + 11)) (h9 : P (a + 4)) (h_kb69 : ∀ (w0 : Int32) (μ : Mu), Fr P μ (kb69 w0 μ)) : Fr P μ (Mo_image_69b a kb69 v1 v2 μ) := by
  unfold Mo_image_69b
  refine fr_ite ?_ ?_
  · skip
    refine fr_cl (fr_Mo_keepsLaw h0 h1 h2 h3 h4 h5 h6 h7 h8) (fun _ _ => ?_)
    refine fr_ite ?_ ?_
    · skip
      refine fr_pF h0 (fun _ => ?_)
      exact fr_some
    · skip
      exact fr_some
  · skip
    refine fr_ldA (fun _ => ?_)
    refine fr_cl (fr_Mo_keeps h0 h1) (fun _ _ => ?_)
    refine fr_stA h9 (fun _ => ?_)
    exact h_kb69 _ _
theorem fr_Mo_image_69 {P : Nat → Prop} {a : Nat} {v1 : Int32} (h0 : P (a)) (h1 : P (a + 39)) (h2 : P (a + 7)) (h3 : P (a + 12)) (h4 : P (a + 13)) (h5 : P (a + 8)) (h6 : P (a + 9)) (h7 : P (a + 10)) (h8 : P (a + 11)) (h9 : P (a + 4))  : ∀ (fu : Nat) (w0 : Int32) (μ : Mu), Fr P μ (Mo_image_69 a v1 fu w0 μ) := by
  intro fu
  induction fu with
  | zero => intros; exact fr_none
  | succ fu ih => intros; exact fr_Mo_image_69b (a := a) (v1 := v1) h0 h1 h2 h3 h4 h5 h6 h7 h8 h9  ih
theorem fr_Mo_image_35b {P : Nat → Prop} {a : Nat} {kb35 : Int32 → Mu → Option (Int32 × Mu)} {v1 : Int32} {v2 : Int32} {μ : Mu} (h0 : P (a)) (h1 : P (a + 39)) (h2 : P (a + 26)) (h3 : P (a + 27)) (h4 : P (a + 24)) (h5 : P (a + 29)) (h6 : P (a + 32)) (h7 : P (a + 22)) (h8 : P (a + 23)) (h9 : P (a + 34)) (h10 : P (a + 35)) (h11 : P (a + 36)) (h12 : P (a + 17)) (h13 : P (a + 18)) (h14 : P (a + 7)) (h15 : P (a + 12)) (h16 : P (a + 13)) (h17 : P (a + 8)) (h18 : P (a + 9)) (h19 : P (a + 10)) (h20 : P (a + 11)) (h21 : P (a + 4)) (h22 : P (a + 1)) (h_kb35 : ∀ (w0 : Int32) (μ : Mu), Fr P μ (kb35 w0 μ)) : Fr P μ (Mo_image_35b a kb35 v1 v2 μ) := by
  unfold Mo_image_35b
  refine fr_ite ?_ ?_
  · skip
    refine fr_cl (fr_Mo_keepsTold h0 h1 h2 h3 h4 h5 h6 h7 h8 h9 h10 h11 h12 h13) (fun _ _ => ?_)
    exact fr_Mo_image_69 h0 h1 h14 h15 h16 h17 h18 h19 h20 h21 _ _ _
  · skip
    refine fr_ldA (fun _ => ?_)
    refine fr_cl (fr_Mo_keeps h0 h1) (fun _ _ => ?_)
    refine fr_stA h22 (fun _ => ?_)
    exact h_kb35 _ _
theorem fr_Mo_image_35 {P : Nat → Prop} {a : Nat} {v1 : Int32} (h0 : P (a)) (h1 : P (a + 39)) (h2 : P (a + 26)) (h3 : P (a + 27)) (h4 : P (a + 24)) (h5 : P (a + 29)) (h6 : P (a + 32)) (h7 : P (a + 22)) (h8 : P (a + 23)) (h9 : P (a + 34)) (h10 : P (a + 35)) (h11 : P (a + 36)) (h12 : P (a + 17)) (h13 : P (a + 18)) (h14 : P (a + 7)) (h15 : P (a + 12)) (h16 : P (a + 13)) (h17 : P (a + 8)) (h18 : P (a + 9)) (h19 : P (a + 10)) (h20 : P (a + 11)) (h21 : P (a + 4)) (h22 : P (a + 1))  : ∀ (fu : Nat) (w0 : Int32) (μ : Mu), Fr P μ (Mo_image_35 a v1 fu w0 μ) := by
  intro fu
  induction fu with
  | zero => intros; exact fr_none
  | succ fu ih => intros; exact fr_Mo_image_35b (a := a) (v1 := v1) h0 h1 h2 h3 h4 h5 h6 h7 h8 h9 h10 h11 h12 h13 h14 h15 h16 h17 h18 h19 h20 h21 h22  ih
theorem fr_Mo_image_18 {P : Nat → Prop} {a : Nat} {v1 : Int32} {μ : Mu} (h0 : P (a)) (h1 : P (a + 39)) (h2 : P (a + 26)) (h3 : P (a + 27)) (h4 : P (a + 24)) (h5 : P (a + 29)) (h6 : P (a + 32)) (h7 : P (a + 22)) (h8 : P (a + 23)) (h9 : P (a + 34)) (h10 : P (a + 35)) (h11 : P (a + 36)) (h12 : P (a + 17)) (h13 : P (a + 18)) (h14 : P (a + 7)) (h15 : P (a + 12)) (h16 : P (a + 13)) (h17 : P (a + 8)) (h18 : P (a + 9)) (h19 : P (a + 10)) (h20 : P (a + 11)) (h21 : P (a + 4)) (h22 : P (a + 1))  : Fr P μ (Mo_image_18 a v1 μ) := by
  unfold Mo_image_18
  refine fr_zg ?_
  refine fr_pF h0 (fun _ => ?_)
  refine fr_zg ?_
  refine fr_pF h0 (fun _ => ?_)
  refine fr_pF h0 (fun _ => ?_)
  exact fr_Mo_image_35 h0 h1 h2 h3 h4 h5 h6 h7 h8 h9 h10 h11 h12 h13 h14 h15 h16 h17 h18 h19 h20 h21 h22 _ _ _
theorem fr_Mo_image {P : Nat → Prop} {a : Nat} {v1 : Int32} {μ : Mu} (h0 : P (a)) (h1 : P (a + 39)) (h2 : P (a + 26)) (h3 : P (a + 27)) (h4 : P (a + 24)) (h5 : P (a + 29)) (h6 : P (a + 32)) (h7 : P (a + 22)) (h8 : P (a + 23)) (h9 : P (a + 34)) (h10 : P (a + 35)) (h11 : P (a + 36)) (h12 : P (a + 17)) (h13 : P (a + 18)) (h14 : P (a + 7)) (h15 : P (a + 12)) (h16 : P (a + 13)) (h17 : P (a + 8)) (h18 : P (a + 9)) (h19 : P (a + 10)) (h20 : P (a + 11)) (h21 : P (a + 4)) (h22 : P (a + 1))  : Fr P μ (Mo_image a v1 μ) := by
  unfold Mo_image
  refine fr_pF h0 (fun _ => ?_)
  refine fr_ite ?_ ?_
  · skip
    refine fr_gF (fun _ => ?_)
    refine fr_ite ?_ ?_
    · skip
      exact fr_some
    · skip
      exact fr_Mo_image_18 h0 h1 h2 h3 h4 h5 h6 h7 h8 h9 h10 h11 h12 h13 h14 h15 h16 h17 h18 h19 h20 h21 h22
  · skip
    exact fr_Mo_image_18 h0 h1 h2 h3 h4 h5 h6 h7 h8 h9 h10 h11 h12 h13 h14 h15 h16 h17 h18 h19 h20 h21 h22
theorem fr_Mo_isDigit {P : Nat → Prop} {a : Nat} {v1 : Int32} {μ : Mu}   : Fr P μ (Mo_isDigit a v1 μ) := by
  unfold Mo_isDigit
  refine fr_cl (fr_Mo_isIn) (fun _ _ => ?_)
  refine fr_zg ?_
  exact fr_some
theorem fr_Mo_isLetter_24 {P : Nat → Prop} {a : Nat} {μ : Mu}   : Fr P μ (Mo_isLetter_24 a μ) := by
  unfold Mo_isLetter_24
  exact fr_some
theorem fr_Mo_isLetter {P : Nat → Prop} {a : Nat} {v1 : Int32} {μ : Mu}   : Fr P μ (Mo_isLetter a v1 μ) := by
  unfold Mo_isLetter
  refine fr_cl (fr_Mo_isIn) (fun _ _ => ?_)
  refine fr_ite ?_ ?_
  · skip
    refine fr_cl (fr_Mo_isIn) (fun _ _ => ?_)
    refine fr_ite ?_ ?_
    · skip
      exact fr_some
    · skip
      exact fr_Mo_isLetter_24
  · skip
    exact fr_Mo_isLetter_24
theorem fr_Mo_isLineWord {P : Nat → Prop} {a : Nat} {μ : Mu}   : Fr P μ (Mo_isLineWord a μ) := by
  unfold Mo_isLineWord
  refine fr_gF (fun _ => ?_)
  refine fr_ite ?_ ?_
  · skip
    refine fr_gF (fun _ => ?_)
    refine fr_cl (fr_Mo_isIn) (fun _ _ => ?_)
    refine fr_ite ?_ ?_
    · skip
      exact fr_some
    · skip
      exact fr_some
  · skip
    exact fr_some
theorem fr_Mo_isLit_99 {P : Nat → Prop} {a : Nat} {kb2 : Int32 → Mu → Option (Int32 × Mu)} {v1 : Int32} {v2 : Int32} {v3 : Int32} {μ : Mu}  (h_kb2 : ∀ (w0 : Int32) (μ : Mu), Fr P μ (kb2 w0 μ)) : Fr P μ (Mo_isLit_99 a kb2 v1 v2 v3 μ) := by
  unfold Mo_isLit_99
  exact h_kb2 _ _
theorem fr_Mo_isLit_50 {P : Nat → Prop} {a : Nat} {kb2 : Int32 → Mu → Option (Int32 × Mu)} {v1 : Int32} {v2 : Int32} {v3 : Int32} {s0 : Int32} {μ : Mu}  (h_kb2 : ∀ (w0 : Int32) (μ : Mu), Fr P μ (kb2 w0 μ)) : Fr P μ (Mo_isLit_50 a kb2 v1 v2 v3 s0 μ) := by
  unfold Mo_isLit_50
  refine fr_ite ?_ ?_
  · skip
    exact fr_Mo_isLit_99  h_kb2
  · skip
    refine fr_ldA (fun _ => ?_)
    refine fr_ldA (fun _ => ?_)
    refine fr_ldA (fun _ => ?_)
    refine fr_ldA (fun _ => ?_)
    refine fr_ldA (fun _ => ?_)
    refine fr_ite ?_ ?_
    · skip
      exact fr_Mo_isLit_99  h_kb2
    · skip
      exact fr_some
theorem fr_Mo_isLit_45 {P : Nat → Prop} {a : Nat} {kb2 : Int32 → Mu → Option (Int32 × Mu)} {v1 : Int32} {v2 : Int32} {v3 : Int32} {μ : Mu}  (h_kb2 : ∀ (w0 : Int32) (μ : Mu), Fr P μ (kb2 w0 μ)) : Fr P μ (Mo_isLit_45 a kb2 v1 v2 v3 μ) := by
  unfold Mo_isLit_45
  exact fr_Mo_isLit_50  h_kb2
theorem fr_Mo_isLit_49 {P : Nat → Prop} {a : Nat} {kb2 : Int32 → Mu → Option (Int32 × Mu)} {v1 : Int32} {v2 : Int32} {v3 : Int32} {μ : Mu}  (h_kb2 : ∀ (w0 : Int32) (μ : Mu), Fr P μ (kb2 w0 μ)) : Fr P μ (Mo_isLit_49 a kb2 v1 v2 v3 μ) := by
  unfold Mo_isLit_49
  exact fr_Mo_isLit_50  h_kb2
theorem fr_Mo_isLit_2b {P : Nat → Prop} {a : Nat} {kb2 : Int32 → Mu → Option (Int32 × Mu)} {v1 : Int32} {v2 : Int32} {v3 : Int32} {μ : Mu}  (h_kb2 : ∀ (w0 : Int32) (μ : Mu), Fr P μ (kb2 w0 μ)) : Fr P μ (Mo_isLit_2b a kb2 v1 v2 v3 μ) := by
  unfold Mo_isLit_2b
  refine fr_gF (fun _ => ?_)
  refine fr_ite ?_ ?_
  · skip
    exact fr_some
  · skip
    refine fr_ldA (fun _ => ?_)
    refine fr_ldA (fun _ => ?_)
    refine fr_ite ?_ ?_
    · skip
      exact fr_Mo_isLit_45  h_kb2
    · skip
      refine fr_ldA (fun _ => ?_)
      refine fr_ldA (fun _ => ?_)
      refine fr_ite ?_ ?_
      · skip
        refine fr_ite ?_ ?_
        · skip
          exact fr_Mo_isLit_49  h_kb2
        · skip
          exact fr_Mo_isLit_45  h_kb2
      · skip
        exact fr_Mo_isLit_49  h_kb2
theorem fr_Mo_isLit_2 {P : Nat → Prop} {a : Nat} {v1 : Int32} {v2 : Int32}   : ∀ (fu : Nat) (w0 : Int32) (μ : Mu), Fr P μ (Mo_isLit_2 a v1 v2 fu w0 μ) := by
  intro fu
  induction fu with
  | zero => intros; exact fr_none
  | succ fu ih => intros; exact fr_Mo_isLit_2b (a := a) (v1 := v1) (v2 := v2)   ih
theorem fr_Mo_isLit {P : Nat → Prop} {a : Nat} {v1 : Int32} {v2 : Int32} {μ : Mu}   : Fr P μ (Mo_isLit a v1 v2 μ) := by
  unfold Mo_isLit
  exact fr_Mo_isLit_2 _ _ _
theorem fr_Mo_isMarkSign_60 {P : Nat → Prop} {a : Nat} {μ : Mu}   : Fr P μ (Mo_isMarkSign_60 a μ) := by
  unfold Mo_isMarkSign_60
  exact fr_some
theorem fr_Mo_isMarkSign {P : Nat → Prop} {a : Nat} {v1 : Int32} {μ : Mu}   : Fr P μ (Mo_isMarkSign a v1 μ) := by
  unfold Mo_isMarkSign
  refine fr_ite ?_ ?_
  · skip
    exact fr_Mo_isMarkSign_60
  · skip
    refine fr_ite ?_ ?_
    · skip
      exact fr_Mo_isMarkSign_60
    · skip
      refine fr_ite ?_ ?_
      · skip
        exact fr_Mo_isMarkSign_60
      · skip
        refine fr_ite ?_ ?_
        · skip
          exact fr_Mo_isMarkSign_60
        · skip
          refine fr_ite ?_ ?_
          · skip
            exact fr_Mo_isMarkSign_60
          · skip
            refine fr_ite ?_ ?_
            · skip
              exact fr_Mo_isMarkSign_60
            · skip
              refine fr_ite ?_ ?_
              · skip
                exact fr_Mo_isMarkSign_60
              · skip
                refine fr_ite ?_ ?_
                · skip
                  exact fr_Mo_isMarkSign_60
                · skip
                  refine fr_ite ?_ ?_
                  · skip
                    exact fr_Mo_isMarkSign_60
                  · skip
                    refine fr_ite ?_ ?_
                    · skip
                      exact fr_Mo_isMarkSign_60
                    · skip
                      exact fr_some
theorem fr_Mo_isSign {P : Nat → Prop} {a : Nat} {v1 : Int32} {μ : Mu}   : Fr P μ (Mo_isSign a v1 μ) := by
  unfold Mo_isSign
  refine fr_gF (fun _ => ?_)
  refine fr_ite ?_ ?_
  · skip
    refine fr_gF (fun _ => ?_)
    refine fr_ite ?_ ?_
    · skip
      exact fr_some
    · skip
      exact fr_some
  · skip
    exact fr_some
theorem fr_Mo_isWord {P : Nat → Prop} {a : Nat} {v1 : Int32} {μ : Mu}   : Fr P μ (Mo_isWord a v1 μ) := by
  unfold Mo_isWord
  refine fr_gF (fun _ => ?_)
  refine fr_ite ?_ ?_
  · skip
    refine fr_gF (fun _ => ?_)
    refine fr_ite ?_ ?_
    · skip
      exact fr_some
    · skip
      exact fr_some
  · skip
    exact fr_some
theorem fr_Mo_kindOfDeed {P : Nat → Prop} {a : Nat} {μ : Mu}   : Fr P μ (Mo_kindOfDeed a μ) := by
  unfold Mo_kindOfDeed
  refine fr_cl (fr_Mo_isWord) (fun _ _ => ?_)
  refine fr_ite ?_ ?_
  · skip
    refine fr_gF (fun _ => ?_)
    refine fr_ite ?_ ?_
    · skip
      refine fr_gF (fun _ => ?_)
      refine fr_cl (fr_Mo_isIn) (fun _ _ => ?_)
      refine fr_ite ?_ ?_
      · skip
        exact fr_some
      · skip
        refine fr_gF (fun _ => ?_)
        exact fr_some
    · skip
      exact fr_some
  · skip
    exact fr_some
theorem fr_Mo_light_85 {P : Nat → Prop} {a : Nat} {kb60 : Int32 → Int32 → Mu → Option (Int32 × Mu)} {v1 : Int32} {v4 : Int32} {v5 : Int32} {μ : Mu}  (h_kb60 : ∀ (w0 : Int32) (w1 : Int32) (μ : Mu), Fr P μ (kb60 w0 w1 μ)) : Fr P μ (Mo_light_85 a kb60 v1 v4 v5 μ) := by
  unfold Mo_light_85
  exact h_kb60 _ _ _
theorem fr_Mo_light_60b {P : Nat → Prop} {a : Nat} {kb60 : Int32 → Int32 → Mu → Option (Int32 × Mu)} {v1 : Int32} {v4 : Int32} {v5 : Int32} {μ : Mu}  (h_kb60 : ∀ (w0 : Int32) (w1 : Int32) (μ : Mu), Fr P μ (kb60 w0 w1 μ)) : Fr P μ (Mo_light_60b a kb60 v1 v4 v5 μ) := by
  unfold Mo_light_60b
  refine fr_gF (fun _ => ?_)
  refine fr_ite ?_ ?_
  · skip
    exact fr_some
  · skip
    refine fr_cl (fr_Mo_isLit) (fun _ _ => ?_)
    refine fr_ite ?_ ?_
    · skip
      exact fr_Mo_light_85  h_kb60
    · skip
      exact fr_Mo_light_85  h_kb60
theorem fr_Mo_light_60 {P : Nat → Prop} {a : Nat} {v1 : Int32}   : ∀ (fu : Nat) (w0 : Int32) (w1 : Int32) (μ : Mu), Fr P μ (Mo_light_60 a v1 fu w0 w1 μ) := by
  intro fu
  induction fu with
  | zero => intros; exact fr_none
  | succ fu ih => intros; exact fr_Mo_light_60b (a := a) (v1 := v1)   ih
theorem fr_Mo_light_49 {P : Nat → Prop} {a : Nat} {v1 : Int32} {v2 : Int32} {v3 : Int32} {μ : Mu}   : Fr P μ (Mo_light_49 a v1 v2 v3 μ) := by
  unfold Mo_light_49
  refine fr_ite ?_ ?_
  · skip
    exact fr_Mo_light_60 _ _ _ _
  · skip
    refine fr_ldA (fun _ => ?_)
    refine fr_ite ?_ ?_
    · skip
      refine fr_ldA (fun _ => ?_)
      refine fr_ldA (fun _ => ?_)
      refine fr_cl (fr_Mo_common) (fun _ _ => ?_)
      refine fr_ite ?_ ?_
      · skip
        refine fr_ldA (fun _ => ?_)
        refine fr_nz ?_
        exact fr_some
      · skip
        refine fr_ldA (fun _ => ?_)
        refine fr_nz ?_
        exact fr_some
    · skip
      exact fr_some
theorem fr_Mo_light {P : Nat → Prop} {a : Nat} {v1 : Int32} {v2 : Int32} {v3 : Int32} {μ : Mu} (h0 : P (a))  : Fr P μ (Mo_light a v1 v2 v3 μ) := by
  unfold Mo_light
  refine fr_pF h0 (fun _ => ?_)
  refine fr_cl (fr_Mo_isIn) (fun _ _ => ?_)
  refine fr_ite ?_ ?_
  · skip
    exact fr_some
  · skip
    refine fr_cl (fr_Mo_isIn) (fun _ _ => ?_)
    refine fr_ite ?_ ?_
    · skip
      exact fr_some
    · skip
      refine fr_ite ?_ ?_
      · skip
        exact fr_Mo_light_49
      · skip
        refine fr_gF (fun _ => ?_)
        refine fr_cl (fr_Mo_isIn) (fun _ _ => ?_)
        refine fr_ite ?_ ?_
        · skip
          exact fr_some
        · skip
          exact fr_Mo_light_49
theorem fr_Mo_look {P : Nat → Prop} {a : Nat} {v1 : Int32} {μ : Mu} (h0 : P (a))  : Fr P μ (Mo_look a v1 μ) := by
  unfold Mo_look
  refine fr_pF h0 (fun _ => ?_)
  refine fr_ite ?_ ?_
  · skip
    refine fr_gF (fun _ => ?_)
    exact fr_some
  · skip
    refine fr_ite ?_ ?_
    · skip
      refine fr_cl (fr_Mo_aliveSet) (fun _ _ => ?_)
      exact fr_some
    · skip
      refine fr_ite ?_ ?_
      · skip
        refine fr_ldA (fun _ => ?_)
        exact fr_some
      · skip
        refine fr_ite ?_ ?_
        · skip
          refine fr_ldA (fun _ => ?_)
          exact fr_some
        · skip
          refine fr_ite ?_ ?_
          · skip
            refine fr_ldA (fun _ => ?_)
            exact fr_some
          · skip
            refine fr_ite ?_ ?_
            · skip
              refine fr_ldA (fun _ => ?_)
              exact fr_some
            · skip
              refine fr_ite ?_ ?_
              · skip
                refine fr_cl (fr_Mo_tallest) (fun _ _ => ?_)
                exact fr_some
              · skip
                refine fr_ite ?_ ?_
                · skip
                  refine fr_ldA (fun _ => ?_)
                  exact fr_some
                · skip
                  refine fr_ite ?_ ?_
                  · skip
                    refine fr_ldA (fun _ => ?_)
                    exact fr_some
                  · skip
                    refine fr_ite ?_ ?_
                    · skip
                      refine fr_ldA (fun _ => ?_)
                      exact fr_some
                    · skip
                      refine fr_ite ?_ ?_
                      · skip
                        refine fr_gF (fun _ => ?_)
                        exact fr_some
                      · skip
                        refine fr_ite ?_ ?_
                        · skip
                          refine fr_gF (fun _ => ?_)
                          exact fr_some
                        · skip
                          refine fr_ite ?_ ?_
                          · skip
                            refine fr_gF (fun _ => ?_)
                            exact fr_some
                          · skip
                            refine fr_ite ?_ ?_
                            · skip
                              refine fr_gF (fun _ => ?_)
                              exact fr_some
                            · skip
                              refine fr_cl (fr_Mo_isIn) (fun _ _ => ?_)
                              refine fr_ite ?_ ?_
                              · skip
                                exact fr_some
                              · skip
                                refine fr_cl (fr_Mo_whoHas) (fun _ _ => ?_)
                                exact fr_some
theorem fr_Mo_of {P : Nat → Prop} {a : Nat} {v1 : Int32} {v2 : Int32} {μ : Mu} (h0 : P (a)) (h1 : P (a + 19)) (h2 : P (a + 20))  : Fr P μ (Mo_of a v1 v2 μ) := by
  unfold Mo_of
  refine fr_pF h0 (fun _ => ?_)
  refine fr_cl (fr_Mo_isPerson) (fun _ _ => ?_)
  refine fr_ite ?_ ?_
  · skip
    exact fr_some
  · skip
    refine fr_cl (fr_Mo_isIn) (fun _ _ => ?_)
    refine fr_ite ?_ ?_
    · skip
      refine fr_ite ?_ ?_
      · skip
        refine fr_ldA (fun _ => ?_)
        exact fr_some
      · skip
        refine fr_ite ?_ ?_
        · skip
          refine fr_cl (fr_Mo_seatOf) (fun _ _ => ?_)
          exact fr_some
        · skip
          refine fr_ite ?_ ?_
          · skip
            refine fr_cl (fr_Mo_spillsOf h1 h2) (fun _ _ => ?_)
            exact fr_some
          · skip
            refine fr_ite ?_ ?_
            · skip
              refine fr_cl (fr_Mo_throwsOf h1 h2) (fun _ _ => ?_)
              exact fr_some
            · skip
              refine fr_ite ?_ ?_
              · skip
                refine fr_cl (fr_Mo_runsOf h1 h2) (fun _ _ => ?_)
                exact fr_some
              · skip
                refine fr_ite ?_ ?_
                · skip
                  refine fr_ldA (fun _ => ?_)
                  exact fr_some
                · skip
                  exact fr_some
    · skip
      refine fr_ldA (fun _ => ?_)
      exact fr_some
theorem fr_Mo_person_30b {P : Nat → Prop} {a : Nat} {kb30 : Int32 → Mu → Option (Int32 × Mu)} {v1 : Int32} {v2 : Int32} {μ : Mu} (h0 : P (a + 1)) (h1 : P (a)) (h_kb30 : ∀ (w0 : Int32) (μ : Mu), Fr P μ (kb30 w0 μ)) : Fr P μ (Mo_person_30b a kb30 v1 v2 μ) := by
  unfold Mo_person_30b
  refine fr_ite ?_ ?_
  · skip
    refine fr_gF (fun _ => ?_)
    refine fr_stA h0 (fun _ => ?_)
    refine fr_gF (fun _ => ?_)
    refine fr_pF h1 (fun _ => ?_)
    refine fr_pF h1 (fun _ => ?_)
    refine fr_gF (fun _ => ?_)
    exact fr_some
  · skip
    refine fr_gF (fun _ => ?_)
    refine fr_stA h0 (fun _ => ?_)
    exact h_kb30 _ _
theorem fr_Mo_person_30 {P : Nat → Prop} {a : Nat} {v1 : Int32} (h0 : P (a + 1)) (h1 : P (a))  : ∀ (fu : Nat) (w0 : Int32) (μ : Mu), Fr P μ (Mo_person_30 a v1 fu w0 μ) := by
  intro fu
  induction fu with
  | zero => intros; exact fr_none
  | succ fu ih => intros; exact fr_Mo_person_30b (a := a) (v1 := v1) h0 h1  ih
theorem fr_Mo_person {P : Nat → Prop} {a : Nat} {v1 : Int32} {μ : Mu} (h0 : P (a)) (h1 : P (a + 1))  : Fr P μ (Mo_person a v1 μ) := by
  unfold Mo_person
  refine fr_pF h0 (fun _ => ?_)
  refine fr_cl (fr_Mo_isIn) (fun _ _ => ?_)
  refine fr_ite ?_ ?_
  · skip
    exact fr_some
  · skip
    refine fr_gF (fun _ => ?_)
    refine fr_ite ?_ ?_
    · skip
      exact fr_some
    · skip
      exact fr_Mo_person_30 h1 h0 _ _ _
theorem fr_Mo_point_86 {P : Nat → Prop} {a : Nat} {kb56 : Int32 → Mu → Option (Int32 × Mu)} {v1 : Int32} {v2 : Int32} {v3 : Int32} {μ : Mu}  (h_kb56 : ∀ (w0 : Int32) (μ : Mu), Fr P μ (kb56 w0 μ)) : Fr P μ (Mo_point_86 a kb56 v1 v2 v3 μ) := by
  unfold Mo_point_86
  exact h_kb56 _ _
theorem fr_Mo_point_56b {P : Nat → Prop} {a : Nat} {kb56 : Int32 → Mu → Option (Int32 × Mu)} {v1 : Int32} {v2 : Int32} {v3 : Int32} {μ : Mu} (h0 : P (a + 22)) (h1 : P (a + 23)) (h2 : P (a)) (h_kb56 : ∀ (w0 : Int32) (μ : Mu), Fr P μ (kb56 w0 μ)) : Fr P μ (Mo_point_56b a kb56 v1 v2 v3 μ) := by
  unfold Mo_point_56b
  refine fr_gF (fun _ => ?_)
  refine fr_ite ?_ ?_
  · skip
    refine fr_gF (fun _ => ?_)
    refine fr_stA h0 (fun _ => ?_)
    refine fr_gF (fun _ => ?_)
    refine fr_stA h1 (fun _ => ?_)
    refine fr_gF (fun _ => ?_)
    refine fr_pF h2 (fun _ => ?_)
    refine fr_gF (fun _ => ?_)
    exact fr_some
  · skip
    refine fr_ldA (fun _ => ?_)
    refine fr_ite ?_ ?_
    · skip
      refine fr_ldA (fun _ => ?_)
      refine fr_ite ?_ ?_
      · skip
        exact fr_some
      · skip
        exact fr_Mo_point_86  h_kb56
    · skip
      exact fr_Mo_point_86  h_kb56
theorem fr_Mo_point_56 {P : Nat → Prop} {a : Nat} {v1 : Int32} {v2 : Int32} (h0 : P (a + 22)) (h1 : P (a + 23)) (h2 : P (a))  : ∀ (fu : Nat) (w0 : Int32) (μ : Mu), Fr P μ (Mo_point_56 a v1 v2 fu w0 μ) := by
  intro fu
  induction fu with
  | zero => intros; exact fr_none
  | succ fu ih => intros; exact fr_Mo_point_56b (a := a) (v1 := v1) (v2 := v2) h0 h1 h2  ih
theorem fr_Mo_point {P : Nat → Prop} {a : Nat} {v1 : Int32} {v2 : Int32} {μ : Mu} (h0 : P (a)) (h1 : P (a + 22)) (h2 : P (a + 23))  : Fr P μ (Mo_point a v1 v2 μ) := by
  unfold Mo_point
  refine fr_pF h0 (fun _ => ?_)
  refine fr_ite ?_ ?_
  · skip
    refine fr_pF h0 (fun _ => ?_)
    exact fr_some
  · skip
    refine fr_cl (fr_Mo_isIn) (fun _ _ => ?_)
    refine fr_ite ?_ ?_
    · skip
      exact fr_some
    · skip
      refine fr_cl (fr_Mo_isIn) (fun _ _ => ?_)
      refine fr_ite ?_ ?_
      · skip
        exact fr_some
      · skip
        refine fr_gF (fun _ => ?_)
        refine fr_ite ?_ ?_
        · skip
          exact fr_some
        · skip
          exact fr_Mo_point_56 h1 h2 h0 _ _ _
theorem fr_Mo_post {P : Nat → Prop} {a : Nat} {v1 : Int32} {v2 : Int32} {μ : Mu} (h0 : P (a)) (h1 : P (a + 34)) (h2 : P (a + 35))  : Fr P μ (Mo_post a v1 v2 μ) := by
  unfold Mo_post
  refine fr_pF h0 (fun _ => ?_)
  refine fr_ite ?_ ?_
  · skip
    refine fr_pF h0 (fun _ => ?_)
    exact fr_some
  · skip
    refine fr_cl (fr_Mo_isIn) (fun _ _ => ?_)
    refine fr_ite ?_ ?_
    · skip
      exact fr_some
    · skip
      refine fr_cl (fr_Mo_isIn) (fun _ _ => ?_)
      refine fr_ite ?_ ?_
      · skip
        exact fr_some
      · skip
        refine fr_gF (fun _ => ?_)
        refine fr_ite ?_ ?_
        · skip
          exact fr_some
        · skip
          refine fr_gF (fun _ => ?_)
          refine fr_stA h1 (fun _ => ?_)
          refine fr_gF (fun _ => ?_)
          refine fr_stA h2 (fun _ => ?_)
          refine fr_gF (fun _ => ?_)
          refine fr_pF h0 (fun _ => ?_)
          refine fr_gF (fun _ => ?_)
          exact fr_some
theorem fr_Mo_raw {P : Nat → Prop} {a : Nat} {v1 : Int32} {μ : Mu}   : Fr P μ (Mo_raw a v1 μ) := by
  unfold Mo_raw
  refine fr_gF (fun _ => ?_)
  refine fr_ite ?_ ?_
  · skip
    exact fr_some
  · skip
    refine fr_ldA (fun _ => ?_)
    exact fr_some
theorem fr_Mo_waits {P : Nat → Prop} {a : Nat} {v1 : Int32} {μ : Mu} (h0 : P (a + 14)) (h1 : P (a))  : Fr P μ (Mo_waits a v1 μ) := by
  unfold Mo_waits
  refine fr_gF (fun _ => ?_)
  refine fr_stA h0 (fun _ => ?_)
  refine fr_gF (fun _ => ?_)
  refine fr_pF h1 (fun _ => ?_)
  exact fr_some
theorem fr_Mo_wordAt_94b {P : Nat → Prop} {a : Nat} {kb5 : Int32 → Int32 → Mu → Option (Int32 × Mu)} {kb94 : Int32 → Mu → Option (Int32 × Mu)} {v1 : Int32} {v2 : Int32} {v3 : Int32} {v4 : Int32} {μ : Mu}  (h_kb5 : ∀ (w0 : Int32) (w1 : Int32) (μ : Mu), Fr P μ (kb5 w0 w1 μ)) (h_kb94 : ∀ (w0 : Int32) (μ : Mu), Fr P μ (kb94 w0 μ)) : Fr P μ (Mo_wordAt_94b a kb5 kb94 v1 v2 v3 v4 μ) := by
  unfold Mo_wordAt_94b
  refine fr_ldA (fun _ => ?_)
  refine fr_ite ?_ ?_
  · skip
    exact h_kb5 _ _ _
  · skip
    exact h_kb94 _ _
theorem fr_Mo_wordAt_94 {P : Nat → Prop} {a : Nat} {kb5 : Int32 → Int32 → Mu → Option (Int32 × Mu)} {v1 : Int32} {v2 : Int32} {v3 : Int32}  (h_kb5 : ∀ (w0 : Int32) (w1 : Int32) (μ : Mu), Fr P μ (kb5 w0 w1 μ)) : ∀ (fu : Nat) (w0 : Int32) (μ : Mu), Fr P μ (Mo_wordAt_94 a kb5 v1 v2 v3 fu w0 μ) := by
  intro fu
  induction fu with
  | zero => intros; exact fr_none
  | succ fu ih => intros; exact fr_Mo_wordAt_94b (a := a) (kb5 := kb5) (v1 := v1) (v2 := v2) (v3 := v3)  h_kb5 ih
theorem fr_Mo_wordAt_88 {P : Nat → Prop} {a : Nat} {kb5 : Int32 → Int32 → Mu → Option (Int32 × Mu)} {v1 : Int32} {v2 : Int32} {v3 : Int32} {v4 : Int32} {μ : Mu}  (h_kb5 : ∀ (w0 : Int32) (w1 : Int32) (μ : Mu), Fr P μ (kb5 w0 w1 μ)) : Fr P μ (Mo_wordAt_88 a kb5 v1 v2 v3 v4 μ) := by
  unfold Mo_wordAt_88
  exact fr_Mo_wordAt_94  h_kb5 _ _ _
theorem fr_Mo_wordAt_61 {P : Nat → Prop} {a : Nat} {kb5 : Int32 → Int32 → Mu → Option (Int32 × Mu)} {v1 : Int32} {v2 : Int32} {v3 : Int32} {v4 : Int32} {v5 : Int32} {μ : Mu}  (h_kb5 : ∀ (w0 : Int32) (w1 : Int32) (μ : Mu), Fr P μ (kb5 w0 w1 μ)) : Fr P μ (Mo_wordAt_61 a kb5 v1 v2 v3 v4 v5 μ) := by
  unfold Mo_wordAt_61
  refine fr_ite ?_ ?_
  · skip
    refine fr_ldA (fun _ => ?_)
    refine fr_ite ?_ ?_
    · skip
      exact fr_some
    · skip
      exact fr_Mo_wordAt_88  h_kb5
  · skip
    exact fr_Mo_wordAt_88  h_kb5
theorem fr_Mo_wordAt_20b {P : Nat → Prop} {a : Nat} {kb5 : Int32 → Int32 → Mu → Option (Int32 × Mu)} {kb20 : Int32 → Mu → Option (Int32 × Mu)} {v1 : Int32} {v2 : Int32} {v3 : Int32} {v4 : Int32} {v5 : Int32} {μ : Mu}  (h_kb5 : ∀ (w0 : Int32) (w1 : Int32) (μ : Mu), Fr P μ (kb5 w0 w1 μ)) (h_kb20 : ∀ (w0 : Int32) (μ : Mu), Fr P μ (kb20 w0 μ)) : Fr P μ (Mo_wordAt_20b a kb5 kb20 v1 v2 v3 v4 v5 μ) := by
  unfold Mo_wordAt_20b
  refine fr_ite ?_ ?_
  · skip
    exact fr_Mo_wordAt_61  h_kb5
  · skip
    refine fr_ldA (fun _ => ?_)
    refine fr_ldA (fun _ => ?_)
    refine fr_ite ?_ ?_
    · skip
      exact h_kb20 _ _
    · skip
      exact fr_Mo_wordAt_61  h_kb5
theorem fr_Mo_wordAt_20 {P : Nat → Prop} {a : Nat} {kb5 : Int32 → Int32 → Mu → Option (Int32 × Mu)} {v1 : Int32} {v2 : Int32} {v3 : Int32} {v4 : Int32}  (h_kb5 : ∀ (w0 : Int32) (w1 : Int32) (μ : Mu), Fr P μ (kb5 w0 w1 μ)) : ∀ (fu : Nat) (w0 : Int32) (μ : Mu), Fr P μ (Mo_wordAt_20 a kb5 v1 v2 v3 v4 fu w0 μ) := by
  intro fu
  induction fu with
  | zero => intros; exact fr_none
  | succ fu ih => intros; exact fr_Mo_wordAt_20b (a := a) (kb5 := kb5) (v1 := v1) (v2 := v2) (v3 := v3) (v4 := v4)  h_kb5 ih
theorem fr_Mo_wordAt_5b {P : Nat → Prop} {a : Nat} {kb5 : Int32 → Int32 → Mu → Option (Int32 × Mu)} {v1 : Int32} {v2 : Int32} {v3 : Int32} {v4 : Int32} {μ : Mu}  (h_kb5 : ∀ (w0 : Int32) (w1 : Int32) (μ : Mu), Fr P μ (kb5 w0 w1 μ)) : Fr P μ (Mo_wordAt_5b a kb5 v1 v2 v3 v4 μ) := by
  unfold Mo_wordAt_5b
  refine fr_ite ?_ ?_
  · skip
    exact fr_some
  · skip
    exact fr_Mo_wordAt_20  h_kb5 _ _ _
theorem fr_Mo_wordAt_5 {P : Nat → Prop} {a : Nat} {v1 : Int32} {v2 : Int32}   : ∀ (fu : Nat) (w0 : Int32) (w1 : Int32) (μ : Mu), Fr P μ (Mo_wordAt_5 a v1 v2 fu w0 w1 μ) := by
  intro fu
  induction fu with
  | zero => intros; exact fr_none
  | succ fu ih => intros; exact fr_Mo_wordAt_5b (a := a) (v1 := v1) (v2 := v2)   ih
theorem fr_Mo_wordAt {P : Nat → Prop} {a : Nat} {v1 : Int32} {v2 : Int32} {μ : Mu}   : Fr P μ (Mo_wordAt a v1 v2 μ) := by
  unfold Mo_wordAt
  exact fr_Mo_wordAt_5 _ _ _ _
theorem fr_Mo_reads_26 {P : Nat → Prop} {a : Nat} {kb0 : Mu → Option (Unit × Mu)} {μ : Mu} (h0 : P (a)) (h_kb0 : ∀  (μ : Mu), Fr P μ (kb0  μ)) : Fr P μ (Mo_reads_26 a kb0 μ) := by
  unfold Mo_reads_26
  refine fr_gF (fun _ => ?_)
  refine fr_pF h0 (fun _ => ?_)
  exact h_kb0 _
theorem fr_Mo_reads_223 {P : Nat → Prop} {a : Nat} {kb171 : Mu → Option (Unit × Mu)} {s0 : Int32} {μ : Mu} (h0 : P (a)) (h_kb171 : ∀  (μ : Mu), Fr P μ (kb171  μ)) : Fr P μ (Mo_reads_223 a kb171 s0 μ) := by
  unfold Mo_reads_223
  refine fr_pF h0 (fun _ => ?_)
  refine fr_gF (fun _ => ?_)
  refine fr_pF h0 (fun _ => ?_)
  exact h_kb171 _
theorem fr_Mo_reads_171b {P : Nat → Prop} {a : Nat} {kb171 : Mu → Option (Unit × Mu)} {μ : Mu} (h0 : P (a)) (h_kb171 : ∀  (μ : Mu), Fr P μ (kb171  μ)) : Fr P μ (Mo_reads_171b a kb171 μ) := by
  unfold Mo_reads_171b
  refine fr_gF (fun _ => ?_)
  refine fr_cl (fr_Mo_raw) (fun _ _ => ?_)
  refine fr_cl (fr_Mo_isDigit) (fun _ _ => ?_)
  refine fr_ite ?_ ?_
  · skip
    refine fr_gF (fun _ => ?_)
    refine fr_gF (fun _ => ?_)
    refine fr_ite ?_ ?_
    · skip
      exact fr_some
    · skip
      refine fr_pF h0 (fun _ => ?_)
      exact fr_some
  · skip
    refine fr_gF (fun _ => ?_)
    refine fr_ite ?_ ?_
    · skip
      refine fr_gF (fun _ => ?_)
      exact fr_Mo_reads_223 h0 h_kb171
    · skip
      refine fr_gF (fun _ => ?_)
      refine fr_gF (fun _ => ?_)
      refine fr_cl (fr_Mo_raw) (fun _ _ => ?_)
      exact fr_Mo_reads_223 h0 h_kb171
theorem fr_Mo_reads_171 {P : Nat → Prop} {a : Nat} (h0 : P (a))  : ∀ (fu : Nat)  (μ : Mu), Fr P μ (Mo_reads_171 a fu  μ) := by
  intro fu
  induction fu with
  | zero => intros; exact fr_none
  | succ fu ih => intros; exact fr_Mo_reads_171b (a := a) h0  ih
theorem fr_Mo_reads_95b {P : Nat → Prop} {a : Nat} {kb95 : Mu → Option (Unit × Mu)} {μ : Mu} (h0 : P (a)) (h_kb95 : ∀  (μ : Mu), Fr P μ (kb95  μ)) : Fr P μ (Mo_reads_95b a kb95 μ) := by
  unfold Mo_reads_95b
  refine fr_gF (fun _ => ?_)
  refine fr_cl (fr_Mo_raw) (fun _ _ => ?_)
  refine fr_cl (fr_Mo_isLetter) (fun _ _ => ?_)
  refine fr_ite ?_ ?_
  · skip
    refine fr_gF (fun _ => ?_)
    refine fr_gF (fun _ => ?_)
    refine fr_cl (fr_Mo_wordAt) (fun _ _ => ?_)
    refine fr_pF h0 (fun _ => ?_)
    refine fr_gF (fun _ => ?_)
    refine fr_ite ?_ ?_
    · skip
      exact fr_some
    · skip
      refine fr_pF h0 (fun _ => ?_)
      exact fr_some
  · skip
    refine fr_gF (fun _ => ?_)
    refine fr_pF h0 (fun _ => ?_)
    exact h_kb95 _
theorem fr_Mo_reads_95 {P : Nat → Prop} {a : Nat} (h0 : P (a))  : ∀ (fu : Nat)  (μ : Mu), Fr P μ (Mo_reads_95 a fu  μ) := by
  intro fu
  induction fu with
  | zero => intros; exact fr_none
  | succ fu ih => intros; exact fr_Mo_reads_95b (a := a) h0  ih
theorem fr_Mo_reads_0b {P : Nat → Prop} {a : Nat} {kb0 : Mu → Option (Unit × Mu)} {μ : Mu} (h0 : P (a)) (h_kb0 : ∀  (μ : Mu), Fr P μ (kb0  μ)) : Fr P μ (Mo_reads_0b a kb0 μ) := by
  unfold Mo_reads_0b
  refine fr_gF (fun _ => ?_)
  refine fr_cl (fr_Mo_raw) (fun _ _ => ?_)
  refine fr_ite ?_ ?_
  · skip
    exact fr_Mo_reads_26 h0 h_kb0
  · skip
    refine fr_gF (fun _ => ?_)
    refine fr_cl (fr_Mo_raw) (fun _ _ => ?_)
    refine fr_ite ?_ ?_
    · skip
      exact fr_Mo_reads_26 h0 h_kb0
    · skip
      refine fr_gF (fun _ => ?_)
      refine fr_pF h0 (fun _ => ?_)
      refine fr_pF h0 (fun _ => ?_)
      refine fr_gF (fun _ => ?_)
      refine fr_cl (fr_Mo_raw) (fun _ _ => ?_)
      refine fr_ite ?_ ?_
      · skip
        refine fr_pF h0 (fun _ => ?_)
        exact fr_some
      · skip
        refine fr_gF (fun _ => ?_)
        refine fr_pF h0 (fun _ => ?_)
        refine fr_pF h0 (fun _ => ?_)
        refine fr_cl (fr_Mo_isLetter) (fun _ _ => ?_)
        refine fr_ite ?_ ?_
        · skip
          refine fr_cl (fr_Mo_isDigit) (fun _ _ => ?_)
          refine fr_ite ?_ ?_
          · skip
            refine fr_cl (fr_Mo_isMarkSign) (fun _ _ => ?_)
            refine fr_ite ?_ ?_
            · skip
              exact fr_some
            · skip
              refine fr_pF h0 (fun _ => ?_)
              exact fr_some
          · skip
            refine fr_pF h0 (fun _ => ?_)
            exact fr_Mo_reads_171 h0 _ _
        · skip
          exact fr_Mo_reads_95 h0 _ _
theorem fr_Mo_reads_0 {P : Nat → Prop} {a : Nat} (h0 : P (a))  : ∀ (fu : Nat)  (μ : Mu), Fr P μ (Mo_reads_0 a fu  μ) := by
  intro fu
  induction fu with
  | zero => intros; exact fr_none
  | succ fu ih => intros; exact fr_Mo_reads_0b (a := a) h0  ih
theorem fr_Mo_reads {P : Nat → Prop} {a : Nat} {μ : Mu} (h0 : P (a))  : Fr P μ (Mo_reads a μ) := by
  unfold Mo_reads
  exact fr_Mo_reads_0 h0 _ _
theorem fr_Mo_readUnit_71 {P : Nat → Prop} {a : Nat} {s0 : Int32} {s1 : Int32} {μ : Mu} (h0 : P (a + 12)) (h1 : P (a + 13)) (h2 : P (a))  : Fr P μ (Mo_readUnit_71 a s0 s1 μ) := by
  unfold Mo_readUnit_71
  refine fr_cl (fr_Mo_emits h0 h1 h2) (fun _ _ => ?_)
  refine fr_cl (fr_Mo_reads h2) (fun _ _ => ?_)
  exact fr_some
theorem fr_Mo_readUnit_53 {P : Nat → Prop} {a : Nat} {v1 : Int32} {s0 : Int32} {μ : Mu} (h0 : P (a + 12)) (h1 : P (a + 13)) (h2 : P (a))  : Fr P μ (Mo_readUnit_53 a v1 s0 μ) := by
  unfold Mo_readUnit_53
  refine fr_ite ?_ ?_
  · skip
    refine fr_gF (fun _ => ?_)
    exact fr_Mo_readUnit_71 h0 h1 h2
  · skip
    refine fr_gF (fun _ => ?_)
    exact fr_Mo_readUnit_71 h0 h1 h2
theorem fr_Mo_readUnit_43 {P : Nat → Prop} {a : Nat} {v1 : Int32} {μ : Mu} (h0 : P (a + 12)) (h1 : P (a + 13)) (h2 : P (a))  : Fr P μ (Mo_readUnit_43 a v1 μ) := by
  unfold Mo_readUnit_43
  refine fr_ite ?_ ?_
  · skip
    exact fr_Mo_readUnit_53 h0 h1 h2
  · skip
    exact fr_Mo_readUnit_53 h0 h1 h2
theorem fr_Mo_readUnit_24 {P : Nat → Prop} {a : Nat} {s0 : Int32} {μ : Mu} (h0 : P (a + 12)) (h1 : P (a + 13)) (h2 : P (a))  : Fr P μ (Mo_readUnit_24 a s0 μ) := by
  unfold Mo_readUnit_24
  refine fr_ite ?_ ?_
  · skip
    refine fr_gF (fun _ => ?_)
    refine fr_ite ?_ ?_
    · skip
      exact fr_Mo_readUnit_43 h0 h1 h2
    · skip
      refine fr_cl (fr_Mo_errs h2) (fun _ _ => ?_)
      exact fr_some
  · skip
    exact fr_Mo_readUnit_43 h0 h1 h2
theorem fr_Mo_readUnit_23 {P : Nat → Prop} {a : Nat} {μ : Mu} (h0 : P (a + 12)) (h1 : P (a + 13)) (h2 : P (a))  : Fr P μ (Mo_readUnit_23 a μ) := by
  unfold Mo_readUnit_23
  exact fr_Mo_readUnit_24 h0 h1 h2
theorem fr_Mo_readUnit {P : Nat → Prop} {a : Nat} {μ : Mu} (h0 : P (a + 12)) (h1 : P (a + 13)) (h2 : P (a))  : Fr P μ (Mo_readUnit a μ) := by
  unfold Mo_readUnit
  refine fr_gF (fun _ => ?_)
  refine fr_ite ?_ ?_
  · skip
    refine fr_gF (fun _ => ?_)
    refine fr_cl (fr_Mo_canAsk) (fun _ _ => ?_)
    refine fr_ite ?_ ?_
    · skip
      exact fr_Mo_readUnit_23 h0 h1 h2
    · skip
      exact fr_Mo_readUnit_24 h0 h1 h2
  · skip
    exact fr_Mo_readUnit_23 h0 h1 h2
theorem fr_Mo_readProduct_94 {P : Nat → Prop} {a : Nat} {kb10 : Mu → Option (Int32 × Mu)} {s0 : Int32} {μ : Mu} (h0 : P (a + 12)) (h1 : P (a + 13)) (h2 : P (a)) (h_kb10 : ∀  (μ : Mu), Fr P μ (kb10  μ)) : Fr P μ (Mo_readProduct_94 a kb10 s0 μ) := by
  unfold Mo_readProduct_94
  refine fr_cl (fr_Mo_emits h0 h1 h2) (fun _ _ => ?_)
  exact h_kb10 _
theorem fr_Mo_readProduct_74 {P : Nat → Prop} {a : Nat} {kb10 : Mu → Option (Int32 × Mu)} {v1 : Int32} {μ : Mu} (h0 : P (a + 12)) (h1 : P (a + 13)) (h2 : P (a)) (h_kb10 : ∀  (μ : Mu), Fr P μ (kb10  μ)) : Fr P μ (Mo_readProduct_74 a kb10 v1 μ) := by
  unfold Mo_readProduct_74
  refine fr_cl (fr_Mo_readUnit h0 h1 h2) (fun _ _ => ?_)
  refine fr_ite ?_ ?_
  · skip
    exact fr_some
  · skip
    refine fr_ite ?_ ?_
    · skip
      exact fr_Mo_readProduct_94 h0 h1 h2 h_kb10
    · skip
      exact fr_Mo_readProduct_94 h0 h1 h2 h_kb10
theorem fr_Mo_readProduct_57 {P : Nat → Prop} {a : Nat} {kb10 : Mu → Option (Int32 × Mu)} {v1 : Int32} {μ : Mu} (h0 : P (a)) (h1 : P (a + 12)) (h2 : P (a + 13)) (h_kb10 : ∀  (μ : Mu), Fr P μ (kb10  μ)) : Fr P μ (Mo_readProduct_57 a kb10 v1 μ) := by
  unfold Mo_readProduct_57
  refine fr_ite ?_ ?_
  · skip
    refine fr_gF (fun _ => ?_)
    refine fr_ite ?_ ?_
    · skip
      refine fr_cl (fr_Mo_errs h0) (fun _ _ => ?_)
      exact fr_some
    · skip
      exact fr_Mo_readProduct_74 h1 h2 h0 h_kb10
  · skip
    exact fr_Mo_readProduct_74 h1 h2 h0 h_kb10
theorem fr_Mo_readProduct_28 {P : Nat → Prop} {a : Nat} {kb10 : Mu → Option (Int32 × Mu)} {μ : Mu} (h0 : P (a)) (h1 : P (a + 12)) (h2 : P (a + 13)) (h_kb10 : ∀  (μ : Mu), Fr P μ (kb10  μ)) : Fr P μ (Mo_readProduct_28 a kb10 μ) := by
  unfold Mo_readProduct_28
  refine fr_cl (fr_Mo_isSign) (fun _ _ => ?_)
  refine fr_cl (fr_Mo_reads h0) (fun _ _ => ?_)
  refine fr_ite ?_ ?_
  · skip
    refine fr_gF (fun _ => ?_)
    refine fr_ite ?_ ?_
    · skip
      exact fr_Mo_readProduct_57 h0 h1 h2 h_kb10
    · skip
      refine fr_cl (fr_Mo_errs h0) (fun _ _ => ?_)
      exact fr_some
  · skip
    exact fr_Mo_readProduct_57 h0 h1 h2 h_kb10
theorem fr_Mo_readProduct_10b {P : Nat → Prop} {a : Nat} {kb10 : Mu → Option (Int32 × Mu)} {μ : Mu} (h0 : P (a)) (h1 : P (a + 12)) (h2 : P (a + 13)) (h_kb10 : ∀  (μ : Mu), Fr P μ (kb10  μ)) : Fr P μ (Mo_readProduct_10b a kb10 μ) := by
  unfold Mo_readProduct_10b
  refine fr_cl (fr_Mo_isSign) (fun _ _ => ?_)
  refine fr_ite ?_ ?_
  · skip
    refine fr_cl (fr_Mo_isSign) (fun _ _ => ?_)
    refine fr_ite ?_ ?_
    · skip
      exact fr_some
    · skip
      exact fr_Mo_readProduct_28 h0 h1 h2 h_kb10
  · skip
    exact fr_Mo_readProduct_28 h0 h1 h2 h_kb10
theorem fr_Mo_readProduct_10 {P : Nat → Prop} {a : Nat} (h0 : P (a)) (h1 : P (a + 12)) (h2 : P (a + 13))  : ∀ (fu : Nat)  (μ : Mu), Fr P μ (Mo_readProduct_10 a fu  μ) := by
  intro fu
  induction fu with
  | zero => intros; exact fr_none
  | succ fu ih => intros; exact fr_Mo_readProduct_10b (a := a) h0 h1 h2  ih
theorem fr_Mo_readProduct {P : Nat → Prop} {a : Nat} {μ : Mu} (h0 : P (a + 12)) (h1 : P (a + 13)) (h2 : P (a))  : Fr P μ (Mo_readProduct a μ) := by
  unfold Mo_readProduct
  refine fr_cl (fr_Mo_readUnit h0 h1 h2) (fun _ _ => ?_)
  refine fr_ite ?_ ?_
  · skip
    exact fr_some
  · skip
    exact fr_Mo_readProduct_10 h2 h0 h1 _ _
theorem fr_Mo_readSum_42 {P : Nat → Prop} {a : Nat} {kb10 : Mu → Option (Int32 × Mu)} {s0 : Int32} {μ : Mu} (h0 : P (a)) (h1 : P (a + 12)) (h2 : P (a + 13)) (h_kb10 : ∀  (μ : Mu), Fr P μ (kb10  μ)) : Fr P μ (Mo_readSum_42 a kb10 s0 μ) := by
  unfold Mo_readSum_42
  refine fr_cl (fr_Mo_reads h0) (fun _ _ => ?_)
  refine fr_cl (fr_Mo_readProduct h1 h2 h0) (fun _ _ => ?_)
  refine fr_ite ?_ ?_
  · skip
    exact fr_some
  · skip
    refine fr_cl (fr_Mo_emits h1 h2 h0) (fun _ _ => ?_)
    exact h_kb10 _
theorem fr_Mo_readSum_28 {P : Nat → Prop} {a : Nat} {kb10 : Mu → Option (Int32 × Mu)} {μ : Mu} (h0 : P (a)) (h1 : P (a + 12)) (h2 : P (a + 13)) (h_kb10 : ∀  (μ : Mu), Fr P μ (kb10  μ)) : Fr P μ (Mo_readSum_28 a kb10 μ) := by
  unfold Mo_readSum_28
  refine fr_gF (fun _ => ?_)
  refine fr_ite ?_ ?_
  · skip
    exact fr_Mo_readSum_42 h0 h1 h2 h_kb10
  · skip
    exact fr_Mo_readSum_42 h0 h1 h2 h_kb10
theorem fr_Mo_readSum_10b {P : Nat → Prop} {a : Nat} {kb10 : Mu → Option (Int32 × Mu)} {μ : Mu} (h0 : P (a)) (h1 : P (a + 12)) (h2 : P (a + 13)) (h_kb10 : ∀  (μ : Mu), Fr P μ (kb10  μ)) : Fr P μ (Mo_readSum_10b a kb10 μ) := by
  unfold Mo_readSum_10b
  refine fr_cl (fr_Mo_isSign) (fun _ _ => ?_)
  refine fr_ite ?_ ?_
  · skip
    refine fr_cl (fr_Mo_isSign) (fun _ _ => ?_)
    refine fr_ite ?_ ?_
    · skip
      exact fr_some
    · skip
      exact fr_Mo_readSum_28 h0 h1 h2 h_kb10
  · skip
    exact fr_Mo_readSum_28 h0 h1 h2 h_kb10
theorem fr_Mo_readSum_10 {P : Nat → Prop} {a : Nat} (h0 : P (a)) (h1 : P (a + 12)) (h2 : P (a + 13))  : ∀ (fu : Nat)  (μ : Mu), Fr P μ (Mo_readSum_10 a fu  μ) := by
  intro fu
  induction fu with
  | zero => intros; exact fr_none
  | succ fu ih => intros; exact fr_Mo_readSum_10b (a := a) h0 h1 h2  ih
theorem fr_Mo_readSum {P : Nat → Prop} {a : Nat} {μ : Mu} (h0 : P (a + 12)) (h1 : P (a + 13)) (h2 : P (a))  : Fr P μ (Mo_readSum a μ) := by
  unfold Mo_readSum
  refine fr_cl (fr_Mo_readProduct h0 h1 h2) (fun _ _ => ?_)
  refine fr_ite ?_ ?_
  · skip
    exact fr_some
  · skip
    exact fr_Mo_readSum_10 h2 h0 h1 _ _
theorem fr_Mo_readCompared_73 {P : Nat → Prop} {a : Nat} {s0 : Int32} {μ : Mu} (h0 : P (a)) (h1 : P (a + 12)) (h2 : P (a + 13))  : Fr P μ (Mo_readCompared_73 a s0 μ) := by
  unfold Mo_readCompared_73
  refine fr_cl (fr_Mo_reads h0) (fun _ _ => ?_)
  refine fr_cl (fr_Mo_readSum h1 h2 h0) (fun _ _ => ?_)
  refine fr_ite ?_ ?_
  · skip
    exact fr_some
  · skip
    refine fr_cl (fr_Mo_emits h1 h2 h0) (fun _ _ => ?_)
    exact fr_some
theorem fr_Mo_readCompared_43 {P : Nat → Prop} {a : Nat} {μ : Mu} (h0 : P (a)) (h1 : P (a + 12)) (h2 : P (a + 13))  : Fr P μ (Mo_readCompared_43 a μ) := by
  unfold Mo_readCompared_43
  refine fr_gF (fun _ => ?_)
  refine fr_ite ?_ ?_
  · skip
    exact fr_Mo_readCompared_73 h0 h1 h2
  · skip
    refine fr_gF (fun _ => ?_)
    refine fr_ite ?_ ?_
    · skip
      exact fr_Mo_readCompared_73 h0 h1 h2
    · skip
      exact fr_Mo_readCompared_73 h0 h1 h2
theorem fr_Mo_readCompared {P : Nat → Prop} {a : Nat} {μ : Mu} (h0 : P (a + 12)) (h1 : P (a + 13)) (h2 : P (a))  : Fr P μ (Mo_readCompared a μ) := by
  unfold Mo_readCompared
  refine fr_cl (fr_Mo_readSum h0 h1 h2) (fun _ _ => ?_)
  refine fr_ite ?_ ?_
  · skip
    exact fr_some
  · skip
    refine fr_cl (fr_Mo_isSign) (fun _ _ => ?_)
    refine fr_ite ?_ ?_
    · skip
      refine fr_cl (fr_Mo_isSign) (fun _ _ => ?_)
      refine fr_ite ?_ ?_
      · skip
        refine fr_cl (fr_Mo_isSign) (fun _ _ => ?_)
        refine fr_ite ?_ ?_
        · skip
          refine fr_cl (fr_Mo_errs h2) (fun _ _ => ?_)
          exact fr_some
        · skip
          exact fr_Mo_readCompared_43 h2 h0 h1
      · skip
        exact fr_Mo_readCompared_43 h2 h0 h1
    · skip
      exact fr_Mo_readCompared_43 h2 h0 h1
theorem fr_Mo_settles_0b {P : Nat → Prop} {a : Nat} {kb0 : Mu → Option (Unit × Mu)} {v1 : Int32} {μ : Mu} (h0 : P (a)) (h1 : P (a + 12)) (h2 : P (a + 13)) (h_kb0 : ∀  (μ : Mu), Fr P μ (kb0  μ)) : Fr P μ (Mo_settles_0b a kb0 v1 μ) := by
  unfold Mo_settles_0b
  refine fr_gF (fun _ => ?_)
  refine fr_ite ?_ ?_
  · skip
    exact fr_some
  · skip
    refine fr_gF (fun _ => ?_)
    refine fr_ldA (fun _ => ?_)
    refine fr_ite ?_ ?_
    · skip
      refine fr_gF (fun _ => ?_)
      refine fr_pF h0 (fun _ => ?_)
      refine fr_cl (fr_Mo_emits h1 h2 h0) (fun _ _ => ?_)
      refine fr_ite ?_ ?_
      · skip
        refine fr_gF (fun _ => ?_)
        refine fr_pF h0 (fun _ => ?_)
        exact h_kb0 _
      · skip
        exact h_kb0 _
    · skip
      exact fr_some
theorem fr_Mo_settles_0 {P : Nat → Prop} {a : Nat} {v1 : Int32} (h0 : P (a)) (h1 : P (a + 12)) (h2 : P (a + 13))  : ∀ (fu : Nat)  (μ : Mu), Fr P μ (Mo_settles_0 a v1 fu  μ) := by
  intro fu
  induction fu with
  | zero => intros; exact fr_none
  | succ fu ih => intros; exact fr_Mo_settles_0b (a := a) (v1 := v1) h0 h1 h2  ih
theorem fr_Mo_settles {P : Nat → Prop} {a : Nat} {v1 : Int32} {μ : Mu} (h0 : P (a)) (h1 : P (a + 12)) (h2 : P (a + 13))  : Fr P μ (Mo_settles a v1 μ) := by
  unfold Mo_settles
  exact fr_Mo_settles_0 h0 h1 h2 _ _
theorem fr_Mo_readAny_78 {P : Nat → Prop} {a : Nat} {kb9 : Int32 → Int32 → Mu → Option (Int32 × Mu)} {v1 : Int32} {v2 : Int32} {s0 : Int32} {μ : Mu} (h0 : P (a + 14)) (h1 : P (a)) (h_kb9 : ∀ (w0 : Int32) (w1 : Int32) (μ : Mu), Fr P μ (kb9 w0 w1 μ)) : Fr P μ (Mo_readAny_78 a kb9 v1 v2 s0 μ) := by
  unfold Mo_readAny_78
  refine fr_cl (fr_Mo_waits h0 h1) (fun _ _ => ?_)
  refine fr_cl (fr_Mo_reads h1) (fun _ _ => ?_)
  exact h_kb9 _ _ _
theorem fr_Mo_readAny_66 {P : Nat → Prop} {a : Nat} {kb9 : Int32 → Int32 → Mu → Option (Int32 × Mu)} {v1 : Int32} {v2 : Int32} {v3 : Int32} {μ : Mu} (h0 : P (a + 14)) (h1 : P (a)) (h_kb9 : ∀ (w0 : Int32) (w1 : Int32) (μ : Mu), Fr P μ (kb9 w0 w1 μ)) : Fr P μ (Mo_readAny_66 a kb9 v1 v2 v3 μ) := by
  unfold Mo_readAny_66
  refine fr_ite ?_ ?_
  · skip
    exact fr_Mo_readAny_78 h0 h1 h_kb9
  · skip
    exact fr_Mo_readAny_78 h0 h1 h_kb9
theorem fr_Mo_readAny_33 {P : Nat → Prop} {a : Nat} {kb9 : Int32 → Int32 → Mu → Option (Int32 × Mu)} {v1 : Int32} {v2 : Int32} {v3 : Int32} {μ : Mu} (h0 : P (a)) (h1 : P (a + 14)) (h_kb9 : ∀ (w0 : Int32) (w1 : Int32) (μ : Mu), Fr P μ (kb9 w0 w1 μ)) : Fr P μ (Mo_readAny_33 a kb9 v1 v2 v3 μ) := by
  unfold Mo_readAny_33
  refine fr_gF (fun _ => ?_)
  refine fr_ite ?_ ?_
  · skip
    refine fr_cl (fr_Mo_errs h0) (fun _ _ => ?_)
    exact fr_some
  · skip
    refine fr_gF (fun _ => ?_)
    refine fr_pF h0 (fun _ => ?_)
    refine fr_ite ?_ ?_
    · skip
      exact fr_Mo_readAny_66 h1 h0 h_kb9
    · skip
      exact fr_Mo_readAny_66 h1 h0 h_kb9
theorem fr_Mo_readAny_9b {P : Nat → Prop} {a : Nat} {kb9 : Int32 → Int32 → Mu → Option (Int32 × Mu)} {v1 : Int32} {v2 : Int32} {μ : Mu} (h0 : P (a)) (h1 : P (a + 12)) (h2 : P (a + 13)) (h3 : P (a + 14)) (h_kb9 : ∀ (w0 : Int32) (w1 : Int32) (μ : Mu), Fr P μ (kb9 w0 w1 μ)) : Fr P μ (Mo_readAny_9b a kb9 v1 v2 μ) := by
  unfold Mo_readAny_9b
  refine fr_ite ?_ ?_
  · skip
    refine fr_cl (fr_Mo_isWord) (fun _ _ => ?_)
    refine fr_ite ?_ ?_
    · skip
      refine fr_cl (fr_Mo_isWord) (fun _ _ => ?_)
      refine fr_ite ?_ ?_
      · skip
        refine fr_cl (fr_Mo_settles h0 h1 h2) (fun _ _ => ?_)
        refine fr_cl (fr_Mo_settles h0 h1 h2) (fun _ _ => ?_)
        refine fr_ite ?_ ?_
        · skip
          exact fr_some
        · skip
          refine fr_cl (fr_Mo_isSign) (fun _ _ => ?_)
          refine fr_ite ?_ ?_
          · skip
            refine fr_cl (fr_Mo_errs h0) (fun _ _ => ?_)
            exact fr_some
          · skip
            refine fr_gF (fun _ => ?_)
            refine fr_pF h0 (fun _ => ?_)
            refine fr_gF (fun _ => ?_)
            refine fr_pF h0 (fun _ => ?_)
            refine fr_cl (fr_Mo_settles h0 h1 h2) (fun _ _ => ?_)
            refine fr_cl (fr_Mo_reads h0) (fun _ _ => ?_)
            exact h_kb9 _ _ _
      · skip
        refine fr_cl (fr_Mo_settles h0 h1 h2) (fun _ _ => ?_)
        refine fr_cl (fr_Mo_settles h0 h1 h2) (fun _ _ => ?_)
        refine fr_cl (fr_Mo_waits h3 h0) (fun _ _ => ?_)
        refine fr_cl (fr_Mo_reads h0) (fun _ _ => ?_)
        exact h_kb9 _ _ _
    · skip
      refine fr_cl (fr_Mo_settles h0 h1 h2) (fun _ _ => ?_)
      refine fr_cl (fr_Mo_waits h3 h0) (fun _ _ => ?_)
      refine fr_cl (fr_Mo_reads h0) (fun _ _ => ?_)
      exact h_kb9 _ _ _
  · skip
    refine fr_cl (fr_Mo_isWord) (fun _ _ => ?_)
    refine fr_ite ?_ ?_
    · skip
      refine fr_cl (fr_Mo_isSign) (fun _ _ => ?_)
      refine fr_ite ?_ ?_
      · skip
        refine fr_cl (fr_Mo_readCompared h1 h2 h0) (fun _ _ => ?_)
        refine fr_ite ?_ ?_
        · skip
          exact fr_some
        · skip
          refine fr_cl (fr_Mo_settles h0 h1 h2) (fun _ _ => ?_)
          exact h_kb9 _ _ _
      · skip
        exact fr_Mo_readAny_33 h0 h3 h_kb9
    · skip
      exact fr_Mo_readAny_33 h0 h3 h_kb9
theorem fr_Mo_readAny_9 {P : Nat → Prop} {a : Nat} (h0 : P (a)) (h1 : P (a + 12)) (h2 : P (a + 13)) (h3 : P (a + 14))  : ∀ (fu : Nat) (w0 : Int32) (w1 : Int32) (μ : Mu), Fr P μ (Mo_readAny_9 a fu w0 w1 μ) := by
  intro fu
  induction fu with
  | zero => intros; exact fr_none
  | succ fu ih => intros; exact fr_Mo_readAny_9b (a := a) h0 h1 h2 h3  ih
theorem fr_Mo_readAny {P : Nat → Prop} {a : Nat} {μ : Mu} (h0 : P (a)) (h1 : P (a + 12)) (h2 : P (a + 13)) (h3 : P (a + 14))  : Fr P μ (Mo_readAny a μ) := by
  unfold Mo_readAny
  refine fr_pF h0 (fun _ => ?_)
  exact fr_Mo_readAny_9 h0 h1 h2 h3 _ _ _ _
theorem fr_Mo_readNumber {P : Nat → Prop} {a : Nat} {v1 : Int32} {v2 : Int32} {μ : Mu} (h0 : P (a))  : Fr P μ (Mo_readNumber a v1 v2 μ) := by
  unfold Mo_readNumber
  refine fr_gF (fun _ => ?_)
  refine fr_ite ?_ ?_
  · skip
    refine fr_gF (fun _ => ?_)
    refine fr_cl (fr_Mo_isIn) (fun _ _ => ?_)
    refine fr_ite ?_ ?_
    · skip
      refine fr_cl (fr_Mo_errs h0) (fun _ _ => ?_)
      exact fr_some
    · skip
      refine fr_gF (fun _ => ?_)
      refine fr_cl (fr_Mo_reads h0) (fun _ _ => ?_)
      exact fr_some
  · skip
    refine fr_cl (fr_Mo_errs h0) (fun _ _ => ?_)
    exact fr_some
theorem fr_Mo_readTold {P : Nat → Prop} {a : Nat} {v1 : Int32} {v2 : Int32} {v3 : Int32} {μ : Mu} (h0 : P (a))  : Fr P μ (Mo_readTold a v1 v2 v3 μ) := by
  unfold Mo_readTold
  refine fr_cl (fr_Mo_isWord) (fun _ _ => ?_)
  refine fr_ite ?_ ?_
  · skip
    refine fr_cl (fr_Mo_errs h0) (fun _ _ => ?_)
    exact fr_some
  · skip
    refine fr_cl (fr_Mo_reads h0) (fun _ _ => ?_)
    refine fr_cl (fr_Mo_readNumber h0) (fun _ _ => ?_)
    exact fr_some
theorem fr_Mo_readMark {P : Nat → Prop} {a : Nat} {v1 : Int32} {μ : Mu} (h0 : P (a))  : Fr P μ (Mo_readMark a v1 μ) := by
  unfold Mo_readMark
  refine fr_cl (fr_Mo_isSign) (fun _ _ => ?_)
  refine fr_ite ?_ ?_
  · skip
    refine fr_cl (fr_Mo_errs h0) (fun _ _ => ?_)
    exact fr_some
  · skip
    refine fr_cl (fr_Mo_reads h0) (fun _ _ => ?_)
    exact fr_some
theorem fr_Mo_readDeed_152 {P : Nat → Prop} {a : Nat} {v1 : Int32} {s0 : Int32} {s1 : Int32} {μ : Mu} (h0 : P (a + 17)) (h1 : P (a))  : Fr P μ (Mo_readDeed_152 a v1 s0 s1 μ) := by
  unfold Mo_readDeed_152
  refine fr_stA h0 (fun _ => ?_)
  refine fr_ldA (fun _ => ?_)
  refine fr_ite ?_ ?_
  · skip
    exact fr_some
  · skip
    refine fr_cl (fr_Mo_readMark h1) (fun _ _ => ?_)
    exact fr_some
theorem fr_Mo_readDeed_114 {P : Nat → Prop} {a : Nat} {v1 : Int32} {v2 : Int32} {s0 : Int32} {s1 : Int32} {μ : Mu} (h0 : P (a + 17)) (h1 : P (a))  : Fr P μ (Mo_readDeed_114 a v1 v2 s0 s1 μ) := by
  unfold Mo_readDeed_114
  refine fr_stA h0 (fun _ => ?_)
  refine fr_ldA (fun _ => ?_)
  refine fr_ite ?_ ?_
  · skip
    exact fr_some
  · skip
    refine fr_ite ?_ ?_
    · skip
      refine fr_cl (fr_Mo_readNumber h1) (fun _ _ => ?_)
      exact fr_Mo_readDeed_152 h0 h1
    · skip
      exact fr_Mo_readDeed_152 h0 h1
theorem fr_Mo_readDeed {P : Nat → Prop} {a : Nat} {v1 : Int32} {μ : Mu} (h0 : P (a)) (h1 : P (a + 17))  : Fr P μ (Mo_readDeed a v1 μ) := by
  unfold Mo_readDeed
  refine fr_cl (fr_Mo_readTold h0) (fun _ _ => ?_)
  refine fr_stA h1 (fun _ => ?_)
  refine fr_ldA (fun _ => ?_)
  refine fr_ite ?_ ?_
  · skip
    exact fr_some
  · skip
    refine fr_cl (fr_Mo_kindOfDeed) (fun _ _ => ?_)
    refine fr_ite ?_ ?_
    · skip
      refine fr_cl (fr_Mo_errs h0) (fun _ _ => ?_)
      exact fr_some
    · skip
      refine fr_cl (fr_Mo_reads h0) (fun _ _ => ?_)
      refine fr_stA h1 (fun _ => ?_)
      refine fr_ite ?_ ?_
      · skip
        exact fr_Mo_readDeed_114 h1 h0
      · skip
        refine fr_ite ?_ ?_
        · skip
          refine fr_cl (fr_Mo_readNumber h0) (fun _ _ => ?_)
          exact fr_Mo_readDeed_114 h1 h0
        · skip
          refine fr_ite ?_ ?_
          · skip
            refine fr_cl (fr_Mo_readNumber h0) (fun _ _ => ?_)
            exact fr_Mo_readDeed_114 h1 h0
          · skip
            refine fr_gF (fun _ => ?_)
            refine fr_cl (fr_Mo_readNumber h0) (fun _ _ => ?_)
            exact fr_Mo_readDeed_114 h1 h0
theorem fr_Mo_readHeir_62 {P : Nat → Prop} {a : Nat} {v1 : Int32} {μ : Mu} (h0 : P (a)) (h1 : P (a + 18))  : Fr P μ (Mo_readHeir_62 a v1 μ) := by
  unfold Mo_readHeir_62
  refine fr_gF (fun _ => ?_)
  refine fr_cl (fr_Mo_readNumber h0) (fun _ _ => ?_)
  refine fr_ite ?_ ?_
  · skip
    exact fr_some
  · skip
    refine fr_stA h1 (fun _ => ?_)
    refine fr_cl (fr_Mo_readMark h0) (fun _ _ => ?_)
    exact fr_some
theorem fr_Mo_readHeir {P : Nat → Prop} {a : Nat} {μ : Mu} (h0 : P (a)) (h1 : P (a + 18))  : Fr P μ (Mo_readHeir a μ) := by
  unfold Mo_readHeir
  refine fr_gF (fun _ => ?_)
  refine fr_cl (fr_Mo_readTold h0) (fun _ _ => ?_)
  refine fr_ite ?_ ?_
  · skip
    exact fr_some
  · skip
    refine fr_cl (fr_Mo_isWord) (fun _ _ => ?_)
    refine fr_ite ?_ ?_
    · skip
      refine fr_cl (fr_Mo_errs h0) (fun _ _ => ?_)
      exact fr_some
    · skip
      refine fr_cl (fr_Mo_reads h0) (fun _ _ => ?_)
      refine fr_gF (fun _ => ?_)
      refine fr_ite ?_ ?_
      · skip
        refine fr_gF (fun _ => ?_)
        refine fr_ite ?_ ?_
        · skip
          refine fr_cl (fr_Mo_errs h0) (fun _ _ => ?_)
          exact fr_some
        · skip
          exact fr_Mo_readHeir_62 h0 h1
      · skip
        exact fr_Mo_readHeir_62 h0 h1
theorem fr_Mo_readHeirs_26b {P : Nat → Prop} {a : Nat} {kb26 : Int32 → Mu → Option (Int32 × Mu)} {v1 : Int32} {μ : Mu} (h0 : P (a)) (h1 : P (a + 18)) (h_kb26 : ∀ (w0 : Int32) (μ : Mu), Fr P μ (kb26 w0 μ)) : Fr P μ (Mo_readHeirs_26b a kb26 v1 μ) := by
  unfold Mo_readHeirs_26b
  refine fr_cl (fr_Mo_isWord) (fun _ _ => ?_)
  refine fr_ite ?_ ?_
  · skip
    refine fr_gF (fun _ => ?_)
    refine fr_ite ?_ ?_
    · skip
      exact fr_some
    · skip
      refine fr_cl (fr_Mo_errs h0) (fun _ _ => ?_)
      exact fr_some
  · skip
    refine fr_ite ?_ ?_
    · skip
      refine fr_cl (fr_Mo_errs h0) (fun _ _ => ?_)
      exact fr_some
    · skip
      refine fr_cl (fr_Mo_readHeir h0 h1) (fun _ _ => ?_)
      refine fr_ite ?_ ?_
      · skip
        exact fr_some
      · skip
        exact h_kb26 _ _
theorem fr_Mo_readHeirs_26 {P : Nat → Prop} {a : Nat} (h0 : P (a)) (h1 : P (a + 18))  : ∀ (fu : Nat) (w0 : Int32) (μ : Mu), Fr P μ (Mo_readHeirs_26 a fu w0 μ) := by
  intro fu
  induction fu with
  | zero => intros; exact fr_none
  | succ fu ih => intros; exact fr_Mo_readHeirs_26b (a := a) h0 h1  ih
theorem fr_Mo_readHeirs_2b {P : Nat → Prop} {a : Nat} {kb2 : Int32 → Mu → Option (Int32 × Mu)} {v1 : Int32} {μ : Mu} (h0 : P (a)) (h1 : P (a + 18)) (h_kb2 : ∀ (w0 : Int32) (μ : Mu), Fr P μ (kb2 w0 μ)) : Fr P μ (Mo_readHeirs_2b a kb2 v1 μ) := by
  unfold Mo_readHeirs_2b
  refine fr_ite ?_ ?_
  · skip
    exact fr_Mo_readHeirs_26 h0 h1 _ _ _
  · skip
    refine fr_stA h1 (fun _ => ?_)
    exact h_kb2 _ _
theorem fr_Mo_readHeirs_2 {P : Nat → Prop} {a : Nat} (h0 : P (a)) (h1 : P (a + 18))  : ∀ (fu : Nat) (w0 : Int32) (μ : Mu), Fr P μ (Mo_readHeirs_2 a fu w0 μ) := by
  intro fu
  induction fu with
  | zero => intros; exact fr_none
  | succ fu ih => intros; exact fr_Mo_readHeirs_2b (a := a) h0 h1  ih
theorem fr_Mo_readHeirs {P : Nat → Prop} {a : Nat} {μ : Mu} (h0 : P (a)) (h1 : P (a + 18))  : Fr P μ (Mo_readHeirs a μ) := by
  unfold Mo_readHeirs
  exact fr_Mo_readHeirs_2 h0 h1 _ _ _
theorem fr_Mo_readLaw_92 {P : Nat → Prop} {a : Nat} {kb2 : Int32 → Mu → Option (Int32 × Mu)} {v1 : Int32} {v2 : Int32} {μ : Mu} (h0 : P (a + 11)) (h1 : P (a)) (h_kb2 : ∀ (w0 : Int32) (μ : Mu), Fr P μ (kb2 w0 μ)) : Fr P μ (Mo_readLaw_92 a kb2 v1 v2 μ) := by
  unfold Mo_readLaw_92
  refine fr_gF (fun _ => ?_)
  refine fr_stA h0 (fun _ => ?_)
  refine fr_cl (fr_Mo_isSign) (fun _ _ => ?_)
  refine fr_ite ?_ ?_
  · skip
    refine fr_cl (fr_Mo_errs h1) (fun _ _ => ?_)
    exact fr_some
  · skip
    refine fr_cl (fr_Mo_reads h1) (fun _ _ => ?_)
    exact h_kb2 _ _
theorem fr_Mo_readLaw_2b {P : Nat → Prop} {a : Nat} {kb2 : Int32 → Mu → Option (Int32 × Mu)} {v1 : Int32} {μ : Mu} (h0 : P (a)) (h1 : P (a + 8)) (h2 : P (a + 9)) (h3 : P (a + 12)) (h4 : P (a + 13)) (h5 : P (a + 10)) (h6 : P (a + 11)) (h7 : P (a + 14)) (h_kb2 : ∀ (w0 : Int32) (μ : Mu), Fr P μ (kb2 w0 μ)) : Fr P μ (Mo_readLaw_2b a kb2 v1 μ) := by
  unfold Mo_readLaw_2b
  refine fr_cl (fr_Mo_isLineWord) (fun _ _ => ?_)
  refine fr_ite ?_ ?_
  · skip
    refine fr_gF (fun _ => ?_)
    refine fr_ite ?_ ?_
    · skip
      exact fr_some
    · skip
      refine fr_cl (fr_Mo_errs h0) (fun _ _ => ?_)
      exact fr_some
  · skip
    refine fr_ite ?_ ?_
    · skip
      refine fr_cl (fr_Mo_errs h0) (fun _ _ => ?_)
      exact fr_some
    · skip
      refine fr_gF (fun _ => ?_)
      refine fr_stA h1 (fun _ => ?_)
      refine fr_cl (fr_Mo_reads h0) (fun _ _ => ?_)
      refine fr_gF (fun _ => ?_)
      refine fr_stA h2 (fun _ => ?_)
      refine fr_cl (fr_Mo_readSum h3 h4 h0) (fun _ _ => ?_)
      refine fr_ite ?_ ?_
      · skip
        exact fr_some
      · skip
        refine fr_gF (fun _ => ?_)
        refine fr_stA h5 (fun _ => ?_)
        refine fr_cl (fr_Mo_isWord) (fun _ _ => ?_)
        refine fr_ite ?_ ?_
        · skip
          exact fr_Mo_readLaw_92 h6 h0 h_kb2
        · skip
          refine fr_cl (fr_Mo_reads h0) (fun _ _ => ?_)
          refine fr_cl (fr_Mo_readAny h0 h3 h4 h7) (fun _ _ => ?_)
          refine fr_ite ?_ ?_
          · skip
            exact fr_some
          · skip
            exact fr_Mo_readLaw_92 h6 h0 h_kb2
theorem fr_Mo_readLaw_2 {P : Nat → Prop} {a : Nat} (h0 : P (a)) (h1 : P (a + 8)) (h2 : P (a + 9)) (h3 : P (a + 12)) (h4 : P (a + 13)) (h5 : P (a + 10)) (h6 : P (a + 11)) (h7 : P (a + 14))  : ∀ (fu : Nat) (w0 : Int32) (μ : Mu), Fr P μ (Mo_readLaw_2 a fu w0 μ) := by
  intro fu
  induction fu with
  | zero => intros; exact fr_none
  | succ fu ih => intros; exact fr_Mo_readLaw_2b (a := a) h0 h1 h2 h3 h4 h5 h6 h7  ih
theorem fr_Mo_readLaw {P : Nat → Prop} {a : Nat} {μ : Mu} (h0 : P (a)) (h1 : P (a + 8)) (h2 : P (a + 9)) (h3 : P (a + 12)) (h4 : P (a + 13)) (h5 : P (a + 10)) (h6 : P (a + 11)) (h7 : P (a + 14))  : Fr P μ (Mo_readLaw a μ) := by
  unfold Mo_readLaw
  exact fr_Mo_readLaw_2 h0 h1 h2 h3 h4 h5 h6 h7 _ _ _
theorem fr_Mo_readTable_2b {P : Nat → Prop} {a : Nat} {kb2 : Int32 → Mu → Option (Int32 × Mu)} {v1 : Int32} {μ : Mu} (h0 : P (a)) (h1 : P (a + 15)) (h2 : P (a + 16)) (h_kb2 : ∀ (w0 : Int32) (μ : Mu), Fr P μ (kb2 w0 μ)) : Fr P μ (Mo_readTable_2b a kb2 v1 μ) := by
  unfold Mo_readTable_2b
  refine fr_cl (fr_Mo_isWord) (fun _ _ => ?_)
  refine fr_ite ?_ ?_
  · skip
    refine fr_gF (fun _ => ?_)
    refine fr_ite ?_ ?_
    · skip
      exact fr_some
    · skip
      refine fr_cl (fr_Mo_errs h0) (fun _ _ => ?_)
      exact fr_some
  · skip
    refine fr_ite ?_ ?_
    · skip
      refine fr_cl (fr_Mo_errs h0) (fun _ _ => ?_)
      exact fr_some
    · skip
      refine fr_cl (fr_Mo_readTold h0) (fun _ _ => ?_)
      refine fr_stA h1 (fun _ => ?_)
      refine fr_ldA (fun _ => ?_)
      refine fr_ite ?_ ?_
      · skip
        exact fr_some
      · skip
        refine fr_gF (fun _ => ?_)
        refine fr_cl (fr_Mo_readTold h0) (fun _ _ => ?_)
        refine fr_stA h2 (fun _ => ?_)
        refine fr_ldA (fun _ => ?_)
        refine fr_ite ?_ ?_
        · skip
          exact fr_some
        · skip
          refine fr_cl (fr_Mo_readMark h0) (fun _ _ => ?_)
          refine fr_ite ?_ ?_
          · skip
            exact fr_some
          · skip
            exact h_kb2 _ _
theorem fr_Mo_readTable_2 {P : Nat → Prop} {a : Nat} (h0 : P (a)) (h1 : P (a + 15)) (h2 : P (a + 16))  : ∀ (fu : Nat) (w0 : Int32) (μ : Mu), Fr P μ (Mo_readTable_2 a fu w0 μ) := by
  intro fu
  induction fu with
  | zero => intros; exact fr_none
  | succ fu ih => intros; exact fr_Mo_readTable_2b (a := a) h0 h1 h2  ih
theorem fr_Mo_readTable {P : Nat → Prop} {a : Nat} {μ : Mu} (h0 : P (a)) (h1 : P (a + 15)) (h2 : P (a + 16))  : Fr P μ (Mo_readTable a μ) := by
  unfold Mo_readTable
  exact fr_Mo_readTable_2 h0 h1 h2 _ _ _
theorem fr_Mo_readWeather_2b {P : Nat → Prop} {a : Nat} {kb2 : Int32 → Mu → Option (Int32 × Mu)} {v1 : Int32} {μ : Mu} (h0 : P (a)) (h1 : P (a + 17)) (h_kb2 : ∀ (w0 : Int32) (μ : Mu), Fr P μ (kb2 w0 μ)) : Fr P μ (Mo_readWeather_2b a kb2 v1 μ) := by
  unfold Mo_readWeather_2b
  refine fr_cl (fr_Mo_isWord) (fun _ _ => ?_)
  refine fr_ite ?_ ?_
  · skip
    refine fr_gF (fun _ => ?_)
    refine fr_ite ?_ ?_
    · skip
      exact fr_some
    · skip
      refine fr_cl (fr_Mo_errs h0) (fun _ _ => ?_)
      exact fr_some
  · skip
    refine fr_ite ?_ ?_
    · skip
      refine fr_cl (fr_Mo_errs h0) (fun _ _ => ?_)
      exact fr_some
    · skip
      refine fr_cl (fr_Mo_readDeed h0 h1) (fun _ _ => ?_)
      refine fr_ite ?_ ?_
      · skip
        exact fr_some
      · skip
        exact h_kb2 _ _
theorem fr_Mo_readWeather_2 {P : Nat → Prop} {a : Nat} (h0 : P (a)) (h1 : P (a + 17))  : ∀ (fu : Nat) (w0 : Int32) (μ : Mu), Fr P μ (Mo_readWeather_2 a fu w0 μ) := by
  intro fu
  induction fu with
  | zero => intros; exact fr_none
  | succ fu ih => intros; exact fr_Mo_readWeather_2b (a := a) h0 h1  ih
theorem fr_Mo_readWeather {P : Nat → Prop} {a : Nat} {μ : Mu} (h0 : P (a)) (h1 : P (a + 17))  : Fr P μ (Mo_readWeather a μ) := by
  unfold Mo_readWeather
  exact fr_Mo_readWeather_2 h0 h1 _ _ _
theorem fr_Mo_readsText {P : Nat → Prop} {a : Nat} {v1 : Int32} {μ : Mu} (h0 : P (a)) (h1 : P (a + 15)) (h2 : P (a + 16)) (h3 : P (a + 17)) (h4 : P (a + 18)) (h5 : P (a + 8)) (h6 : P (a + 9)) (h7 : P (a + 12)) (h8 : P (a + 13)) (h9 : P (a + 10)) (h10 : P (a + 11)) (h11 : P (a + 14))  : Fr P μ (Mo_readsText a v1 μ) := by
  unfold Mo_readsText
  refine fr_pF h0 (fun _ => ?_)
  refine fr_cl (fr_Mo_reads h0) (fun _ _ => ?_)
  refine fr_ite ?_ ?_
  · skip
    refine fr_cl (fr_Mo_readTable h0 h1 h2) (fun _ _ => ?_)
    exact fr_some
  · skip
    refine fr_ite ?_ ?_
    · skip
      refine fr_cl (fr_Mo_readWeather h0 h3) (fun _ _ => ?_)
      exact fr_some
    · skip
      refine fr_ite ?_ ?_
      · skip
        refine fr_cl (fr_Mo_readHeirs h0 h4) (fun _ _ => ?_)
        exact fr_some
      · skip
        refine fr_cl (fr_Mo_readLaw h0 h5 h6 h7 h8 h9 h10 h11) (fun _ _ => ?_)
        exact fr_some
theorem fr_Mo_row {P : Nat → Prop} {a : Nat} {v1 : Int32} {v2 : Int32} {μ : Mu} (h0 : P (a)) (h1 : P (a + 26)) (h2 : P (a + 27))  : Fr P μ (Mo_row a v1 v2 μ) := by
  unfold Mo_row
  refine fr_pF h0 (fun _ => ?_)
  refine fr_cl (fr_Mo_isIn) (fun _ _ => ?_)
  refine fr_ite ?_ ?_
  · skip
    exact fr_some
  · skip
    refine fr_ite ?_ ?_
    · skip
      refine fr_stA h1 (fun _ => ?_)
      exact fr_some
    · skip
      refine fr_cl (fr_Mo_isIn) (fun _ _ => ?_)
      refine fr_ite ?_ ?_
      · skip
        exact fr_some
      · skip
        refine fr_ldA (fun _ => ?_)
        refine fr_ite ?_ ?_
        · skip
          exact fr_some
        · skip
          refine fr_ldA (fun _ => ?_)
          refine fr_stA h2 (fun _ => ?_)
          refine fr_ldA (fun _ => ?_)
          refine fr_stA h1 (fun _ => ?_)
          refine fr_ldA (fun _ => ?_)
          exact fr_some
theorem fr_Mo_set_116 {P : Nat → Prop} {a : Nat} {μ : Mu} (h0 : P (a))  : Fr P μ (Mo_set_116 a μ) := by
  unfold Mo_set_116
  refine fr_pF h0 (fun _ => ?_)
  exact fr_some
theorem fr_Mo_set_112 {P : Nat → Prop} {a : Nat} {v2 : Int32} {v3 : Int32} {s0 : Int32} {μ : Mu} (h0 : P (a + 1)) (h1 : P (a))  : Fr P μ (Mo_set_112 a v2 v3 s0 μ) := by
  unfold Mo_set_112
  refine fr_stA h0 (fun _ => ?_)
  exact fr_Mo_set_116 h1
theorem fr_Mo_set_73 {P : Nat → Prop} {a : Nat} {v1 : Int32} {v2 : Int32} {v3 : Int32} {s0 : Int32} {μ : Mu} (h0 : P (a + 1)) (h1 : P (a))  : Fr P μ (Mo_set_73 a v1 v2 v3 s0 μ) := by
  unfold Mo_set_73
  refine fr_ite ?_ ?_
  · skip
    exact fr_some
  · skip
    refine fr_ite ?_ ?_
    · skip
      refine fr_stA h0 (fun _ => ?_)
      exact fr_Mo_set_116 h1
    · skip
      refine fr_ite ?_ ?_
      · skip
        exact fr_Mo_set_112 h0 h1
      · skip
        exact fr_Mo_set_112 h0 h1
theorem fr_Mo_set_72 {P : Nat → Prop} {a : Nat} {v1 : Int32} {v2 : Int32} {v3 : Int32} {μ : Mu} (h0 : P (a + 1)) (h1 : P (a))  : Fr P μ (Mo_set_72 a v1 v2 v3 μ) := by
  unfold Mo_set_72
  exact fr_Mo_set_73 h0 h1
theorem fr_Mo_set_62 {P : Nat → Prop} {a : Nat} {v1 : Int32} {v2 : Int32} {v3 : Int32} {s0 : Int32} {s1 : Int32} {s2 : Int32} {μ : Mu} (h0 : P (a + 1)) (h1 : P (a))  : Fr P μ (Mo_set_62 a v1 v2 v3 s0 s1 s2 μ) := by
  unfold Mo_set_62
  refine fr_cl (fr_Mo_isIn) (fun _ _ => ?_)
  refine fr_ite ?_ ?_
  · skip
    exact fr_Mo_set_72 h0 h1
  · skip
    exact fr_Mo_set_73 h0 h1
theorem fr_Mo_set {P : Nat → Prop} {a : Nat} {v1 : Int32} {v2 : Int32} {v3 : Int32} {μ : Mu} (h0 : P (a)) (h1 : P (a + 1))  : Fr P μ (Mo_set a v1 v2 v3 μ) := by
  unfold Mo_set
  refine fr_pF h0 (fun _ => ?_)
  refine fr_ite ?_ ?_
  · skip
    refine fr_cl (fr_Mo_isIn) (fun _ _ => ?_)
    exact fr_Mo_set_73 h1 h0
  · skip
    refine fr_cl (fr_Mo_isIn) (fun _ _ => ?_)
    refine fr_ite ?_ ?_
    · skip
      exact fr_Mo_set_72 h1 h0
    · skip
      refine fr_cl (fr_Mo_isPerson) (fun _ _ => ?_)
      refine fr_ite ?_ ?_
      · skip
        exact fr_Mo_set_72 h1 h0
      · skip
        refine fr_cl (fr_Mo_isAlive) (fun _ _ => ?_)
        refine fr_ite ?_ ?_
        · skip
          exact fr_Mo_set_72 h1 h0
        · skip
          refine fr_ite ?_ ?_
          · skip
            exact fr_Mo_set_62 h1 h0
          · skip
            exact fr_Mo_set_62 h1 h0
theorem fr_Mo_shadow_117 {P : Nat → Prop} {a : Nat} {kb19 : Int32 → Mu → Option (Int32 × Mu)} {kb31 : Int32 → Mu → Option (Int32 × Mu)} {v1 : Int32} {v2 : Int32} {v3 : Int32} {v4 : Int32} {μ : Mu} (h0 : P (a + 28)) (h_kb19 : ∀ (w0 : Int32) (μ : Mu), Fr P μ (kb19 w0 μ)) (h_kb31 : ∀ (w0 : Int32) (μ : Mu), Fr P μ (kb31 w0 μ)) : Fr P μ (Mo_shadow_117 a kb19 kb31 v1 v2 v3 v4 μ) := by
  unfold Mo_shadow_117
  refine fr_stA h0 (fun _ => ?_)
  exact h_kb31 _ _
theorem fr_Mo_shadow_114 {P : Nat → Prop} {a : Nat} {kb19 : Int32 → Mu → Option (Int32 × Mu)} {kb31 : Int32 → Mu → Option (Int32 × Mu)} {v1 : Int32} {v2 : Int32} {v3 : Int32} {s0 : Int32} {s1 : Int32} {μ : Mu} (h0 : P (a + 28)) (h_kb19 : ∀ (w0 : Int32) (μ : Mu), Fr P μ (kb19 w0 μ)) (h_kb31 : ∀ (w0 : Int32) (μ : Mu), Fr P μ (kb31 w0 μ)) : Fr P μ (Mo_shadow_114 a kb19 kb31 v1 v2 v3 s0 s1 μ) := by
  unfold Mo_shadow_114
  exact fr_Mo_shadow_117 h0 h_kb19 h_kb31
theorem fr_Mo_shadow_50 {P : Nat → Prop} {a : Nat} {kb19 : Int32 → Mu → Option (Int32 × Mu)} {kb31 : Int32 → Mu → Option (Int32 × Mu)} {v1 : Int32} {v2 : Int32} {v3 : Int32} {s0 : Int32} {μ : Mu} (h0 : P (a + 28)) (h_kb19 : ∀ (w0 : Int32) (μ : Mu), Fr P μ (kb19 w0 μ)) (h_kb31 : ∀ (w0 : Int32) (μ : Mu), Fr P μ (kb31 w0 μ)) : Fr P μ (Mo_shadow_50 a kb19 kb31 v1 v2 v3 s0 μ) := by
  unfold Mo_shadow_50
  refine fr_ite ?_ ?_
  · skip
    exact fr_Mo_shadow_117 h0 h_kb19 h_kb31
  · skip
    refine fr_ite ?_ ?_
    · skip
      exact fr_Mo_shadow_117 h0 h_kb19 h_kb31
    · skip
      refine fr_ldA (fun _ => ?_)
      refine fr_ldA (fun _ => ?_)
      refine fr_ldA (fun _ => ?_)
      refine fr_ite ?_ ?_
      · skip
        refine fr_ldA (fun _ => ?_)
        exact fr_Mo_shadow_114 h0 h_kb19 h_kb31
      · skip
        exact fr_Mo_shadow_114 h0 h_kb19 h_kb31
theorem fr_Mo_shadow_31b {P : Nat → Prop} {a : Nat} {kb19 : Int32 → Mu → Option (Int32 × Mu)} {kb31 : Int32 → Mu → Option (Int32 × Mu)} {v1 : Int32} {v2 : Int32} {v3 : Int32} {μ : Mu} (h0 : P (a + 28)) (h_kb19 : ∀ (w0 : Int32) (μ : Mu), Fr P μ (kb19 w0 μ)) (h_kb31 : ∀ (w0 : Int32) (μ : Mu), Fr P μ (kb31 w0 μ)) : Fr P μ (Mo_shadow_31b a kb19 kb31 v1 v2 v3 μ) := by
  unfold Mo_shadow_31b
  refine fr_ldA (fun _ => ?_)
  refine fr_ite ?_ ?_
  · skip
    exact h_kb19 _ _
  · skip
    refine fr_ite ?_ ?_
    · skip
      exact fr_Mo_shadow_50 h0 h_kb19 h_kb31
    · skip
      exact fr_Mo_shadow_50 h0 h_kb19 h_kb31
theorem fr_Mo_shadow_31 {P : Nat → Prop} {a : Nat} {kb19 : Int32 → Mu → Option (Int32 × Mu)} {v1 : Int32} {v2 : Int32} (h0 : P (a + 28)) (h_kb19 : ∀ (w0 : Int32) (μ : Mu), Fr P μ (kb19 w0 μ)) : ∀ (fu : Nat) (w0 : Int32) (μ : Mu), Fr P μ (Mo_shadow_31 a kb19 v1 v2 fu w0 μ) := by
  intro fu
  induction fu with
  | zero => intros; exact fr_none
  | succ fu ih => intros; exact fr_Mo_shadow_31b (a := a) (kb19 := kb19) (v1 := v1) (v2 := v2) h0 h_kb19 ih
theorem fr_Mo_shadow_19b {P : Nat → Prop} {a : Nat} {kb19 : Int32 → Mu → Option (Int32 × Mu)} {v1 : Int32} {v2 : Int32} {μ : Mu} (h0 : P (a + 28)) (h_kb19 : ∀ (w0 : Int32) (μ : Mu), Fr P μ (kb19 w0 μ)) : Fr P μ (Mo_shadow_19b a kb19 v1 v2 μ) := by
  unfold Mo_shadow_19b
  refine fr_ldA (fun _ => ?_)
  refine fr_ite ?_ ?_
  · skip
    refine fr_ldA (fun _ => ?_)
    refine fr_ldA (fun _ => ?_)
    refine fr_ldA (fun _ => ?_)
    refine fr_ite ?_ ?_
    · skip
      exact fr_some
    · skip
      refine fr_ite ?_ ?_
      · skip
        exact fr_some
      · skip
        exact fr_some
  · skip
    exact fr_Mo_shadow_31 h0 h_kb19 _ _ _
theorem fr_Mo_shadow_19 {P : Nat → Prop} {a : Nat} {v1 : Int32} (h0 : P (a + 28))  : ∀ (fu : Nat) (w0 : Int32) (μ : Mu), Fr P μ (Mo_shadow_19 a v1 fu w0 μ) := by
  intro fu
  induction fu with
  | zero => intros; exact fr_none
  | succ fu ih => intros; exact fr_Mo_shadow_19b (a := a) (v1 := v1) h0  ih
theorem fr_Mo_shadow {P : Nat → Prop} {a : Nat} {v1 : Int32} {μ : Mu} (h0 : P (a)) (h1 : P (a + 28))  : Fr P μ (Mo_shadow a v1 μ) := by
  unfold Mo_shadow
  refine fr_pF h0 (fun _ => ?_)
  refine fr_cl (fr_Mo_isIn) (fun _ _ => ?_)
  refine fr_ite ?_ ?_
  · skip
    exact fr_some
  · skip
    exact fr_Mo_shadow_19 h1 _ _ _
theorem fr_Mo_side {P : Nat → Prop} {a : Nat} {v1 : Int32} {v2 : Int32} {v3 : Int32} {μ : Mu} (h0 : P (a))  : Fr P μ (Mo_side a v1 v2 v3 μ) := by
  unfold Mo_side
  refine fr_pF h0 (fun _ => ?_)
  refine fr_gF (fun _ => ?_)
  refine fr_cl (fr_Mo_isIn) (fun _ _ => ?_)
  refine fr_ite ?_ ?_
  · skip
    exact fr_some
  · skip
    refine fr_gF (fun _ => ?_)
    refine fr_cl (fr_Mo_isIn) (fun _ _ => ?_)
    refine fr_ite ?_ ?_
    · skip
      exact fr_some
    · skip
      refine fr_gF (fun _ => ?_)
      refine fr_cl (fr_Mo_isIn) (fun _ _ => ?_)
      refine fr_ite ?_ ?_
      · skip
        exact fr_some
      · skip
        refine fr_ite ?_ ?_
        · skip
          exact fr_some
        · skip
          refine fr_cl (fr_Mo_areaOf) (fun _ _ => ?_)
          refine fr_ite ?_ ?_
          · skip
            refine fr_ite ?_ ?_
            · skip
              exact fr_some
            · skip
              exact fr_some
          · skip
            exact fr_some
theorem fr_Mo_slabs_120 {P : Nat → Prop} {a : Nat} {kb36 : Int32 → Mu → Option (Int32 × Mu)} {kb50 : Int32 → Mu → Option (Int32 × Mu)} {v1 : Int32} {v2 : Int32} {v3 : Int32} {μ : Mu}  (h_kb36 : ∀ (w0 : Int32) (μ : Mu), Fr P μ (kb36 w0 μ)) (h_kb50 : ∀ (w0 : Int32) (μ : Mu), Fr P μ (kb50 w0 μ)) : Fr P μ (Mo_slabs_120 a kb36 kb50 v1 v2 v3 μ) := by
  unfold Mo_slabs_120
  exact h_kb50 _ _
theorem fr_Mo_slabs_50b {P : Nat → Prop} {a : Nat} {kb36 : Int32 → Mu → Option (Int32 × Mu)} {kb50 : Int32 → Mu → Option (Int32 × Mu)} {v1 : Int32} {v2 : Int32} {v3 : Int32} {μ : Mu} (h0 : P (a + 25)) (h_kb36 : ∀ (w0 : Int32) (μ : Mu), Fr P μ (kb36 w0 μ)) (h_kb50 : ∀ (w0 : Int32) (μ : Mu), Fr P μ (kb50 w0 μ)) : Fr P μ (Mo_slabs_50b a kb36 kb50 v1 v2 v3 μ) := by
  unfold Mo_slabs_50b
  refine fr_ite ?_ ?_
  · skip
    exact h_kb36 _ _
  · skip
    refine fr_ldA (fun _ => ?_)
    refine fr_ldA (fun _ => ?_)
    refine fr_ldA (fun _ => ?_)
    refine fr_cl (fr_Mo_added) (fun _ _ => ?_)
    refine fr_cl (fr_Mo_added) (fun _ _ => ?_)
    refine fr_stA h0 (fun _ => ?_)
    refine fr_ite ?_ ?_
    · skip
      refine fr_ldA (fun _ => ?_)
      refine fr_ldA (fun _ => ?_)
      refine fr_cl (fr_Mo_added) (fun _ _ => ?_)
      refine fr_stA h0 (fun _ => ?_)
      exact fr_Mo_slabs_120  h_kb36 h_kb50
    · skip
      exact fr_Mo_slabs_120  h_kb36 h_kb50
theorem fr_Mo_slabs_50 {P : Nat → Prop} {a : Nat} {kb36 : Int32 → Mu → Option (Int32 × Mu)} {v1 : Int32} {v2 : Int32} (h0 : P (a + 25)) (h_kb36 : ∀ (w0 : Int32) (μ : Mu), Fr P μ (kb36 w0 μ)) : ∀ (fu : Nat) (w0 : Int32) (μ : Mu), Fr P μ (Mo_slabs_50 a kb36 v1 v2 fu w0 μ) := by
  intro fu
  induction fu with
  | zero => intros; exact fr_none
  | succ fu ih => intros; exact fr_Mo_slabs_50b (a := a) (kb36 := kb36) (v1 := v1) (v2 := v2) h0 h_kb36 ih
theorem fr_Mo_slabs_36b {P : Nat → Prop} {a : Nat} {kb36 : Int32 → Mu → Option (Int32 × Mu)} {v1 : Int32} {v2 : Int32} {μ : Mu} (h0 : P (a + 25)) (h_kb36 : ∀ (w0 : Int32) (μ : Mu), Fr P μ (kb36 w0 μ)) : Fr P μ (Mo_slabs_36b a kb36 v1 v2 μ) := by
  unfold Mo_slabs_36b
  refine fr_ite ?_ ?_
  · skip
    refine fr_ldA (fun _ => ?_)
    exact fr_some
  · skip
    refine fr_stA h0 (fun _ => ?_)
    exact fr_Mo_slabs_50 h0 h_kb36 _ _ _
theorem fr_Mo_slabs_36 {P : Nat → Prop} {a : Nat} {v1 : Int32} (h0 : P (a + 25))  : ∀ (fu : Nat) (w0 : Int32) (μ : Mu), Fr P μ (Mo_slabs_36 a v1 fu w0 μ) := by
  intro fu
  induction fu with
  | zero => intros; exact fr_none
  | succ fu ih => intros; exact fr_Mo_slabs_36b (a := a) (v1 := v1) h0  ih
theorem fr_Mo_slabs {P : Nat → Prop} {a : Nat} {v1 : Int32} {μ : Mu} (h0 : P (a)) (h1 : P (a + 25))  : Fr P μ (Mo_slabs a v1 μ) := by
  unfold Mo_slabs
  refine fr_pF h0 (fun _ => ?_)
  refine fr_cl (fr_Mo_isIn) (fun _ _ => ?_)
  refine fr_ite ?_ ?_
  · skip
    exact fr_some
  · skip
    refine fr_ite ?_ ?_
    · skip
      exact fr_some
    · skip
      refine fr_stA h1 (fun _ => ?_)
      exact fr_Mo_slabs_36 h1 _ _ _
theorem fr_Mo_stage_32b {P : Nat → Prop} {a : Nat} {kb32 : Int32 → Mu → Option (Int32 × Mu)} {v1 : Int32} {v2 : Int32} {μ : Mu} (h0 : P (a + 32)) (h1 : P (a)) (h_kb32 : ∀ (w0 : Int32) (μ : Mu), Fr P μ (kb32 w0 μ)) : Fr P μ (Mo_stage_32b a kb32 v1 v2 μ) := by
  unfold Mo_stage_32b
  refine fr_gF (fun _ => ?_)
  refine fr_ite ?_ ?_
  · skip
    refine fr_gF (fun _ => ?_)
    refine fr_ite ?_ ?_
    · skip
      exact fr_some
    · skip
      refine fr_gF (fun _ => ?_)
      refine fr_stA h0 (fun _ => ?_)
      refine fr_gF (fun _ => ?_)
      refine fr_pF h1 (fun _ => ?_)
      refine fr_gF (fun _ => ?_)
      exact fr_some
  · skip
    refine fr_ldA (fun _ => ?_)
    refine fr_ite ?_ ?_
    · skip
      refine fr_gF (fun _ => ?_)
      exact fr_some
    · skip
      exact h_kb32 _ _
theorem fr_Mo_stage_32 {P : Nat → Prop} {a : Nat} {v1 : Int32} (h0 : P (a + 32)) (h1 : P (a))  : ∀ (fu : Nat) (w0 : Int32) (μ : Mu), Fr P μ (Mo_stage_32 a v1 fu w0 μ) := by
  intro fu
  induction fu with
  | zero => intros; exact fr_none
  | succ fu ih => intros; exact fr_Mo_stage_32b (a := a) (v1 := v1) h0 h1  ih
theorem fr_Mo_stage {P : Nat → Prop} {a : Nat} {v1 : Int32} {μ : Mu} (h0 : P (a)) (h1 : P (a + 32))  : Fr P μ (Mo_stage a v1 μ) := by
  unfold Mo_stage
  refine fr_pF h0 (fun _ => ?_)
  refine fr_ite ?_ ?_
  · skip
    refine fr_pF h0 (fun _ => ?_)
    exact fr_some
  · skip
    refine fr_cl (fr_Mo_isIn) (fun _ _ => ?_)
    refine fr_ite ?_ ?_
    · skip
      exact fr_some
    · skip
      exact fr_Mo_stage_32 h1 h0 _ _ _
theorem fr_Mo_state {P : Nat → Prop} {a : Nat} {v1 : Int32} {μ : Mu} (h0 : P (a)) (h1 : P (a + 1))  : Fr P μ (Mo_state a v1 μ) := by
  unfold Mo_state
  refine fr_pF h0 (fun _ => ?_)
  refine fr_ldA (fun _ => ?_)
  refine fr_stA h1 (fun _ => ?_)
  refine fr_pF h0 (fun _ => ?_)
  exact fr_some
theorem fr_Mo_switches_41b {P : Nat → Prop} {a : Nat} {kb41 : Int32 → Mu → Option (Int32 × Mu)} {v1 : Int32} {v3 : Int32} {μ : Mu}  (h_kb41 : ∀ (w0 : Int32) (μ : Mu), Fr P μ (kb41 w0 μ)) : Fr P μ (Mo_switches_41b a kb41 v1 v3 μ) := by
  unfold Mo_switches_41b
  refine fr_ite ?_ ?_
  · skip
    exact fr_some
  · skip
    exact h_kb41 _ _
theorem fr_Mo_switches_41 {P : Nat → Prop} {a : Nat} {v1 : Int32}   : ∀ (fu : Nat) (w0 : Int32) (μ : Mu), Fr P μ (Mo_switches_41 a v1 fu w0 μ) := by
  intro fu
  induction fu with
  | zero => intros; exact fr_none
  | succ fu ih => intros; exact fr_Mo_switches_41b (a := a) (v1 := v1)   ih
theorem fr_Mo_switches {P : Nat → Prop} {a : Nat} {v1 : Int32} {v2 : Int32} {μ : Mu} (h0 : P (a))  : Fr P μ (Mo_switches a v1 v2 μ) := by
  unfold Mo_switches
  refine fr_pF h0 (fun _ => ?_)
  refine fr_cl (fr_Mo_isIn) (fun _ _ => ?_)
  refine fr_ite ?_ ?_
  · skip
    exact fr_some
  · skip
    refine fr_cl (fr_Mo_isIn) (fun _ _ => ?_)
    refine fr_ite ?_ ?_
    · skip
      exact fr_some
    · skip
      refine fr_ite ?_ ?_
      · skip
        exact fr_some
      · skip
        exact fr_Mo_switches_41 _ _ _
theorem fr_Mo_takesLaw_107b {P : Nat → Prop} {a : Nat} {kb107 : Int32 → Mu → Option (Unit × Mu)} {v1 : Int32} {v2 : Int32} {μ : Mu} (h0 : P (a + 7)) (h1 : P (a + 12)) (h2 : P (a + 13)) (h_kb107 : ∀ (w0 : Int32) (μ : Mu), Fr P μ (kb107 w0 μ)) : Fr P μ (Mo_takesLaw_107b a kb107 v1 v2 μ) := by
  unfold Mo_takesLaw_107b
  refine fr_gF (fun _ => ?_)
  refine fr_ite ?_ ?_
  · skip
    refine fr_gF (fun _ => ?_)
    refine fr_stA h0 (fun _ => ?_)
    exact fr_some
  · skip
    refine fr_gF (fun _ => ?_)
    refine fr_ldA (fun _ => ?_)
    refine fr_stA h1 (fun _ => ?_)
    refine fr_gF (fun _ => ?_)
    refine fr_ldA (fun _ => ?_)
    refine fr_stA h2 (fun _ => ?_)
    exact h_kb107 _ _
theorem fr_Mo_takesLaw_107 {P : Nat → Prop} {a : Nat} {v1 : Int32} (h0 : P (a + 7)) (h1 : P (a + 12)) (h2 : P (a + 13))  : ∀ (fu : Nat) (w0 : Int32) (μ : Mu), Fr P μ (Mo_takesLaw_107 a v1 fu w0 μ) := by
  intro fu
  induction fu with
  | zero => intros; exact fr_none
  | succ fu ih => intros; exact fr_Mo_takesLaw_107b (a := a) (v1 := v1) h0 h1 h2  ih
theorem fr_Mo_takesLaw_2b {P : Nat → Prop} {a : Nat} {kb2 : Int32 → Mu → Option (Unit × Mu)} {v1 : Int32} {v2 : Int32} {μ : Mu} (h0 : P (a + 7)) (h1 : P (a + 12)) (h2 : P (a + 13)) (h3 : P (a + 8)) (h4 : P (a + 9)) (h5 : P (a + 10)) (h6 : P (a + 11)) (h_kb2 : ∀ (w0 : Int32) (μ : Mu), Fr P μ (kb2 w0 μ)) : Fr P μ (Mo_takesLaw_2b a kb2 v1 v2 μ) := by
  unfold Mo_takesLaw_2b
  refine fr_ite ?_ ?_
  · skip
    exact fr_Mo_takesLaw_107 h0 h1 h2 _ _ _
  · skip
    refine fr_gF (fun _ => ?_)
    refine fr_ldA (fun _ => ?_)
    refine fr_stA h3 (fun _ => ?_)
    refine fr_gF (fun _ => ?_)
    refine fr_ldA (fun _ => ?_)
    refine fr_stA h4 (fun _ => ?_)
    refine fr_gF (fun _ => ?_)
    refine fr_ldA (fun _ => ?_)
    refine fr_stA h5 (fun _ => ?_)
    refine fr_gF (fun _ => ?_)
    refine fr_ldA (fun _ => ?_)
    refine fr_stA h6 (fun _ => ?_)
    exact h_kb2 _ _
theorem fr_Mo_takesLaw_2 {P : Nat → Prop} {a : Nat} {v1 : Int32} (h0 : P (a + 7)) (h1 : P (a + 12)) (h2 : P (a + 13)) (h3 : P (a + 8)) (h4 : P (a + 9)) (h5 : P (a + 10)) (h6 : P (a + 11))  : ∀ (fu : Nat) (w0 : Int32) (μ : Mu), Fr P μ (Mo_takesLaw_2 a v1 fu w0 μ) := by
  intro fu
  induction fu with
  | zero => intros; exact fr_none
  | succ fu ih => intros; exact fr_Mo_takesLaw_2b (a := a) (v1 := v1) h0 h1 h2 h3 h4 h5 h6  ih
theorem fr_Mo_takesLaw {P : Nat → Prop} {a : Nat} {v1 : Int32} {μ : Mu} (h0 : P (a + 7)) (h1 : P (a + 12)) (h2 : P (a + 13)) (h3 : P (a + 8)) (h4 : P (a + 9)) (h5 : P (a + 10)) (h6 : P (a + 11))  : Fr P μ (Mo_takesLaw a v1 μ) := by
  unfold Mo_takesLaw
  exact fr_Mo_takesLaw_2 h0 h1 h2 h3 h4 h5 h6 _ _ _
theorem fr_Mo_takesTable_97 {P : Nat → Prop} {a : Nat} {kb28 : Int32 → Mu → Option (Unit × Mu)} {v1 : Int32} {v2 : Int32} {μ : Mu}  (h_kb28 : ∀ (w0 : Int32) (μ : Mu), Fr P μ (kb28 w0 μ)) : Fr P μ (Mo_takesTable_97 a kb28 v1 v2 μ) := by
  unfold Mo_takesTable_97
  exact h_kb28 _ _
theorem fr_Mo_takesTable_75 {P : Nat → Prop} {a : Nat} {kb28 : Int32 → Mu → Option (Unit × Mu)} {v1 : Int32} {v2 : Int32} {μ : Mu} (h0 : P (a + 1)) (h_kb28 : ∀ (w0 : Int32) (μ : Mu), Fr P μ (kb28 w0 μ)) : Fr P μ (Mo_takesTable_75 a kb28 v1 v2 μ) := by
  unfold Mo_takesTable_75
  refine fr_ldA (fun _ => ?_)
  refine fr_ldA (fun _ => ?_)
  refine fr_stA h0 (fun _ => ?_)
  exact fr_Mo_takesTable_97  h_kb28
theorem fr_Mo_takesTable_28b {P : Nat → Prop} {a : Nat} {kb28 : Int32 → Mu → Option (Unit × Mu)} {v1 : Int32} {v2 : Int32} {μ : Mu} (h0 : P (a)) (h1 : P (a + 1)) (h_kb28 : ∀ (w0 : Int32) (μ : Mu), Fr P μ (kb28 w0 μ)) : Fr P μ (Mo_takesTable_28b a kb28 v1 v2 μ) := by
  unfold Mo_takesTable_28b
  refine fr_ite ?_ ?_
  · skip
    refine fr_pF h0 (fun _ => ?_)
    exact fr_some
  · skip
    refine fr_ldA (fun _ => ?_)
    refine fr_cl (fr_Mo_isAlive) (fun _ _ => ?_)
    refine fr_ite ?_ ?_
    · skip
      exact fr_Mo_takesTable_97  h_kb28
    · skip
      refine fr_ldA (fun _ => ?_)
      refine fr_cl (fr_Mo_whoHas) (fun _ _ => ?_)
      refine fr_ite ?_ ?_
      · skip
        exact fr_Mo_takesTable_75 h1 h_kb28
      · skip
        refine fr_stA h1 (fun _ => ?_)
        exact fr_Mo_takesTable_75 h1 h_kb28
theorem fr_Mo_takesTable_28 {P : Nat → Prop} {a : Nat} {v1 : Int32} (h0 : P (a)) (h1 : P (a + 1))  : ∀ (fu : Nat) (w0 : Int32) (μ : Mu), Fr P μ (Mo_takesTable_28 a v1 fu w0 μ) := by
  intro fu
  induction fu with
  | zero => intros; exact fr_none
  | succ fu ih => intros; exact fr_Mo_takesTable_28b (a := a) (v1 := v1) h0 h1  ih
theorem fr_Mo_takesTable_2b {P : Nat → Prop} {a : Nat} {kb2 : Int32 → Mu → Option (Unit × Mu)} {v1 : Int32} {v2 : Int32} {μ : Mu} (h0 : P (a)) (h1 : P (a + 1)) (h_kb2 : ∀ (w0 : Int32) (μ : Mu), Fr P μ (kb2 w0 μ)) : Fr P μ (Mo_takesTable_2b a kb2 v1 v2 μ) := by
  unfold Mo_takesTable_2b
  refine fr_gF (fun _ => ?_)
  refine fr_ite ?_ ?_
  · skip
    exact fr_Mo_takesTable_28 h0 h1 _ _ _
  · skip
    refine fr_stA h1 (fun _ => ?_)
    exact h_kb2 _ _
theorem fr_Mo_takesTable_2 {P : Nat → Prop} {a : Nat} {v1 : Int32} (h0 : P (a)) (h1 : P (a + 1))  : ∀ (fu : Nat) (w0 : Int32) (μ : Mu), Fr P μ (Mo_takesTable_2 a v1 fu w0 μ) := by
  intro fu
  induction fu with
  | zero => intros; exact fr_none
  | succ fu ih => intros; exact fr_Mo_takesTable_2b (a := a) (v1 := v1) h0 h1  ih
theorem fr_Mo_takesTable {P : Nat → Prop} {a : Nat} {v1 : Int32} {μ : Mu} (h0 : P (a)) (h1 : P (a + 1))  : Fr P μ (Mo_takesTable a v1 μ) := by
  unfold Mo_takesTable
  exact fr_Mo_takesTable_2 h0 h1 _ _ _
theorem fr_Mo_takesOther_88 {P : Nat → Prop} {a : Nat} {μ : Mu} (h0 : P (a))  : Fr P μ (Mo_takesOther_88 a μ) := by
  unfold Mo_takesOther_88
  refine fr_pF h0 (fun _ => ?_)
  exact fr_some
theorem fr_Mo_takesOther_55b {P : Nat → Prop} {a : Nat} {kb55 : Int32 → Mu → Option (Unit × Mu)} {v2 : Int32} {v3 : Int32} {μ : Mu} (h0 : P (a)) (h1 : P (a + 17)) (h_kb55 : ∀ (w0 : Int32) (μ : Mu), Fr P μ (kb55 w0 μ)) : Fr P μ (Mo_takesOther_55b a kb55 v2 v3 μ) := by
  unfold Mo_takesOther_55b
  refine fr_ite ?_ ?_
  · skip
    refine fr_pF h0 (fun _ => ?_)
    exact fr_Mo_takesOther_88 h0
  · skip
    refine fr_ldA (fun _ => ?_)
    refine fr_stA h1 (fun _ => ?_)
    exact h_kb55 _ _
theorem fr_Mo_takesOther_55 {P : Nat → Prop} {a : Nat} {v2 : Int32} (h0 : P (a)) (h1 : P (a + 17))  : ∀ (fu : Nat) (w0 : Int32) (μ : Mu), Fr P μ (Mo_takesOther_55 a v2 fu w0 μ) := by
  intro fu
  induction fu with
  | zero => intros; exact fr_none
  | succ fu ih => intros; exact fr_Mo_takesOther_55b (a := a) (v2 := v2) h0 h1  ih
theorem fr_Mo_takesOther_7b {P : Nat → Prop} {a : Nat} {kb7 : Int32 → Mu → Option (Unit × Mu)} {v2 : Int32} {v3 : Int32} {μ : Mu} (h0 : P (a)) (h1 : P (a + 18)) (h_kb7 : ∀ (w0 : Int32) (μ : Mu), Fr P μ (kb7 w0 μ)) : Fr P μ (Mo_takesOther_7b a kb7 v2 v3 μ) := by
  unfold Mo_takesOther_7b
  refine fr_ite ?_ ?_
  · skip
    refine fr_pF h0 (fun _ => ?_)
    exact fr_some
  · skip
    refine fr_ldA (fun _ => ?_)
    refine fr_stA h1 (fun _ => ?_)
    exact h_kb7 _ _
theorem fr_Mo_takesOther_7 {P : Nat → Prop} {a : Nat} {v2 : Int32} (h0 : P (a)) (h1 : P (a + 18))  : ∀ (fu : Nat) (w0 : Int32) (μ : Mu), Fr P μ (Mo_takesOther_7 a v2 fu w0 μ) := by
  intro fu
  induction fu with
  | zero => intros; exact fr_none
  | succ fu ih => intros; exact fr_Mo_takesOther_7b (a := a) (v2 := v2) h0 h1  ih
theorem fr_Mo_takesOther {P : Nat → Prop} {a : Nat} {v1 : Int32} {v2 : Int32} {μ : Mu} (h0 : P (a)) (h1 : P (a + 18)) (h2 : P (a + 1)) (h3 : P (a + 17))  : Fr P μ (Mo_takesOther a v1 v2 μ) := by
  unfold Mo_takesOther
  refine fr_ite ?_ ?_
  · skip
    exact fr_Mo_takesOther_7 h0 h1 _ _ _
  · skip
    refine fr_ite ?_ ?_
    · skip
      refine fr_cl (fr_Mo_takesTable h0 h2) (fun _ _ => ?_)
      exact fr_Mo_takesOther_88 h0
    · skip
      exact fr_Mo_takesOther_55 h0 h3 _ _ _
theorem fr_Mo_tellsOf_76 {P : Nat → Prop} {a : Nat} {kb4 : Int32 → Int32 → Mu → Option (Int32 × Mu)} {v1 : Int32} {v2 : Int32} {v3 : Int32} {μ : Mu}  (h_kb4 : ∀ (w0 : Int32) (w1 : Int32) (μ : Mu), Fr P μ (kb4 w0 w1 μ)) : Fr P μ (Mo_tellsOf_76 a kb4 v1 v2 v3 μ) := by
  unfold Mo_tellsOf_76
  exact h_kb4 _ _ _
theorem fr_Mo_tellsOf_51 {P : Nat → Prop} {a : Nat} {kb4 : Int32 → Int32 → Mu → Option (Int32 × Mu)} {v1 : Int32} {v2 : Int32} {v3 : Int32} {μ : Mu} (h0 : P (a + 31)) (h_kb4 : ∀ (w0 : Int32) (w1 : Int32) (μ : Mu), Fr P μ (kb4 w0 w1 μ)) : Fr P μ (Mo_tellsOf_51 a kb4 v1 v2 v3 μ) := by
  unfold Mo_tellsOf_51
  refine fr_stA h0 (fun _ => ?_)
  refine fr_ldA (fun _ => ?_)
  refine fr_stA h0 (fun _ => ?_)
  exact fr_Mo_tellsOf_76  h_kb4
theorem fr_Mo_tellsOf_4b {P : Nat → Prop} {a : Nat} {kb4 : Int32 → Int32 → Mu → Option (Int32 × Mu)} {v1 : Int32} {v2 : Int32} {v3 : Int32} {μ : Mu} (h0 : P (a + 31)) (h_kb4 : ∀ (w0 : Int32) (w1 : Int32) (μ : Mu), Fr P μ (kb4 w0 w1 μ)) : Fr P μ (Mo_tellsOf_4b a kb4 v1 v2 v3 μ) := by
  unfold Mo_tellsOf_4b
  refine fr_ite ?_ ?_
  · skip
    exact fr_some
  · skip
    refine fr_ite ?_ ?_
    · skip
      exact fr_Mo_tellsOf_51 h0 h_kb4
    · skip
      refine fr_ldA (fun _ => ?_)
      refine fr_ldA (fun _ => ?_)
      refine fr_ite ?_ ?_
      · skip
        refine fr_ldA (fun _ => ?_)
        refine fr_stA h0 (fun _ => ?_)
        exact fr_Mo_tellsOf_76  h_kb4
      · skip
        exact fr_Mo_tellsOf_51 h0 h_kb4
theorem fr_Mo_tellsOf_4 {P : Nat → Prop} {a : Nat} {v1 : Int32} (h0 : P (a + 31))  : ∀ (fu : Nat) (w0 : Int32) (w1 : Int32) (μ : Mu), Fr P μ (Mo_tellsOf_4 a v1 fu w0 w1 μ) := by
  intro fu
  induction fu with
  | zero => intros; exact fr_none
  | succ fu ih => intros; exact fr_Mo_tellsOf_4b (a := a) (v1 := v1) h0  ih
theorem fr_Mo_tellsOf {P : Nat → Prop} {a : Nat} {v1 : Int32} {μ : Mu} (h0 : P (a + 31))  : Fr P μ (Mo_tellsOf a v1 μ) := by
  unfold Mo_tellsOf
  exact fr_Mo_tellsOf_4 h0 _ _ _ _
theorem fr_Mo_tellsOne_25b {P : Nat → Prop} {a : Nat} {kb11 : Int32 → Int32 → Mu → Option (Int32 × Mu)} {kb25 : Int32 → Mu → Option (Int32 × Mu)} {v1 : Int32} {v2 : Int32} {v3 : Int32} {v4 : Int32} {μ : Mu} (h0 : P (a + 30)) (h_kb11 : ∀ (w0 : Int32) (w1 : Int32) (μ : Mu), Fr P μ (kb11 w0 w1 μ)) (h_kb25 : ∀ (w0 : Int32) (μ : Mu), Fr P μ (kb25 w0 μ)) : Fr P μ (Mo_tellsOne_25b a kb11 kb25 v1 v2 v3 v4 μ) := by
  unfold Mo_tellsOne_25b
  refine fr_ite ?_ ?_
  · skip
    exact h_kb11 _ _ _
  · skip
    refine fr_ldA (fun _ => ?_)
    refine fr_stA h0 (fun _ => ?_)
    exact h_kb25 _ _
theorem fr_Mo_tellsOne_25 {P : Nat → Prop} {a : Nat} {kb11 : Int32 → Int32 → Mu → Option (Int32 × Mu)} {v1 : Int32} {v2 : Int32} {v3 : Int32} (h0 : P (a + 30)) (h_kb11 : ∀ (w0 : Int32) (w1 : Int32) (μ : Mu), Fr P μ (kb11 w0 w1 μ)) : ∀ (fu : Nat) (w0 : Int32) (μ : Mu), Fr P μ (Mo_tellsOne_25 a kb11 v1 v2 v3 fu w0 μ) := by
  intro fu
  induction fu with
  | zero => intros; exact fr_none
  | succ fu ih => intros; exact fr_Mo_tellsOne_25b (a := a) (kb11 := kb11) (v1 := v1) (v2 := v2) (v3 := v3) h0 h_kb11 ih
theorem fr_Mo_tellsOne_11b {P : Nat → Prop} {a : Nat} {kb11 : Int32 → Int32 → Mu → Option (Int32 × Mu)} {v1 : Int32} {v2 : Int32} {v3 : Int32} {μ : Mu} (h0 : P (a + 31)) (h1 : P (a + 30)) (h_kb11 : ∀ (w0 : Int32) (w1 : Int32) (μ : Mu), Fr P μ (kb11 w0 w1 μ)) : Fr P μ (Mo_tellsOne_11b a kb11 v1 v2 v3 μ) := by
  unfold Mo_tellsOne_11b
  refine fr_ite ?_ ?_
  · skip
    exact fr_some
  · skip
    refine fr_cl (fr_Mo_tellsOf h0) (fun _ _ => ?_)
    exact fr_Mo_tellsOne_25 h1 h_kb11 _ _ _
theorem fr_Mo_tellsOne_11 {P : Nat → Prop} {a : Nat} {v1 : Int32} (h0 : P (a + 31)) (h1 : P (a + 30))  : ∀ (fu : Nat) (w0 : Int32) (w1 : Int32) (μ : Mu), Fr P μ (Mo_tellsOne_11 a v1 fu w0 w1 μ) := by
  intro fu
  induction fu with
  | zero => intros; exact fr_none
  | succ fu ih => intros; exact fr_Mo_tellsOne_11b (a := a) (v1 := v1) h0 h1  ih
theorem fr_Mo_tellsOne {P : Nat → Prop} {a : Nat} {v1 : Int32} {μ : Mu} (h0 : P (a + 30)) (h1 : P (a + 31))  : Fr P μ (Mo_tellsOne a v1 μ) := by
  unfold Mo_tellsOne
  refine fr_stA h0 (fun _ => ?_)
  exact fr_Mo_tellsOne_11 h1 h0 _ _ _ _
theorem fr_Mo_text_69 {P : Nat → Prop} {a : Nat} {v1 : Int32} {v2 : Int32} {μ : Mu} (h0 : P (a)) (h1 : P (a + 7)) (h2 : P (a + 12)) (h3 : P (a + 13)) (h4 : P (a + 8)) (h5 : P (a + 9)) (h6 : P (a + 10)) (h7 : P (a + 11)) (h8 : P (a + 18)) (h9 : P (a + 1)) (h10 : P (a + 17))  : Fr P μ (Mo_text_69 a v1 v2 μ) := by
  unfold Mo_text_69
  refine fr_pF h0 (fun _ => ?_)
  refine fr_ite ?_ ?_
  · skip
    exact fr_some
  · skip
    refine fr_ite ?_ ?_
    · skip
      refine fr_cl (fr_Mo_takesLaw h1 h2 h3 h4 h5 h6 h7) (fun _ _ => ?_)
      exact fr_some
    · skip
      refine fr_cl (fr_Mo_takesOther h0 h8 h9 h10) (fun _ _ => ?_)
      exact fr_some
theorem fr_Mo_text {P : Nat → Prop} {a : Nat} {v1 : Int32} {μ : Mu} (h0 : P (a)) (h1 : P (a + 7)) (h2 : P (a + 12)) (h3 : P (a + 13)) (h4 : P (a + 8)) (h5 : P (a + 9)) (h6 : P (a + 10)) (h7 : P (a + 11)) (h8 : P (a + 18)) (h9 : P (a + 1)) (h10 : P (a + 17)) (h11 : P (a + 15)) (h12 : P (a + 16)) (h13 : P (a + 14))  : Fr P μ (Mo_text a v1 μ) := by
  unfold Mo_text
  refine fr_pF h0 (fun _ => ?_)
  refine fr_pF h0 (fun _ => ?_)
  refine fr_pF h0 (fun _ => ?_)
  refine fr_pF h0 (fun _ => ?_)
  refine fr_pF h0 (fun _ => ?_)
  refine fr_pF h0 (fun _ => ?_)
  refine fr_cl (fr_Mo_isIn) (fun _ _ => ?_)
  refine fr_ite ?_ ?_
  · skip
    exact fr_Mo_text_69 h0 h1 h2 h3 h4 h5 h6 h7 h8 h9 h10
  · skip
    refine fr_cl (fr_Mo_readsText h0 h11 h12 h10 h8 h4 h5 h2 h3 h6 h7 h13) (fun _ _ => ?_)
    refine fr_ite ?_ ?_
    · skip
      refine fr_gF (fun _ => ?_)
      refine fr_pF h0 (fun _ => ?_)
      refine fr_gF (fun _ => ?_)
      refine fr_pF h0 (fun _ => ?_)
      exact fr_Mo_text_69 h0 h1 h2 h3 h4 h5 h6 h7 h8 h9 h10
    · skip
      exact fr_Mo_text_69 h0 h1 h2 h3 h4 h5 h6 h7 h8 h9 h10
theorem fr_Mo_told_31b {P : Nat → Prop} {a : Nat} {kb31 : Int32 → Mu → Option (Int32 × Mu)} {v1 : Int32} {v2 : Int32} {μ : Mu} (h0 : P (a + 31)) (h1 : P (a + 30)) (h_kb31 : ∀ (w0 : Int32) (μ : Mu), Fr P μ (kb31 w0 μ)) : Fr P μ (Mo_told_31b a kb31 v1 v2 μ) := by
  unfold Mo_told_31b
  refine fr_ldA (fun _ => ?_)
  refine fr_ite ?_ ?_
  · skip
    refine fr_ldA (fun _ => ?_)
    refine fr_cl (fr_Mo_tellsOf h0) (fun _ _ => ?_)
    refine fr_ite ?_ ?_
    · skip
      exact fr_some
    · skip
      refine fr_cl (fr_Mo_isIn) (fun _ _ => ?_)
      refine fr_ite ?_ ?_
      · skip
        exact fr_some
      · skip
        refine fr_ldA (fun _ => ?_)
        exact fr_some
  · skip
    refine fr_ldA (fun _ => ?_)
    refine fr_stA h1 (fun _ => ?_)
    exact h_kb31 _ _
theorem fr_Mo_told_31 {P : Nat → Prop} {a : Nat} {v1 : Int32} (h0 : P (a + 31)) (h1 : P (a + 30))  : ∀ (fu : Nat) (w0 : Int32) (μ : Mu), Fr P μ (Mo_told_31 a v1 fu w0 μ) := by
  intro fu
  induction fu with
  | zero => intros; exact fr_none
  | succ fu ih => intros; exact fr_Mo_told_31b (a := a) (v1 := v1) h0 h1  ih
theorem fr_Mo_told {P : Nat → Prop} {a : Nat} {v1 : Int32} {μ : Mu} (h0 : P (a)) (h1 : P (a + 31)) (h2 : P (a + 30))  : Fr P μ (Mo_told a v1 μ) := by
  unfold Mo_told
  refine fr_pF h0 (fun _ => ?_)
  refine fr_cl (fr_Mo_isIn) (fun _ _ => ?_)
  refine fr_ite ?_ ?_
  · skip
    exact fr_Mo_told_31 h1 h2 _ _ _
  · skip
    refine fr_cl (fr_Mo_tellsOne h2 h1) (fun _ _ => ?_)
    exact fr_some
theorem fr_Mo_turnedOf_4b {P : Nat → Prop} {a : Nat} {kb4 : Int32 → Int32 → Mu → Option (Int32 × Mu)} {v2 : Int32} {v3 : Int32} {μ : Mu}  (h_kb4 : ∀ (w0 : Int32) (w1 : Int32) (μ : Mu), Fr P μ (kb4 w0 w1 μ)) : Fr P μ (Mo_turnedOf_4b a kb4 v2 v3 μ) := by
  unfold Mo_turnedOf_4b
  refine fr_ite ?_ ?_
  · skip
    exact fr_some
  · skip
    exact h_kb4 _ _ _
theorem fr_Mo_turnedOf_4 {P : Nat → Prop} {a : Nat}   : ∀ (fu : Nat) (w0 : Int32) (w1 : Int32) (μ : Mu), Fr P μ (Mo_turnedOf_4 a fu w0 w1 μ) := by
  intro fu
  induction fu with
  | zero => intros; exact fr_none
  | succ fu ih => intros; exact fr_Mo_turnedOf_4b (a := a)   ih
theorem fr_Mo_turnedOf {P : Nat → Prop} {a : Nat} {v1 : Int32} {μ : Mu}   : Fr P μ (Mo_turnedOf a v1 μ) := by
  unfold Mo_turnedOf
  exact fr_Mo_turnedOf_4 _ _ _ _
theorem fr_Mo_turned_34b {P : Nat → Prop} {a : Nat} {kb34 : Int32 → Int32 → Mu → Option (Int32 × Mu)} {v2 : Int32} {v3 : Int32} {v4 : Int32} {μ : Mu}  (h_kb34 : ∀ (w0 : Int32) (w1 : Int32) (μ : Mu), Fr P μ (kb34 w0 w1 μ)) : Fr P μ (Mo_turned_34b a kb34 v2 v3 v4 μ) := by
  unfold Mo_turned_34b
  refine fr_ite ?_ ?_
  · skip
    exact fr_some
  · skip
    refine fr_cl (fr_Mo_turnedOf) (fun _ _ => ?_)
    refine fr_ite ?_ ?_
    · skip
      refine fr_ite ?_ ?_
      · skip
        exact fr_some
      · skip
        exact fr_some
    · skip
      refine fr_cl (fr_Mo_turnedOf) (fun _ _ => ?_)
      refine fr_ite ?_ ?_
      · skip
        refine fr_cl (fr_Mo_turnedOf) (fun _ _ => ?_)
        exact h_kb34 _ _ _
      · skip
        exact fr_some
theorem fr_Mo_turned_34 {P : Nat → Prop} {a : Nat} {v2 : Int32}   : ∀ (fu : Nat) (w0 : Int32) (w1 : Int32) (μ : Mu), Fr P μ (Mo_turned_34 a v2 fu w0 w1 μ) := by
  intro fu
  induction fu with
  | zero => intros; exact fr_none
  | succ fu ih => intros; exact fr_Mo_turned_34b (a := a) (v2 := v2)   ih
theorem fr_Mo_turned {P : Nat → Prop} {a : Nat} {v1 : Int32} {v2 : Int32} {μ : Mu} (h0 : P (a))  : Fr P μ (Mo_turned a v1 v2 μ) := by
  unfold Mo_turned
  refine fr_pF h0 (fun _ => ?_)
  refine fr_cl (fr_Mo_isIn) (fun _ _ => ?_)
  refine fr_ite ?_ ?_
  · skip
    exact fr_some
  · skip
    refine fr_cl (fr_Mo_isIn) (fun _ _ => ?_)
    refine fr_ite ?_ ?_
    · skip
      exact fr_some
    · skip
      exact fr_Mo_turned_34 _ _ _ _
theorem fr_Mo_undo_26b {P : Nat → Prop} {a : Nat} {kb26 : Int32 → Mu → Option (Int32 × Mu)} {v1 : Int32} {μ : Mu} (h0 : P (a + 1)) (h_kb26 : ∀ (w0 : Int32) (μ : Mu), Fr P μ (kb26 w0 μ)) : Fr P μ (Mo_undo_26b a kb26 v1 μ) := by
  unfold Mo_undo_26b
  refine fr_ite ?_ ?_
  · skip
    exact fr_some
  · skip
    refine fr_gF (fun _ => ?_)
    refine fr_ldA (fun _ => ?_)
    refine fr_stA h0 (fun _ => ?_)
    exact h_kb26 _ _
theorem fr_Mo_undo_26 {P : Nat → Prop} {a : Nat} (h0 : P (a + 1))  : ∀ (fu : Nat) (w0 : Int32) (μ : Mu), Fr P μ (Mo_undo_26 a fu w0 μ) := by
  intro fu
  induction fu with
  | zero => intros; exact fr_none
  | succ fu ih => intros; exact fr_Mo_undo_26b (a := a) h0  ih
theorem fr_Mo_undo {P : Nat → Prop} {a : Nat} {μ : Mu} (h0 : P (a)) (h1 : P (a + 1))  : Fr P μ (Mo_undo a μ) := by
  unfold Mo_undo
  refine fr_pF h0 (fun _ => ?_)
  refine fr_gF (fun _ => ?_)
  refine fr_ite ?_ ?_
  · skip
    exact fr_some
  · skip
    refine fr_gF (fun _ => ?_)
    refine fr_pF h0 (fun _ => ?_)
    exact fr_Mo_undo_26 h1 _ _ _
theorem fr_Mo_voyage_177 {P : Nat → Prop} {a : Nat} {v1 : Int32} {μ : Mu}   : Fr P μ (Mo_voyage_177 a v1 μ) := by
  unfold Mo_voyage_177
  refine fr_ldA (fun _ => ?_)
  exact fr_some
theorem fr_Mo_voyage_144 {P : Nat → Prop} {a : Nat} {kb31 : Int32 → Mu → Option (Int32 × Mu)} {kb66 : Int32 → Mu → Option (Int32 × Mu)} {v1 : Int32} {v2 : Int32} {v3 : Int32} {v4 : Int32} {μ : Mu}  (h_kb31 : ∀ (w0 : Int32) (μ : Mu), Fr P μ (kb31 w0 μ)) (h_kb66 : ∀ (w0 : Int32) (μ : Mu), Fr P μ (kb66 w0 μ)) : Fr P μ (Mo_voyage_144 a kb31 kb66 v1 v2 v3 v4 μ) := by
  unfold Mo_voyage_144
  exact h_kb66 _ _
theorem fr_Mo_voyage_143 {P : Nat → Prop} {a : Nat} {kb31 : Int32 → Mu → Option (Int32 × Mu)} {kb66 : Int32 → Mu → Option (Int32 × Mu)} {v1 : Int32} {v2 : Int32} {v3 : Int32} {v4 : Int32} {s0 : Int32} {s1 : Int32} {μ : Mu} (h0 : P (a + 33)) (h_kb31 : ∀ (w0 : Int32) (μ : Mu), Fr P μ (kb31 w0 μ)) (h_kb66 : ∀ (w0 : Int32) (μ : Mu), Fr P μ (kb66 w0 μ)) : Fr P μ (Mo_voyage_143 a kb31 kb66 v1 v2 v3 v4 s0 s1 μ) := by
  unfold Mo_voyage_143
  refine fr_stA h0 (fun _ => ?_)
  exact fr_Mo_voyage_144  h_kb31 h_kb66
theorem fr_Mo_voyage_66b {P : Nat → Prop} {a : Nat} {kb31 : Int32 → Mu → Option (Int32 × Mu)} {kb66 : Int32 → Mu → Option (Int32 × Mu)} {v1 : Int32} {v2 : Int32} {v3 : Int32} {v4 : Int32} {μ : Mu} (h0 : P (a + 33)) (h_kb31 : ∀ (w0 : Int32) (μ : Mu), Fr P μ (kb31 w0 μ)) (h_kb66 : ∀ (w0 : Int32) (μ : Mu), Fr P μ (kb66 w0 μ)) : Fr P μ (Mo_voyage_66b a kb31 kb66 v1 v2 v3 v4 μ) := by
  unfold Mo_voyage_66b
  refine fr_gF (fun _ => ?_)
  refine fr_ite ?_ ?_
  · skip
    exact h_kb31 _ _
  · skip
    refine fr_ldA (fun _ => ?_)
    refine fr_ite ?_ ?_
    · skip
      refine fr_ldA (fun _ => ?_)
      refine fr_ldA (fun _ => ?_)
      refine fr_ite ?_ ?_
      · skip
        refine fr_ldA (fun _ => ?_)
        refine fr_cl (fr_Mo_added) (fun _ _ => ?_)
        exact fr_Mo_voyage_143 h0 h_kb31 h_kb66
      · skip
        refine fr_ldA (fun _ => ?_)
        refine fr_cl (fr_Mo_lesser) (fun _ _ => ?_)
        exact fr_Mo_voyage_143 h0 h_kb31 h_kb66
    · skip
      exact fr_Mo_voyage_144  h_kb31 h_kb66
theorem fr_Mo_voyage_66 {P : Nat → Prop} {a : Nat} {kb31 : Int32 → Mu → Option (Int32 × Mu)} {v1 : Int32} {v2 : Int32} {v3 : Int32} (h0 : P (a + 33)) (h_kb31 : ∀ (w0 : Int32) (μ : Mu), Fr P μ (kb31 w0 μ)) : ∀ (fu : Nat) (w0 : Int32) (μ : Mu), Fr P μ (Mo_voyage_66 a kb31 v1 v2 v3 fu w0 μ) := by
  intro fu
  induction fu with
  | zero => intros; exact fr_none
  | succ fu ih => intros; exact fr_Mo_voyage_66b (a := a) (kb31 := kb31) (v1 := v1) (v2 := v2) (v3 := v3) h0 h_kb31 ih
theorem fr_Mo_voyage_62 {P : Nat → Prop} {a : Nat} {kb31 : Int32 → Mu → Option (Int32 × Mu)} {v1 : Int32} {v2 : Int32} {v3 : Int32} {s0 : Int32} {s1 : Int32} {μ : Mu} (h0 : P (a + 33)) (h_kb31 : ∀ (w0 : Int32) (μ : Mu), Fr P μ (kb31 w0 μ)) : Fr P μ (Mo_voyage_62 a kb31 v1 v2 v3 s0 s1 μ) := by
  unfold Mo_voyage_62
  refine fr_stA h0 (fun _ => ?_)
  exact fr_Mo_voyage_66 h0 h_kb31 _ _ _
theorem fr_Mo_voyage_31b {P : Nat → Prop} {a : Nat} {kb31 : Int32 → Mu → Option (Int32 × Mu)} {v1 : Int32} {v2 : Int32} {v3 : Int32} {μ : Mu} (h0 : P (a + 33)) (h_kb31 : ∀ (w0 : Int32) (μ : Mu), Fr P μ (kb31 w0 μ)) : Fr P μ (Mo_voyage_31b a kb31 v1 v2 v3 μ) := by
  unfold Mo_voyage_31b
  refine fr_ite ?_ ?_
  · skip
    refine fr_ite ?_ ?_
    · skip
      refine fr_ldA (fun _ => ?_)
      refine fr_ite ?_ ?_
      · skip
        exact fr_Mo_voyage_177
      · skip
        exact fr_some
    · skip
      exact fr_Mo_voyage_177
  · skip
    refine fr_ite ?_ ?_
    · skip
      exact fr_Mo_voyage_62 h0 h_kb31
    · skip
      refine fr_ite ?_ ?_
      · skip
        exact fr_Mo_voyage_62 h0 h_kb31
      · skip
        exact fr_Mo_voyage_62 h0 h_kb31
theorem fr_Mo_voyage_31 {P : Nat → Prop} {a : Nat} {v1 : Int32} {v2 : Int32} (h0 : P (a + 33))  : ∀ (fu : Nat) (w0 : Int32) (μ : Mu), Fr P μ (Mo_voyage_31 a v1 v2 fu w0 μ) := by
  intro fu
  induction fu with
  | zero => intros; exact fr_none
  | succ fu ih => intros; exact fr_Mo_voyage_31b (a := a) (v1 := v1) (v2 := v2) h0  ih
theorem fr_Mo_voyage {P : Nat → Prop} {a : Nat} {v1 : Int32} {v2 : Int32} {μ : Mu} (h0 : P (a)) (h1 : P (a + 33))  : Fr P μ (Mo_voyage a v1 v2 μ) := by
  unfold Mo_voyage
  refine fr_pF h0 (fun _ => ?_)
  refine fr_cl (fr_Mo_isIn) (fun _ _ => ?_)
  refine fr_ite ?_ ?_
  · skip
    exact fr_some
  · skip
    refine fr_cl (fr_Mo_isIn) (fun _ _ => ?_)
    refine fr_ite ?_ ?_
    · skip
      exact fr_some
    · skip
      exact fr_Mo_voyage_31 h1 _ _ _
theorem fr_Mo_waysOfScales_93 {P : Nat → Prop} {a : Nat} {kb27 : Int32 → Int32 → Mu → Option (Int32 × Mu)} {v1 : Int32} {v2 : Int32} {v3 : Int32} {v4 : Int32} {μ : Mu}  (h_kb27 : ∀ (w0 : Int32) (w1 : Int32) (μ : Mu), Fr P μ (kb27 w0 w1 μ)) : Fr P μ (Mo_waysOfScales_93 a kb27 v1 v2 v3 v4 μ) := by
  unfold Mo_waysOfScales_93
  exact h_kb27 _ _ _
theorem fr_Mo_waysOfScales_43b {P : Nat → Prop} {a : Nat} {kb27 : Int32 → Int32 → Mu → Option (Int32 × Mu)} {kb43 : Int32 → Int32 → Int32 → Mu → Option (Int32 × Mu)} {v1 : Int32} {v2 : Int32} {v3 : Int32} {v4 : Int32} {v5 : Int32} {v6 : Int32} {v7 : Int32} {μ : Mu}  (h_kb27 : ∀ (w0 : Int32) (w1 : Int32) (μ : Mu), Fr P μ (kb27 w0 w1 μ)) (h_kb43 : ∀ (w0 : Int32) (w1 : Int32) (w2 : Int32) (μ : Mu), Fr P μ (kb43 w0 w1 w2 μ)) : Fr P μ (Mo_waysOfScales_43b a kb27 kb43 v1 v2 v3 v4 v5 v6 v7 μ) := by
  unfold Mo_waysOfScales_43b
  refine fr_gF (fun _ => ?_)
  refine fr_ite ?_ ?_
  · skip
    refine fr_ite ?_ ?_
    · skip
      exact fr_Mo_waysOfScales_93  h_kb27
    · skip
      exact fr_Mo_waysOfScales_93  h_kb27
  · skip
    refine fr_ldA (fun _ => ?_)
    exact h_kb43 _ _ _ _
theorem fr_Mo_waysOfScales_43 {P : Nat → Prop} {a : Nat} {kb27 : Int32 → Int32 → Mu → Option (Int32 × Mu)} {v1 : Int32} {v2 : Int32} {v3 : Int32} {v4 : Int32}  (h_kb27 : ∀ (w0 : Int32) (w1 : Int32) (μ : Mu), Fr P μ (kb27 w0 w1 μ)) : ∀ (fu : Nat) (w0 : Int32) (w1 : Int32) (w2 : Int32) (μ : Mu), Fr P μ (Mo_waysOfScales_43 a kb27 v1 v2 v3 v4 fu w0 w1 w2 μ) := by
  intro fu
  induction fu with
  | zero => intros; exact fr_none
  | succ fu ih => intros; exact fr_Mo_waysOfScales_43b (a := a) (kb27 := kb27) (v1 := v1) (v2 := v2) (v3 := v3) (v4 := v4)  h_kb27 ih
theorem fr_Mo_waysOfScales_27b {P : Nat → Prop} {a : Nat} {kb27 : Int32 → Int32 → Mu → Option (Int32 × Mu)} {v1 : Int32} {v2 : Int32} {v3 : Int32} {v4 : Int32} {μ : Mu}  (h_kb27 : ∀ (w0 : Int32) (w1 : Int32) (μ : Mu), Fr P μ (kb27 w0 w1 μ)) : Fr P μ (Mo_waysOfScales_27b a kb27 v1 v2 v3 v4 μ) := by
  unfold Mo_waysOfScales_27b
  refine fr_ite ?_ ?_
  · skip
    exact fr_some
  · skip
    exact fr_Mo_waysOfScales_43  h_kb27 _ _ _ _ _
theorem fr_Mo_waysOfScales_27 {P : Nat → Prop} {a : Nat} {v1 : Int32} {v2 : Int32}   : ∀ (fu : Nat) (w0 : Int32) (w1 : Int32) (μ : Mu), Fr P μ (Mo_waysOfScales_27 a v1 v2 fu w0 w1 μ) := by
  intro fu
  induction fu with
  | zero => intros; exact fr_none
  | succ fu ih => intros; exact fr_Mo_waysOfScales_27b (a := a) (v1 := v1) (v2 := v2)   ih
theorem fr_Mo_waysOfScales_4b {P : Nat → Prop} {a : Nat} {kb4 : Int32 → Int32 → Mu → Option (Int32 × Mu)} {v1 : Int32} {v2 : Int32} {v3 : Int32} {μ : Mu}  (h_kb4 : ∀ (w0 : Int32) (w1 : Int32) (μ : Mu), Fr P μ (kb4 w0 w1 μ)) : Fr P μ (Mo_waysOfScales_4b a kb4 v1 v2 v3 μ) := by
  unfold Mo_waysOfScales_4b
  refine fr_gF (fun _ => ?_)
  refine fr_ite ?_ ?_
  · skip
    exact fr_Mo_waysOfScales_27 _ _ _ _
  · skip
    exact h_kb4 _ _ _
theorem fr_Mo_waysOfScales_4 {P : Nat → Prop} {a : Nat} {v1 : Int32}   : ∀ (fu : Nat) (w0 : Int32) (w1 : Int32) (μ : Mu), Fr P μ (Mo_waysOfScales_4 a v1 fu w0 w1 μ) := by
  intro fu
  induction fu with
  | zero => intros; exact fr_none
  | succ fu ih => intros; exact fr_Mo_waysOfScales_4b (a := a) (v1 := v1)   ih
theorem fr_Mo_waysOfScales {P : Nat → Prop} {a : Nat} {v1 : Int32} {μ : Mu}   : Fr P μ (Mo_waysOfScales a v1 μ) := by
  unfold Mo_waysOfScales
  exact fr_Mo_waysOfScales_4 _ _ _ _
theorem fr_Mo_week_26 {P : Nat → Prop} {a : Nat} {μ : Mu}   : Fr P μ (Mo_week_26 a μ) := by
  unfold Mo_week_26
  exact fr_some
theorem fr_Mo_week_102 {P : Nat → Prop} {a : Nat} {kb72 : Int32 → Int32 → Mu → Option (Int32 × Mu)} {v1 : Int32} {v5 : Int32} {v6 : Int32} {μ : Mu}  (h_kb72 : ∀ (w0 : Int32) (w1 : Int32) (μ : Mu), Fr P μ (kb72 w0 w1 μ)) : Fr P μ (Mo_week_102 a kb72 v1 v5 v6 μ) := by
  unfold Mo_week_102
  exact h_kb72 _ _ _
theorem fr_Mo_week_72b {P : Nat → Prop} {a : Nat} {kb72 : Int32 → Int32 → Mu → Option (Int32 × Mu)} {v1 : Int32} {v5 : Int32} {v6 : Int32} {μ : Mu}  (h_kb72 : ∀ (w0 : Int32) (w1 : Int32) (μ : Mu), Fr P μ (kb72 w0 w1 μ)) : Fr P μ (Mo_week_72b a kb72 v1 v5 v6 μ) := by
  unfold Mo_week_72b
  refine fr_ite ?_ ?_
  · skip
    exact fr_some
  · skip
    refine fr_cl (fr_Mo_dayNumber) (fun _ _ => ?_)
    refine fr_cl (fr_Mo_dayOfWeek) (fun _ _ => ?_)
    refine fr_ite ?_ ?_
    · skip
      exact fr_Mo_week_102  h_kb72
    · skip
      exact fr_Mo_week_102  h_kb72
theorem fr_Mo_week_72 {P : Nat → Prop} {a : Nat} {v1 : Int32}   : ∀ (fu : Nat) (w0 : Int32) (w1 : Int32) (μ : Mu), Fr P μ (Mo_week_72 a v1 fu w0 w1 μ) := by
  intro fu
  induction fu with
  | zero => intros; exact fr_none
  | succ fu ih => intros; exact fr_Mo_week_72b (a := a) (v1 := v1)   ih
theorem fr_Mo_week {P : Nat → Prop} {a : Nat} {v1 : Int32} {v2 : Int32} {v3 : Int32} {v4 : Int32} {μ : Mu} (h0 : P (a))  : Fr P μ (Mo_week a v1 v2 v3 v4 μ) := by
  unfold Mo_week
  refine fr_pF h0 (fun _ => ?_)
  refine fr_cl (fr_Mo_isDate) (fun _ _ => ?_)
  refine fr_ite ?_ ?_
  · skip
    exact fr_Mo_week_26
  · skip
    refine fr_cl (fr_Mo_isIn) (fun _ _ => ?_)
    refine fr_ite ?_ ?_
    · skip
      exact fr_Mo_week_26
    · skip
      refine fr_ite ?_ ?_
      · skip
        refine fr_cl (fr_Mo_dayNumber) (fun _ _ => ?_)
        refine fr_cl (fr_Mo_dayOfWeek) (fun _ _ => ?_)
        exact fr_some
      · skip
        refine fr_ite ?_ ?_
        · skip
          refine fr_cl (fr_Mo_dayNumber) (fun _ _ => ?_)
          refine fr_gF (fun _ => ?_)
          exact fr_some
        · skip
          exact fr_Mo_week_72 _ _ _ _
theorem fr_Mo_weighs_55 {P : Nat → Prop} {a : Nat} {kb36 : Int32 → Int32 → Mu → Option (Int32 × Mu)} {v2 : Int32} {v3 : Int32} {μ : Mu}  (h_kb36 : ∀ (w0 : Int32) (w1 : Int32) (μ : Mu), Fr P μ (kb36 w0 w1 μ)) : Fr P μ (Mo_weighs_55 a kb36 v2 v3 μ) := by
  unfold Mo_weighs_55
  exact h_kb36 _ _ _
theorem fr_Mo_weighs_36b {P : Nat → Prop} {a : Nat} {kb36 : Int32 → Int32 → Mu → Option (Int32 × Mu)} {v2 : Int32} {v3 : Int32} {μ : Mu}  (h_kb36 : ∀ (w0 : Int32) (w1 : Int32) (μ : Mu), Fr P μ (kb36 w0 w1 μ)) : Fr P μ (Mo_weighs_36b a kb36 v2 v3 μ) := by
  unfold Mo_weighs_36b
  refine fr_ite ?_ ?_
  · skip
    exact fr_some
  · skip
    refine fr_cl (fr_Mo_waysOfScales) (fun _ _ => ?_)
    refine fr_ite ?_ ?_
    · skip
      exact fr_Mo_weighs_55  h_kb36
    · skip
      exact fr_Mo_weighs_55  h_kb36
theorem fr_Mo_weighs_36 {P : Nat → Prop} {a : Nat}   : ∀ (fu : Nat) (w0 : Int32) (w1 : Int32) (μ : Mu), Fr P μ (Mo_weighs_36 a fu w0 w1 μ) := by
  intro fu
  induction fu with
  | zero => intros; exact fr_none
  | succ fu ih => intros; exact fr_Mo_weighs_36b (a := a)   ih
theorem fr_Mo_weighs {P : Nat → Prop} {a : Nat} {v1 : Int32} {μ : Mu} (h0 : P (a))  : Fr P μ (Mo_weighs a v1 μ) := by
  unfold Mo_weighs
  refine fr_pF h0 (fun _ => ?_)
  refine fr_ite ?_ ?_
  · skip
    exact fr_Mo_weighs_36 _ _ _ _
  · skip
    refine fr_cl (fr_Mo_isIn) (fun _ _ => ?_)
    refine fr_ite ?_ ?_
    · skip
      exact fr_some
    · skip
      refine fr_cl (fr_Mo_waysOfScales) (fun _ _ => ?_)
      exact fr_some
theorem fr_Mo_weight {P : Nat → Prop} {a : Nat} {v1 : Int32} {μ : Mu} (h0 : P (a)) (h1 : P (a + 24))  : Fr P μ (Mo_weight a v1 μ) := by
  unfold Mo_weight
  refine fr_pF h0 (fun _ => ?_)
  refine fr_ite ?_ ?_
  · skip
    refine fr_pF h0 (fun _ => ?_)
    exact fr_some
  · skip
    refine fr_cl (fr_Mo_isIn) (fun _ _ => ?_)
    refine fr_ite ?_ ?_
    · skip
      exact fr_some
    · skip
      refine fr_gF (fun _ => ?_)
      refine fr_ite ?_ ?_
      · skip
        exact fr_some
      · skip
        refine fr_gF (fun _ => ?_)
        refine fr_stA h1 (fun _ => ?_)
        refine fr_gF (fun _ => ?_)
        refine fr_pF h0 (fun _ => ?_)
        refine fr_gF (fun _ => ?_)
        exact fr_some
theorem fr_Jp_checkIndex {P : Nat → Prop} {v0 : Int32} {v1 : Int32} {μ : Mu}   : Fr P μ (Jp_checkIndex v0 v1 μ) := by
  unfold Jp_checkIndex
  refine fr_ite ?_ ?_
  · skip
    exact fr_none
  · skip
    refine fr_ite ?_ ?_
    · skip
      exact fr_some
    · skip
      exact fr_none
theorem fr_Js_checkIndex {P : Nat → Prop} {v0 : Int32} {v1 : Int32} {μ : Mu}   : Fr P μ (Js_checkIndex v0 v1 μ) := by
  unfold Js_checkIndex
  refine fr_cl (fr_Jp_checkIndex) (fun _ _ => ?_)
  exact fr_some
theorem fr_Ja_fill_5b {P : Nat → Prop} {r0 : Nat} {n0 : Nat} {kb5 : Int32 → Mu → Option (Unit × Mu)} {v1 : Int32} {v3 : Int32} {v2 : Int32} {μ : Mu} (h0 : P (r0)) (h_kb5 : ∀ (w0 : Int32) (μ : Mu), Fr P μ (kb5 w0 μ)) : Fr P μ (Ja_fill_5b r0 n0 kb5 v1 v3 v2 μ) := by
  unfold Ja_fill_5b
  refine fr_ite ?_ ?_
  · skip
    exact fr_some
  · skip
    refine fr_stA h0 (fun _ => ?_)
    exact h_kb5 _ _
theorem fr_Ja_fill_5 {P : Nat → Prop} {r0 : Nat} {n0 : Nat} {v1 : Int32} {v3 : Int32} (h0 : P (r0))  : ∀ (fu : Nat) (w0 : Int32) (μ : Mu), Fr P μ (Ja_fill_5 r0 n0 v1 v3 fu w0 μ) := by
  intro fu
  induction fu with
  | zero => intros; exact fr_none
  | succ fu ih => intros; exact fr_Ja_fill_5b (r0 := r0) (n0 := n0) (v1 := v1) (v3 := v3) h0  ih
theorem fr_Ja_fill {P : Nat → Prop} {r0 : Nat} {n0 : Nat} {v1 : Int32} {μ : Mu} (h0 : P (r0))  : Fr P μ (Ja_fill r0 n0 v1 μ) := by
  unfold Ja_fill
  exact fr_Ja_fill_5 h0 _ _ _
theorem fr_Lw_copyFrom {P : Nat → Prop} {a : Nat} {f1 : Nat} {μ : Mu} (h0 : P (a)) (h1 : P (a + 1)) (h2 : P (a + 2)) (h3 : P (a + 3)) (h4 : P (a + 4)) (h5 : P (a + 5))  : Fr P μ (Lw_copyFrom a f1 μ) := by
  unfold Lw_copyFrom
  refine fr_gF (fun _ => ?_)
  refine fr_pF h0 (fun _ => ?_)
  refine fr_gF (fun _ => ?_)
  refine fr_pF h0 (fun _ => ?_)
  refine fr_cpA h1 (fun _ => ?_)
  refine fr_cpA h2 (fun _ => ?_)
  refine fr_cpA h3 (fun _ => ?_)
  refine fr_cpA h4 (fun _ => ?_)
  refine fr_cpA h5 (fun _ => ?_)
  exact fr_some
theorem fr_Tx_countHeirs_43 {P : Nat → Prop} {a : Nat} {kb10 : Int32 → Mu → Option (Unit × Mu)} {v1 : Int32} {μ : Mu}  (h_kb10 : ∀ (w0 : Int32) (μ : Mu), Fr P μ (kb10 w0 μ)) : Fr P μ (Tx_countHeirs_43 a kb10 v1 μ) := by
  unfold Tx_countHeirs_43
  exact h_kb10 _ _
theorem fr_Tx_countHeirs_10b {P : Nat → Prop} {a : Nat} {kb10 : Int32 → Mu → Option (Unit × Mu)} {v1 : Int32} {μ : Mu} (h0 : P (a + 10)) (h_kb10 : ∀ (w0 : Int32) (μ : Mu), Fr P μ (kb10 w0 μ)) : Fr P μ (Tx_countHeirs_10b a kb10 v1 μ) := by
  unfold Tx_countHeirs_10b
  refine fr_ite ?_ ?_
  · skip
    exact fr_some
  · skip
    refine fr_ldA (fun _ => ?_)
    refine fr_ite ?_ ?_
    · skip
      exact fr_Tx_countHeirs_43  h_kb10
    · skip
      refine fr_ite ?_ ?_
      · skip
        exact fr_Tx_countHeirs_43  h_kb10
      · skip
        refine fr_ldA (fun _ => ?_)
        refine fr_stA h0 (fun _ => ?_)
        exact fr_Tx_countHeirs_43  h_kb10
theorem fr_Tx_countHeirs_10 {P : Nat → Prop} {a : Nat} (h0 : P (a + 10))  : ∀ (fu : Nat) (w0 : Int32) (μ : Mu), Fr P μ (Tx_countHeirs_10 a fu w0 μ) := by
  intro fu
  induction fu with
  | zero => intros; exact fr_none
  | succ fu ih => intros; exact fr_Tx_countHeirs_10b (a := a) h0  ih
theorem fr_Tx_countHeirs {P : Nat → Prop} {a : Nat} {μ : Mu} (h0 : P (a + 10))  : Fr P μ (Tx_countHeirs a μ) := by
  unfold Tx_countHeirs
  refine fr_cl (fr_Ja_fill h0) (fun _ _ => ?_)
  exact fr_Tx_countHeirs_10 h0 _ _ _
theorem fr_Tx_takeHeirs_64 {P : Nat → Prop} {a : Nat} {r1 : Nat} {n1 : Nat} {μ : Mu} (h0 : P (a + 10))  : Fr P μ (Tx_takeHeirs_64 a r1 n1 μ) := by
  unfold Tx_takeHeirs_64
  refine fr_cl (fr_Tx_countHeirs h0) (fun _ _ => ?_)
  exact fr_some
theorem fr_Tx_takeHeirs_58 {P : Nat → Prop} {a : Nat} {r1 : Nat} {n1 : Nat} {kb10 : Int32 → Mu → Option (Unit × Mu)} {v2 : Int32} {v3 : Int32} {μ : Mu}  (h_kb10 : ∀ (w0 : Int32) (μ : Mu), Fr P μ (kb10 w0 μ)) : Fr P μ (Tx_takeHeirs_58 a r1 n1 kb10 v2 v3 μ) := by
  unfold Tx_takeHeirs_58
  exact h_kb10 _ _
theorem fr_Tx_takeHeirs_10b {P : Nat → Prop} {a : Nat} {r1 : Nat} {n1 : Nat} {kb10 : Int32 → Mu → Option (Unit × Mu)} {v2 : Int32} {v3 : Int32} {μ : Mu} (h0 : P (a + 10)) (h1 : P (a + 9)) (h_kb10 : ∀ (w0 : Int32) (μ : Mu), Fr P μ (kb10 w0 μ)) : Fr P μ (Tx_takeHeirs_10b a r1 n1 kb10 v2 v3 μ) := by
  unfold Tx_takeHeirs_10b
  refine fr_ite ?_ ?_
  · skip
    exact fr_Tx_takeHeirs_64 h0
  · skip
    refine fr_ite ?_ ?_
    · skip
      exact fr_Tx_takeHeirs_64 h0
    · skip
      refine fr_ldA (fun _ => ?_)
      refine fr_ite ?_ ?_
      · skip
        exact fr_Tx_takeHeirs_58  h_kb10
      · skip
        refine fr_ite ?_ ?_
        · skip
          exact fr_Tx_takeHeirs_58  h_kb10
        · skip
          refine fr_ldA (fun _ => ?_)
          refine fr_stA h1 (fun _ => ?_)
          exact fr_Tx_takeHeirs_58  h_kb10
theorem fr_Tx_takeHeirs_10 {P : Nat → Prop} {a : Nat} {r1 : Nat} {n1 : Nat} {v2 : Int32} (h0 : P (a + 10)) (h1 : P (a + 9))  : ∀ (fu : Nat) (w0 : Int32) (μ : Mu), Fr P μ (Tx_takeHeirs_10 a r1 n1 v2 fu w0 μ) := by
  intro fu
  induction fu with
  | zero => intros; exact fr_none
  | succ fu ih => intros; exact fr_Tx_takeHeirs_10b (a := a) (r1 := r1) (n1 := n1) (v2 := v2) h0 h1  ih
theorem fr_Tx_takeHeirs {P : Nat → Prop} {a : Nat} {r1 : Nat} {n1 : Nat} {v2 : Int32} {μ : Mu} (h0 : P (a + 9)) (h1 : P (a + 10))  : Fr P μ (Tx_takeHeirs a r1 n1 v2 μ) := by
  unfold Tx_takeHeirs
  refine fr_cl (fr_Ja_fill h0) (fun _ _ => ?_)
  exact fr_Tx_takeHeirs_10 h1 h0 _ _ _
theorem fr_Tx_take {P : Nat → Prop} {a : Nat} {f2 : Nat} {v1 : Int32} {μ : Mu} (h0 : P (a + 11)) (h1 : P (a + 1)) (h2 : P (a + 1 + 1)) (h3 : P (a + 1 + 2)) (h4 : P (a + 1 + 3)) (h5 : P (a + 1 + 4)) (h6 : P (a + 1 + 5)) (h7 : P (a + 8)) (h8 : P (a + 9)) (h9 : P (a + 10))  : Fr P μ (Tx_take a f2 v1 μ) := by
  unfold Tx_take
  refine fr_ite ?_ ?_
  · skip
    exact fr_some
  · skip
    refine fr_ite ?_ ?_
    · skip
      refine fr_gF (fun _ => ?_)
      refine fr_stA h0 (fun _ => ?_)
      refine fr_ite ?_ ?_
      · skip
        refine fr_cl (fr_Lw_copyFrom h1 h2 h3 h4 h5 h6) (fun _ _ => ?_)
        exact fr_some
      · skip
        refine fr_ite ?_ ?_
        · skip
          refine fr_cpA h7 (fun _ => ?_)
          exact fr_some
        · skip
          refine fr_ite ?_ ?_
          · skip
            refine fr_gF (fun _ => ?_)
            refine fr_cl (fr_Tx_takeHeirs h8 h9) (fun _ _ => ?_)
            exact fr_some
          · skip
            exact fr_some
    · skip
      exact fr_some
theorem fr_Fg_get_27 {P : Nat → Prop} {a : Nat} {v1 : Int32} {v2 : Int32} {s0 : Int32} {μ : Mu}   : Fr P μ (Fg_get_27 a v1 v2 s0 μ) := by
  unfold Fg_get_27
  refine fr_ite ?_ ?_
  · skip
    exact fr_some
  · skip
    refine fr_ldA (fun _ => ?_)
    exact fr_some
theorem fr_Fg_get_26 {P : Nat → Prop} {a : Nat} {v1 : Int32} {v2 : Int32} {μ : Mu}   : Fr P μ (Fg_get_26 a v1 v2 μ) := by
  unfold Fg_get_26
  exact fr_Fg_get_27
theorem fr_Fg_get {P : Nat → Prop} {a : Nat} {v1 : Int32} {v2 : Int32} {μ : Mu}   : Fr P μ (Fg_get a v1 v2 μ) := by
  unfold Fg_get
  refine fr_ite ?_ ?_
  · skip
    exact fr_Fg_get_26
  · skip
    refine fr_gF (fun _ => ?_)
    refine fr_ite ?_ ?_
    · skip
      exact fr_Fg_get_26
    · skip
      refine fr_ite ?_ ?_
      · skip
        exact fr_Fg_get_26
      · skip
        refine fr_ite ?_ ?_
        · skip
          exact fr_Fg_get_26
        · skip
          exact fr_Fg_get_27
theorem fr_Fg_put {P : Nat → Prop} {a : Nat} {v1 : Int32} {v2 : Int32} {v3 : Int32} {μ : Mu} (h0 : P (a + 1))  : Fr P μ (Fg_put a v1 v2 v3 μ) := by
  unfold Fg_put
  refine fr_ite ?_ ?_
  · skip
    exact fr_some
  · skip
    refine fr_gF (fun _ => ?_)
    refine fr_ite ?_ ?_
    · skip
      exact fr_some
    · skip
      refine fr_ite ?_ ?_
      · skip
        exact fr_some
      · skip
        refine fr_ite ?_ ?_
        · skip
          exact fr_some
        · skip
          refine fr_stA h0 (fun _ => ?_)
          exact fr_some
theorem fr_Fg_rise {P : Nat → Prop} {a : Nat} {v1 : Int32} {μ : Mu} (h0 : P (a + 2)) (h1 : P (a + 1))  : Fr P μ (Fg_rise a v1 μ) := by
  unfold Fg_rise
  refine fr_cl (fr_Fg_get) (fun _ _ => ?_)
  refine fr_ite ?_ ?_
  · skip
    exact fr_some
  · skip
    refine fr_ite ?_ ?_
    · skip
      exact fr_some
    · skip
      refine fr_stA h0 (fun _ => ?_)
      refine fr_cl (fr_Fg_put h1) (fun _ _ => ?_)
      exact fr_some
theorem fr_Fg_isAlive {P : Nat → Prop} {a : Nat} {v1 : Int32} {μ : Mu}   : Fr P μ (Fg_isAlive a v1 μ) := by
  unfold Fg_isAlive
  refine fr_cl (fr_Fg_get) (fun _ _ => ?_)
  refine fr_ite ?_ ?_
  · skip
    exact fr_some
  · skip
    exact fr_some
theorem fr_Fg_holder {P : Nat → Prop} {a : Nat} {v1 : Int32} {μ : Mu}   : Fr P μ (Fg_holder a v1 μ) := by
  unfold Fg_holder
  refine fr_ite ?_ ?_
  · skip
    exact fr_some
  · skip
    refine fr_ite ?_ ?_
    · skip
      exact fr_some
    · skip
      refine fr_ldA (fun _ => ?_)
      exact fr_some
theorem fr_Fg_sit {P : Nat → Prop} {a : Nat} {v1 : Int32} {v2 : Int32} {μ : Mu} (h0 : P (a + 2)) (h1 : P (a + 1))  : Fr P μ (Fg_sit a v1 v2 μ) := by
  unfold Fg_sit
  refine fr_ite ?_ ?_
  · skip
    exact fr_some
  · skip
    refine fr_ite ?_ ?_
    · skip
      exact fr_some
    · skip
      refine fr_stA h0 (fun _ => ?_)
      refine fr_cl (fr_Fg_put h1) (fun _ _ => ?_)
      exact fr_some
theorem fr_Fg_seatAll_87 {P : Nat → Prop} {a : Nat} {r1 : Nat} {n1 : Nat} {kb23 : Int32 → Mu → Option (Unit × Mu)} {v2 : Int32} {v3 : Int32} {μ : Mu}  (h_kb23 : ∀ (w0 : Int32) (μ : Mu), Fr P μ (kb23 w0 μ)) : Fr P μ (Fg_seatAll_87 a r1 n1 kb23 v2 v3 μ) := by
  unfold Fg_seatAll_87
  exact h_kb23 _ _
theorem fr_Fg_seatAll_23b {P : Nat → Prop} {a : Nat} {r1 : Nat} {n1 : Nat} {kb23 : Int32 → Mu → Option (Unit × Mu)} {v2 : Int32} {v3 : Int32} {μ : Mu} (h0 : P (a + 2)) (h1 : P (a + 1)) (h_kb23 : ∀ (w0 : Int32) (μ : Mu), Fr P μ (kb23 w0 μ)) : Fr P μ (Fg_seatAll_23b a r1 n1 kb23 v2 v3 μ) := by
  unfold Fg_seatAll_23b
  refine fr_ite ?_ ?_
  · skip
    exact fr_some
  · skip
    refine fr_ite ?_ ?_
    · skip
      exact fr_some
    · skip
      refine fr_ldA (fun _ => ?_)
      refine fr_ldA (fun _ => ?_)
      refine fr_cl (fr_Fg_isAlive) (fun _ _ => ?_)
      refine fr_ite ?_ ?_
      · skip
        exact fr_Fg_seatAll_87  h_kb23
      · skip
        refine fr_cl (fr_Fg_holder) (fun _ _ => ?_)
        refine fr_cl (fr_Fg_rise h0 h1) (fun _ _ => ?_)
        refine fr_cl (fr_Fg_rise h0 h1) (fun _ _ => ?_)
        refine fr_cl (fr_Fg_sit h0 h1) (fun _ _ => ?_)
        exact fr_Fg_seatAll_87  h_kb23
theorem fr_Fg_seatAll_23 {P : Nat → Prop} {a : Nat} {r1 : Nat} {n1 : Nat} {v2 : Int32} (h0 : P (a + 2)) (h1 : P (a + 1))  : ∀ (fu : Nat) (w0 : Int32) (μ : Mu), Fr P μ (Fg_seatAll_23 a r1 n1 v2 fu w0 μ) := by
  intro fu
  induction fu with
  | zero => intros; exact fr_none
  | succ fu ih => intros; exact fr_Fg_seatAll_23b (a := a) (r1 := r1) (n1 := n1) (v2 := v2) h0 h1  ih
theorem fr_Fg_seatAll_2b {P : Nat → Prop} {a : Nat} {r1 : Nat} {n1 : Nat} {kb2 : Int32 → Mu → Option (Unit × Mu)} {v2 : Int32} {v3 : Int32} {μ : Mu} (h0 : P (a + 2)) (h1 : P (a + 1)) (h_kb2 : ∀ (w0 : Int32) (μ : Mu), Fr P μ (kb2 w0 μ)) : Fr P μ (Fg_seatAll_2b a r1 n1 kb2 v2 v3 μ) := by
  unfold Fg_seatAll_2b
  refine fr_gF (fun _ => ?_)
  refine fr_ite ?_ ?_
  · skip
    exact fr_Fg_seatAll_23 h0 h1 _ _ _
  · skip
    refine fr_cl (fr_Fg_rise h0 h1) (fun _ _ => ?_)
    exact h_kb2 _ _
theorem fr_Fg_seatAll_2 {P : Nat → Prop} {a : Nat} {r1 : Nat} {n1 : Nat} {v2 : Int32} (h0 : P (a + 2)) (h1 : P (a + 1))  : ∀ (fu : Nat) (w0 : Int32) (μ : Mu), Fr P μ (Fg_seatAll_2 a r1 n1 v2 fu w0 μ) := by
  intro fu
  induction fu with
  | zero => intros; exact fr_none
  | succ fu ih => intros; exact fr_Fg_seatAll_2b (a := a) (r1 := r1) (n1 := n1) (v2 := v2) h0 h1  ih
theorem fr_Fg_seatAll {P : Nat → Prop} {a : Nat} {r1 : Nat} {n1 : Nat} {v2 : Int32} {μ : Mu} (h0 : P (a + 2)) (h1 : P (a + 1))  : Fr P μ (Fg_seatAll a r1 n1 v2 μ) := by
  unfold Fg_seatAll
  exact fr_Fg_seatAll_2 h0 h1 _ _ _
theorem fr_Sf_forget {P : Nat → Prop} {a : Nat} {μ : Mu} (h0 : P (a))  : Fr P μ (Sf_forget a μ) := by
  unfold Sf_forget
  refine fr_pF h0 (fun _ => ?_)
  exact fr_some
theorem fr_Sf_accept_54 {P : Nat → Prop} {a : Nat} {μ : Mu} (h0 : P (a))  : Fr P μ (Sf_accept_54 a μ) := by
  unfold Sf_accept_54
  refine fr_cl (fr_Sf_forget h0) (fun _ _ => ?_)
  exact fr_some
theorem fr_Sf_accept_44 {P : Nat → Prop} {a : Nat} {v1 : Int32} {μ : Mu} (h0 : P (a))  : Fr P μ (Sf_accept_44 a v1 μ) := by
  unfold Sf_accept_44
  refine fr_ite ?_ ?_
  · skip
    exact fr_Sf_accept_54 h0
  · skip
    refine fr_ite ?_ ?_
    · skip
      exact fr_Sf_accept_54 h0
    · skip
      exact fr_some
theorem fr_Sf_accept {P : Nat → Prop} {a : Nat} {v1 : Int32} {μ : Mu} (h0 : P (a + 1 + 5 + 11)) (h1 : P (a + 1 + 5 + 1)) (h2 : P (a + 1 + 5 + 1 + 1)) (h3 : P (a + 1 + 5 + 1 + 2)) (h4 : P (a + 1 + 5 + 1 + 3)) (h5 : P (a + 1 + 5 + 1 + 4)) (h6 : P (a + 1 + 5 + 1 + 5)) (h7 : P (a + 1 + 5 + 8)) (h8 : P (a + 1 + 5 + 9)) (h9 : P (a + 1 + 5 + 10)) (h10 : P (a + 1 + 1 + 2)) (h11 : P (a + 1 + 1 + 1)) (h12 : P (a))  : Fr P μ (Sf_accept a v1 μ) := by
  unfold Sf_accept
  refine fr_cl (fr_Tx_take h0 h1 h2 h3 h4 h5 h6 h7 h8 h9) (fun _ _ => ?_)
  refine fr_ite ?_ ?_
  · skip
    refine fr_gF (fun _ => ?_)
    refine fr_cl (fr_Fg_seatAll h10 h11) (fun _ _ => ?_)
    exact fr_Sf_accept_44 h12
  · skip
    exact fr_Sf_accept_44 h12
theorem fr_Sf_within {P : Nat → Prop} {v0 : Int32} {v1 : Int32} {v2 : Int32} {μ : Mu}   : Fr P μ (Sf_within v0 v1 v2 μ) := by
  unfold Sf_within
  refine fr_ite ?_ ?_
  · skip
    exact fr_some
  · skip
    refine fr_ite ?_ ?_
    · skip
      exact fr_some
    · skip
      exact fr_some
theorem fr_Sf_canAct {P : Nat → Prop} {a : Nat} {v1 : Int32} {v2 : Int32} {v3 : Int32} {μ : Mu}   : Fr P μ (Sf_canAct a v1 v2 v3 μ) := by
  unfold Sf_canAct
  refine fr_cl (fr_Fg_isAlive) (fun _ _ => ?_)
  refine fr_ite ?_ ?_
  · skip
    exact fr_some
  · skip
    refine fr_ite ?_ ?_
    · skip
      exact fr_some
    · skip
      refine fr_ite ?_ ?_
      · skip
        refine fr_cl (fr_Sf_within) (fun _ _ => ?_)
        refine fr_ite ?_ ?_
        · skip
          exact fr_some
        · skip
          refine fr_cl (fr_Fg_get) (fun _ _ => ?_)
          refine fr_ite ?_ ?_
          · skip
            refine fr_cl (fr_Fg_holder) (fun _ _ => ?_)
            refine fr_ite ?_ ?_
            · skip
              exact fr_some
            · skip
              exact fr_some
          · skip
            exact fr_some
      · skip
        refine fr_ite ?_ ?_
        · skip
          refine fr_cl (fr_Fg_get) (fun _ _ => ?_)
          refine fr_ite ?_ ?_
          · skip
            exact fr_some
          · skip
            exact fr_some
        · skip
          refine fr_ite ?_ ?_
          · skip
            refine fr_cl (fr_Fg_get) (fun _ _ => ?_)
            refine fr_ite ?_ ?_
            · skip
              exact fr_some
            · skip
              exact fr_some
          · skip
            refine fr_ite ?_ ?_
            · skip
              exact fr_some
            · skip
              exact fr_some
theorem fr_Fg_copyFrom {P : Nat → Prop} {a : Nat} {f1 : Nat} {μ : Mu} (h0 : P (a + 1)) (h1 : P (a + 2)) (h2 : P (a))  : Fr P μ (Fg_copyFrom a f1 μ) := by
  unfold Fg_copyFrom
  refine fr_cpA h0 (fun _ => ?_)
  refine fr_cpA h1 (fun _ => ?_)
  refine fr_gF (fun _ => ?_)
  refine fr_pF h2 (fun _ => ?_)
  refine fr_gF (fun _ => ?_)
  refine fr_pF h2 (fun _ => ?_)
  refine fr_gF (fun _ => ?_)
  refine fr_pF h2 (fun _ => ?_)
  refine fr_gF (fun _ => ?_)
  refine fr_pF h2 (fun _ => ?_)
  refine fr_gF (fun _ => ?_)
  refine fr_pF h2 (fun _ => ?_)
  refine fr_gF (fun _ => ?_)
  refine fr_pF h2 (fun _ => ?_)
  refine fr_gF (fun _ => ?_)
  refine fr_pF h2 (fun _ => ?_)
  exact fr_some
theorem fr_Fg_add {P : Nat → Prop} {a : Nat} {v1 : Int32} {v2 : Int32} {v3 : Int32} {μ : Mu} (h0 : P (a + 1))  : Fr P μ (Fg_add a v1 v2 v3 μ) := by
  unfold Fg_add
  refine fr_cl (fr_Fg_get) (fun _ _ => ?_)
  refine fr_cl (fr_Fg_put h0) (fun _ _ => ?_)
  exact fr_some
theorem fr_Tx_heirOfHowMany {P : Nat → Prop} {a : Nat} {v1 : Int32} {μ : Mu}   : Fr P μ (Tx_heirOfHowMany a v1 μ) := by
  unfold Tx_heirOfHowMany
  refine fr_ite ?_ ?_
  · skip
    exact fr_some
  · skip
    refine fr_ite ?_ ?_
    · skip
      exact fr_some
    · skip
      refine fr_ldA (fun _ => ?_)
      exact fr_some
theorem fr_Dy_readWords_92 {P : Nat → Prop} {a : Nat} {pt : Nat} {f1 : Nat} {v2 : Int32} {s0 : Int32} {s1 : Int32} {μ : Mu} (h0 : P (a + 1))  : Fr P μ (Dy_readWords_92 a pt f1 v2 s0 s1 μ) := by
  unfold Dy_readWords_92
  refine fr_stA h0 (fun _ => ?_)
  refine fr_cl (fr_Tx_heirOfHowMany) (fun _ _ => ?_)
  refine fr_stA h0 (fun _ => ?_)
  refine fr_gF (fun _ => ?_)
  refine fr_stA h0 (fun _ => ?_)
  exact fr_some
theorem fr_Dy_readWords_49 {P : Nat → Prop} {a : Nat} {pt : Nat} {f1 : Nat} {v2 : Int32} {v3 : Int32} {s0 : Int32} {μ : Mu} (h0 : P (a + 1))  : Fr P μ (Dy_readWords_49 a pt f1 v2 v3 s0 μ) := by
  unfold Dy_readWords_49
  refine fr_stA h0 (fun _ => ?_)
  refine fr_gF (fun _ => ?_)
  refine fr_stA h0 (fun _ => ?_)
  refine fr_ite ?_ ?_
  · skip
    exact fr_Dy_readWords_92 h0
  · skip
    refine fr_cl (fr_Fg_get) (fun _ _ => ?_)
    exact fr_Dy_readWords_92 h0
theorem fr_Dy_readWords_2b {P : Nat → Prop} {a : Nat} {pt : Nat} {f1 : Nat} {kb2 : Int32 → Mu → Option (Unit × Mu)} {v2 : Int32} {v3 : Int32} {μ : Mu} (h0 : P (a + 1)) (h_kb2 : ∀ (w0 : Int32) (μ : Mu), Fr P μ (kb2 w0 μ)) : Fr P μ (Dy_readWords_2b a pt f1 kb2 v2 v3 μ) := by
  unfold Dy_readWords_2b
  refine fr_ite ?_ ?_
  · skip
    refine fr_cl (fr_Fg_get) (fun _ _ => ?_)
    refine fr_ite ?_ ?_
    · skip
      exact fr_Dy_readWords_49 h0
    · skip
      refine fr_cl (fr_Fg_holder) (fun _ _ => ?_)
      exact fr_Dy_readWords_49 h0
  · skip
    refine fr_cl (fr_Fg_get) (fun _ _ => ?_)
    refine fr_stA h0 (fun _ => ?_)
    exact h_kb2 _ _
theorem fr_Dy_readWords_2 {P : Nat → Prop} {a : Nat} {pt : Nat} {f1 : Nat} {v2 : Int32} (h0 : P (a + 1))  : ∀ (fu : Nat) (w0 : Int32) (μ : Mu), Fr P μ (Dy_readWords_2 a pt f1 v2 fu w0 μ) := by
  intro fu
  induction fu with
  | zero => intros; exact fr_none
  | succ fu ih => intros; exact fr_Dy_readWords_2b (a := a) (pt := pt) (f1 := f1) (v2 := v2) h0  ih
theorem fr_Dy_readWords {P : Nat → Prop} {a : Nat} {pt : Nat} {f1 : Nat} {v2 : Int32} {μ : Mu} (h0 : P (a + 1))  : Fr P μ (Dy_readWords a pt f1 v2 μ) := by
  unfold Dy_readWords
  exact fr_Dy_readWords_2 h0 _ _ _
theorem fr_Dy_usual {P : Nat → Prop} {a : Nat} {pt : Nat} {v1 : Int32} {μ : Mu}   : Fr P μ (Dy_usual a pt v1 μ) := by
  unfold Dy_usual
  refine fr_ite ?_ ?_
  · skip
    exact fr_some
  · skip
    refine fr_ite ?_ ?_
    · skip
      refine fr_ldA (fun _ => ?_)
      exact fr_some
    · skip
      refine fr_ldA (fun _ => ?_)
      refine fr_ldA (fun _ => ?_)
      exact fr_some
theorem fr_Lw_single {P : Nat → Prop} {v0 : Int32} {v1 : Int32} {v2 : Int32} {μ : Mu}   : Fr P μ (Lw_single v0 v1 v2 μ) := by
  unfold Lw_single
  refine fr_ite ?_ ?_
  · skip
    refine fr_ite ?_ ?_
    · skip
      exact fr_some
    · skip
      exact fr_some
  · skip
    refine fr_ite ?_ ?_
    · skip
      exact fr_some
    · skip
      refine fr_nz ?_
      exact fr_some
theorem fr_Lw_pair {P : Nat → Prop} {v0 : Int32} {v1 : Int32} {v2 : Int32} {μ : Mu}   : Fr P μ (Lw_pair v0 v1 v2 μ) := by
  unfold Lw_pair
  refine fr_ite ?_ ?_
  · skip
    exact fr_some
  · skip
    refine fr_ite ?_ ?_
    · skip
      exact fr_some
    · skip
      refine fr_ite ?_ ?_
      · skip
        exact fr_some
      · skip
        refine fr_ite ?_ ?_
        · skip
          exact fr_some
        · skip
          refine fr_ite ?_ ?_
          · skip
            refine fr_ite ?_ ?_
            · skip
              exact fr_some
            · skip
              exact fr_some
          · skip
            refine fr_ite ?_ ?_
            · skip
              refine fr_ite ?_ ?_
              · skip
                exact fr_some
              · skip
                exact fr_some
            · skip
              refine fr_ite ?_ ?_
              · skip
                refine fr_ite ?_ ?_
                · skip
                  exact fr_some
                · skip
                  exact fr_some
              · skip
                exact fr_some
theorem fr_Lw_value_205 {P : Nat → Prop} {a : Nat} {r3 : Nat} {n3 : Nat} {v4 : Int32} {μ : Mu}   : Fr P μ (Lw_value_205 a r3 n3 v4 μ) := by
  unfold Lw_value_205
  refine fr_ite ?_ ?_
  · skip
    exact fr_some
  · skip
    refine fr_ldA (fun _ => ?_)
    exact fr_some
theorem fr_Lw_value_199 {P : Nat → Prop} {a : Nat} {r3 : Nat} {n3 : Nat} {kb10 : Int32 → Int32 → Mu → Option (Int32 × Mu)} {v2 : Int32} {v4 : Int32} {v5 : Int32} {μ : Mu}  (h_kb10 : ∀ (w0 : Int32) (w1 : Int32) (μ : Mu), Fr P μ (kb10 w0 w1 μ)) : Fr P μ (Lw_value_199 a r3 n3 kb10 v2 v4 v5 μ) := by
  unfold Lw_value_199
  exact h_kb10 _ _ _
theorem fr_Lw_value_106 {P : Nat → Prop} {a : Nat} {r3 : Nat} {n3 : Nat} {kb10 : Int32 → Int32 → Mu → Option (Int32 × Mu)} {v2 : Int32} {v4 : Int32} {v5 : Int32} {s0 : Int32} {s1 : Int32} {μ : Mu} (h0 : P (a + 6)) (h_kb10 : ∀ (w0 : Int32) (w1 : Int32) (μ : Mu), Fr P μ (kb10 w0 w1 μ)) : Fr P μ (Lw_value_106 a r3 n3 kb10 v2 v4 v5 s0 s1 μ) := by
  unfold Lw_value_106
  refine fr_stA h0 (fun _ => ?_)
  exact fr_Lw_value_199  h_kb10
theorem fr_Lw_value_77 {P : Nat → Prop} {a : Nat} {r3 : Nat} {n3 : Nat} {kb10 : Int32 → Int32 → Mu → Option (Int32 × Mu)} {v2 : Int32} {v4 : Int32} {v5 : Int32} {v6 : Int32} {v7 : Int32} {v8 : Int32} {μ : Mu} (h0 : P (a + 6)) (h_kb10 : ∀ (w0 : Int32) (w1 : Int32) (μ : Mu), Fr P μ (kb10 w0 w1 μ)) : Fr P μ (Lw_value_77 a r3 n3 kb10 v2 v4 v5 v6 v7 v8 μ) := by
  unfold Lw_value_77
  refine fr_ite ?_ ?_
  · skip
    exact fr_Lw_value_199  h_kb10
  · skip
    refine fr_ite ?_ ?_
    · skip
      exact fr_Lw_value_106 h0 h_kb10
    · skip
      refine fr_ldA (fun _ => ?_)
      exact fr_Lw_value_106 h0 h_kb10
theorem fr_Lw_value_127 {P : Nat → Prop} {a : Nat} {r3 : Nat} {n3 : Nat} {kb10 : Int32 → Int32 → Mu → Option (Int32 × Mu)} {v2 : Int32} {v4 : Int32} {v5 : Int32} {v6 : Int32} {v7 : Int32} {μ : Mu} (h0 : P (a + 6)) (h_kb10 : ∀ (w0 : Int32) (w1 : Int32) (μ : Mu), Fr P μ (kb10 w0 w1 μ)) : Fr P μ (Lw_value_127 a r3 n3 kb10 v2 v4 v5 v6 v7 μ) := by
  unfold Lw_value_127
  refine fr_ite ?_ ?_
  · skip
    exact fr_Lw_value_199  h_kb10
  · skip
    refine fr_ldA (fun _ => ?_)
    refine fr_cl (fr_Lw_single) (fun _ _ => ?_)
    refine fr_stA h0 (fun _ => ?_)
    exact fr_Lw_value_199  h_kb10
theorem fr_Lw_value_113 {P : Nat → Prop} {a : Nat} {r3 : Nat} {n3 : Nat} {kb10 : Int32 → Int32 → Mu → Option (Int32 × Mu)} {v2 : Int32} {v4 : Int32} {v5 : Int32} {v6 : Int32} {v7 : Int32} {μ : Mu} (h0 : P (a + 6)) (h_kb10 : ∀ (w0 : Int32) (w1 : Int32) (μ : Mu), Fr P μ (kb10 w0 w1 μ)) : Fr P μ (Lw_value_113 a r3 n3 kb10 v2 v4 v5 v6 v7 μ) := by
  unfold Lw_value_113
  refine fr_ite ?_ ?_
  · skip
    exact fr_Lw_value_127 h0 h_kb10
  · skip
    refine fr_ite ?_ ?_
    · skip
      exact fr_Lw_value_127 h0 h_kb10
    · skip
      refine fr_ite ?_ ?_
      · skip
        exact fr_Lw_value_199  h_kb10
      · skip
        refine fr_ldA (fun _ => ?_)
        refine fr_ldA (fun _ => ?_)
        refine fr_cl (fr_Lw_pair) (fun _ _ => ?_)
        refine fr_stA h0 (fun _ => ?_)
        exact fr_Lw_value_199  h_kb10
theorem fr_Lw_value_10b {P : Nat → Prop} {a : Nat} {r3 : Nat} {n3 : Nat} {kb10 : Int32 → Int32 → Mu → Option (Int32 × Mu)} {v2 : Int32} {v4 : Int32} {v5 : Int32} {μ : Mu} (h0 : P (a + 6)) (h_kb10 : ∀ (w0 : Int32) (w1 : Int32) (μ : Mu), Fr P μ (kb10 w0 w1 μ)) : Fr P μ (Lw_value_10b a r3 n3 kb10 v2 v4 v5 μ) := by
  unfold Lw_value_10b
  refine fr_ite ?_ ?_
  · skip
    exact fr_Lw_value_205
  · skip
    refine fr_gF (fun _ => ?_)
    refine fr_ite ?_ ?_
    · skip
      exact fr_Lw_value_205
    · skip
      refine fr_ldA (fun _ => ?_)
      refine fr_ldA (fun _ => ?_)
      refine fr_ite ?_ ?_
      · skip
        exact fr_Lw_value_77 h0 h_kb10
      · skip
        refine fr_ite ?_ ?_
        · skip
          exact fr_Lw_value_113 h0 h_kb10
        · skip
          refine fr_ite ?_ ?_
          · skip
            exact fr_Lw_value_113 h0 h_kb10
          · skip
            exact fr_Lw_value_77 h0 h_kb10
theorem fr_Lw_value_10 {P : Nat → Prop} {a : Nat} {r3 : Nat} {n3 : Nat} {v2 : Int32} (h0 : P (a + 6))  : ∀ (fu : Nat) (w0 : Int32) (w1 : Int32) (μ : Mu), Fr P μ (Lw_value_10 a r3 n3 v2 fu w0 w1 μ) := by
  intro fu
  induction fu with
  | zero => intros; exact fr_none
  | succ fu ih => intros; exact fr_Lw_value_10b (a := a) (r3 := r3) (n3 := n3) (v2 := v2) h0  ih
theorem fr_Lw_value {P : Nat → Prop} {a : Nat} {r3 : Nat} {n3 : Nat} {v1 : Int32} {v2 : Int32} {μ : Mu} (h0 : P (a + 6))  : Fr P μ (Lw_value a r3 n3 v1 v2 μ) := by
  unfold Lw_value
  exact fr_Lw_value_10 h0 _ _ _ _
theorem fr_Dy_asks_155 {P : Nat → Prop} {a : Nat} {pt : Nat} {f1 : Nat} {v5 : Int32} {s0 : Int32} {μ : Mu}   : Fr P μ (Dy_asks_155 a pt f1 v5 s0 μ) := by
  unfold Dy_asks_155
  exact fr_some
theorem fr_Dy_asks_127 {P : Nat → Prop} {a : Nat} {pt : Nat} {f1 : Nat} {v3 : Int32} {v5 : Int32} {μ : Mu}   : Fr P μ (Dy_asks_127 a pt f1 v3 v5 μ) := by
  unfold Dy_asks_127
  refine fr_ite ?_ ?_
  · skip
    exact fr_Dy_asks_155
  · skip
    refine fr_ite ?_ ?_
    · skip
      exact fr_Dy_asks_155
    · skip
      refine fr_ldA (fun _ => ?_)
      exact fr_Dy_asks_155
theorem fr_Dy_asks_121 {P : Nat → Prop} {a : Nat} {pt : Nat} {f1 : Nat} {kb25 : Int32 → Mu → Option (Int32 × Mu)} {v3 : Int32} {v5 : Int32} {v6 : Int32} {μ : Mu}  (h_kb25 : ∀ (w0 : Int32) (μ : Mu), Fr P μ (kb25 w0 μ)) : Fr P μ (Dy_asks_121 a pt f1 kb25 v3 v5 v6 μ) := by
  unfold Dy_asks_121
  exact h_kb25 _ _
theorem fr_Dy_asks_97 {P : Nat → Prop} {a : Nat} {pt : Nat} {f1 : Nat} {v3 : Int32} {v6 : Int32} {v7 : Int32} {μ : Mu} (h0 : P (pt + 5 + 1 + 6))  : Fr P μ (Dy_asks_97 a pt f1 v3 v6 v7 μ) := by
  unfold Dy_asks_97
  refine fr_ldA (fun _ => ?_)
  refine fr_cl (fr_Lw_value h0) (fun _ _ => ?_)
  exact fr_Dy_asks_127
theorem fr_Dy_asks_25b {P : Nat → Prop} {a : Nat} {pt : Nat} {f1 : Nat} {kb25 : Int32 → Mu → Option (Int32 × Mu)} {v3 : Int32} {v5 : Int32} {v6 : Int32} {μ : Mu} (h0 : P (pt + 5 + 1 + 6)) (h_kb25 : ∀ (w0 : Int32) (μ : Mu), Fr P μ (kb25 w0 μ)) : Fr P μ (Dy_asks_25b a pt f1 kb25 v3 v5 v6 μ) := by
  unfold Dy_asks_25b
  refine fr_gF (fun _ => ?_)
  refine fr_ite ?_ ?_
  · skip
    exact fr_Dy_asks_127
  · skip
    refine fr_ite ?_ ?_
    · skip
      exact fr_Dy_asks_127
    · skip
      refine fr_ldA (fun _ => ?_)
      refine fr_ldA (fun _ => ?_)
      refine fr_ldA (fun _ => ?_)
      refine fr_ite ?_ ?_
      · skip
        refine fr_ite ?_ ?_
        · skip
          exact fr_Dy_asks_97 h0
        · skip
          refine fr_cl (fr_Lw_value h0) (fun _ _ => ?_)
          refine fr_ite ?_ ?_
          · skip
            exact fr_Dy_asks_121  h_kb25
          · skip
            exact fr_Dy_asks_97 h0
      · skip
        exact fr_Dy_asks_121  h_kb25
theorem fr_Dy_asks_25 {P : Nat → Prop} {a : Nat} {pt : Nat} {f1 : Nat} {v3 : Int32} {v5 : Int32} (h0 : P (pt + 5 + 1 + 6))  : ∀ (fu : Nat) (w0 : Int32) (μ : Mu), Fr P μ (Dy_asks_25 a pt f1 v3 v5 fu w0 μ) := by
  intro fu
  induction fu with
  | zero => intros; exact fr_none
  | succ fu ih => intros; exact fr_Dy_asks_25b (a := a) (pt := pt) (f1 := f1) (v3 := v3) (v5 := v5) h0  ih
theorem fr_Dy_asks {P : Nat → Prop} {a : Nat} {pt : Nat} {f1 : Nat} {v2 : Int32} {v3 : Int32} {μ : Mu} (h0 : P (a + 1)) (h1 : P (pt + 5 + 1 + 6))  : Fr P μ (Dy_asks a pt f1 v2 v3 μ) := by
  unfold Dy_asks
  refine fr_cl (fr_Dy_readWords h0) (fun _ _ => ?_)
  refine fr_cl (fr_Dy_usual) (fun _ _ => ?_)
  exact fr_Dy_asks_25 h1 _ _ _
theorem fr_Fg_pour {P : Nat → Prop} {a : Nat} {v1 : Int32} {v2 : Int32} {μ : Mu} (h0 : P (a + 1)) (h1 : P (a))  : Fr P μ (Fg_pour a v1 v2 μ) := by
  unfold Fg_pour
  refine fr_cl (fr_Fg_get) (fun _ _ => ?_)
  refine fr_cl (fr_Fg_add h0) (fun _ _ => ?_)
  refine fr_gF (fun _ => ?_)
  refine fr_pF h1 (fun _ => ?_)
  exact fr_some
theorem fr_Pt_note {P : Nat → Prop} {a : Nat} {f1 : Nat} {v2 : Int32} {v3 : Int32} {v4 : Int32} {μ : Mu} (h0 : P (a + 4)) (h1 : P (f1))  : Fr P μ (Pt_note a f1 v2 v3 v4 μ) := by
  unfold Pt_note
  refine fr_gF (fun _ => ?_)
  refine fr_ite ?_ ?_
  · skip
    refine fr_gF (fun _ => ?_)
    refine fr_ite ?_ ?_
    · skip
      exact fr_some
    · skip
      refine fr_gF (fun _ => ?_)
      refine fr_ite ?_ ?_
      · skip
        refine fr_gF (fun _ => ?_)
        refine fr_gF (fun _ => ?_)
        refine fr_stA h0 (fun _ => ?_)
        refine fr_stA h0 (fun _ => ?_)
        refine fr_stA h0 (fun _ => ?_)
        refine fr_stA h0 (fun _ => ?_)
        refine fr_gF (fun _ => ?_)
        refine fr_pF h1 (fun _ => ?_)
        exact fr_some
      · skip
        exact fr_some
  · skip
    exact fr_some
theorem fr_Dy_spill {P : Nat → Prop} {a : Nat} {pt : Nat} {f1 : Nat} {v2 : Int32} {μ : Mu} (h0 : P (f1 + 1)) (h1 : P (a + 1)) (h2 : P (pt + 5 + 1 + 6)) (h3 : P (f1)) (h4 : P (pt + 4))  : Fr P μ (Dy_spill a pt f1 v2 μ) := by
  unfold Dy_spill
  refine fr_cl (fr_Fg_add h0) (fun _ _ => ?_)
  refine fr_cl (fr_Dy_asks h1 h2) (fun _ _ => ?_)
  refine fr_cl (fr_Fg_add h0) (fun _ _ => ?_)
  refine fr_cl (fr_Fg_pour h0 h3) (fun _ _ => ?_)
  refine fr_cl (fr_Pt_note h4 h3) (fun _ _ => ?_)
  exact fr_some
theorem fr_Dy_sweep {P : Nat → Prop} {a : Nat} {pt : Nat} {f1 : Nat} {v2 : Int32} {μ : Mu} (h0 : P (f1)) (h1 : P (f1 + 1)) (h2 : P (pt + 4))  : Fr P μ (Dy_sweep a pt f1 v2 μ) := by
  unfold Dy_sweep
  refine fr_cl (fr_Fg_get) (fun _ _ => ?_)
  refine fr_gF (fun _ => ?_)
  refine fr_pF h0 (fun _ => ?_)
  refine fr_cl (fr_Fg_put h1) (fun _ _ => ?_)
  refine fr_cl (fr_Pt_note h2 h0) (fun _ _ => ?_)
  exact fr_some
theorem fr_Tx_heirOf {P : Nat → Prop} {a : Nat} {v1 : Int32} {μ : Mu}   : Fr P μ (Tx_heirOf a v1 μ) := by
  unfold Tx_heirOf
  refine fr_ite ?_ ?_
  · skip
    exact fr_some
  · skip
    refine fr_ite ?_ ?_
    · skip
      exact fr_some
    · skip
      refine fr_ldA (fun _ => ?_)
      exact fr_some
theorem fr_Dy_die {P : Nat → Prop} {a : Nat} {pt : Nat} {f1 : Nat} {v2 : Int32} {μ : Mu} (h0 : P (f1 + 2)) (h1 : P (f1 + 1)) (h2 : P (pt + 4)) (h3 : P (f1))  : Fr P μ (Dy_die a pt f1 v2 μ) := by
  unfold Dy_die
  refine fr_cl (fr_Fg_isAlive) (fun _ _ => ?_)
  refine fr_ite ?_ ?_
  · skip
    exact fr_some
  · skip
    refine fr_cl (fr_Fg_get) (fun _ _ => ?_)
    refine fr_cl (fr_Tx_heirOf) (fun _ _ => ?_)
    refine fr_cl (fr_Fg_rise h0 h1) (fun _ _ => ?_)
    refine fr_cl (fr_Fg_put h1) (fun _ _ => ?_)
    refine fr_cl (fr_Fg_put h1) (fun _ _ => ?_)
    refine fr_cl (fr_Pt_note h2 h3) (fun _ _ => ?_)
    refine fr_cl (fr_Fg_isAlive) (fun _ _ => ?_)
    refine fr_ite ?_ ?_
    · skip
      refine fr_gF (fun _ => ?_)
      refine fr_pF h3 (fun _ => ?_)
      exact fr_some
    · skip
      refine fr_cl (fr_Fg_pour h1 h3) (fun _ _ => ?_)
      refine fr_cl (fr_Pt_note h2 h3) (fun _ _ => ?_)
      exact fr_some
theorem fr_Pt_bookAt_36 {P : Nat → Prop} {a : Nat} {v1 : Int32} {v2 : Int32} {s0 : Int32} {μ : Mu}   : Fr P μ (Pt_bookAt_36 a v1 v2 s0 μ) := by
  unfold Pt_bookAt_36
  refine fr_ite ?_ ?_
  · skip
    exact fr_some
  · skip
    refine fr_ldA (fun _ => ?_)
    exact fr_some
theorem fr_Pt_bookAt_35 {P : Nat → Prop} {a : Nat} {v1 : Int32} {v2 : Int32} {μ : Mu}   : Fr P μ (Pt_bookAt_35 a v1 v2 μ) := by
  unfold Pt_bookAt_35
  exact fr_Pt_bookAt_36
theorem fr_Pt_bookAt {P : Nat → Prop} {a : Nat} {v1 : Int32} {v2 : Int32} {μ : Mu}   : Fr P μ (Pt_bookAt a v1 v2 μ) := by
  unfold Pt_bookAt
  refine fr_ite ?_ ?_
  · skip
    exact fr_Pt_bookAt_35
  · skip
    refine fr_gF (fun _ => ?_)
    refine fr_ite ?_ ?_
    · skip
      exact fr_Pt_bookAt_35
    · skip
      refine fr_ite ?_ ?_
      · skip
        exact fr_Pt_bookAt_35
      · skip
        refine fr_ite ?_ ?_
        · skip
          exact fr_Pt_bookAt_35
        · skip
          refine fr_ite ?_ ?_
          · skip
            exact fr_Pt_bookAt_35
          · skip
            exact fr_Pt_bookAt_36
theorem fr_Sf_book {P : Nat → Prop} {a : Nat} {v1 : Int32} {v2 : Int32} {μ : Mu}   : Fr P μ (Sf_book a v1 v2 μ) := by
  unfold Sf_book
  refine fr_cl (fr_Pt_bookAt) (fun _ _ => ?_)
  exact fr_some
theorem fr_Sm_fewestWeighings_35 {P : Nat → Prop} {kb22 : Int32 → Int32 → Mu → Option (Int32 × Mu)} {v0 : Int32} {v1 : Int32} {v2 : Int32} {v3 : Int32} {s0 : Int32} {μ : Mu}  (h_kb22 : ∀ (w0 : Int32) (w1 : Int32) (μ : Mu), Fr P μ (kb22 w0 w1 μ)) : Fr P μ (Sm_fewestWeighings_35 kb22 v0 v1 v2 v3 s0 μ) := by
  unfold Sm_fewestWeighings_35
  refine fr_ite ?_ ?_
  · skip
    exact fr_some
  · skip
    refine fr_ite ?_ ?_
    · skip
      exact fr_some
    · skip
      exact h_kb22 _ _ _
theorem fr_Sm_fewestWeighings_22b {P : Nat → Prop} {kb22 : Int32 → Int32 → Mu → Option (Int32 × Mu)} {v0 : Int32} {v1 : Int32} {v2 : Int32} {v3 : Int32} {μ : Mu}  (h_kb22 : ∀ (w0 : Int32) (w1 : Int32) (μ : Mu), Fr P μ (kb22 w0 w1 μ)) : Fr P μ (Sm_fewestWeighings_22b kb22 v0 v1 v2 v3 μ) := by
  unfold Sm_fewestWeighings_22b
  refine fr_ite ?_ ?_
  · skip
    exact fr_Sm_fewestWeighings_35  h_kb22
  · skip
    exact fr_Sm_fewestWeighings_35  h_kb22
theorem fr_Sm_fewestWeighings_22 {P : Nat → Prop} {v0 : Int32} {v1 : Int32}   : ∀ (fu : Nat) (w0 : Int32) (w1 : Int32) (μ : Mu), Fr P μ (Sm_fewestWeighings_22 v0 v1 fu w0 w1 μ) := by
  intro fu
  induction fu with
  | zero => intros; exact fr_none
  | succ fu ih => intros; exact fr_Sm_fewestWeighings_22b (v0 := v0) (v1 := v1)   ih
theorem fr_Sm_fewestWeighings_18 {P : Nat → Prop} {v0 : Int32} {v1 : Int32} {μ : Mu}   : Fr P μ (Sm_fewestWeighings_18 v0 v1 μ) := by
  unfold Sm_fewestWeighings_18
  exact fr_Sm_fewestWeighings_22 _ _ _ _
theorem fr_Sm_fewestWeighings {P : Nat → Prop} {v0 : Int32} {v1 : Int32} {μ : Mu}   : Fr P μ (Sm_fewestWeighings v0 v1 μ) := by
  unfold Sm_fewestWeighings
  refine fr_ite ?_ ?_
  · skip
    exact fr_some
  · skip
    refine fr_ite ?_ ?_
    · skip
      refine fr_ite ?_ ?_
      · skip
        exact fr_some
      · skip
        exact fr_Sm_fewestWeighings_18
    · skip
      exact fr_Sm_fewestWeighings_18
theorem fr_Sf_coins_30 {P : Nat → Prop} {a : Nat} {s0 : Int32} {s1 : Int32} {μ : Mu}   : Fr P μ (Sf_coins_30 a s0 s1 μ) := by
  unfold Sf_coins_30
  refine fr_cl (fr_Sm_fewestWeighings) (fun _ _ => ?_)
  exact fr_some
theorem fr_Sf_coins {P : Nat → Prop} {a : Nat} {v1 : Int32} {v2 : Int32} {μ : Mu}   : Fr P μ (Sf_coins a v1 v2 μ) := by
  unfold Sf_coins
  refine fr_cl (fr_Sf_within) (fun _ _ => ?_)
  refine fr_ite ?_ ?_
  · skip
    exact fr_some
  · skip
    refine fr_cl (fr_Sf_within) (fun _ _ => ?_)
    refine fr_ite ?_ ?_
    · skip
      exact fr_some
    · skip
      refine fr_ite ?_ ?_
      · skip
        exact fr_Sf_coins_30
      · skip
        exact fr_Sf_coins_30
theorem fr_Sm_monthLength_56 {P : Nat → Prop} {v1 : Int32} {μ : Mu}   : Fr P μ (Sm_monthLength_56 v1 μ) := by
  unfold Sm_monthLength_56
  refine fr_ldZ (fun _ => ?_)
  exact fr_some
theorem fr_Sm_monthLength_41 {P : Nat → Prop} {v1 : Int32} {s0 : Int32} {μ : Mu}   : Fr P μ (Sm_monthLength_41 v1 s0 μ) := by
  unfold Sm_monthLength_41
  refine fr_ite ?_ ?_
  · skip
    refine fr_ite ?_ ?_
    · skip
      exact fr_Sm_monthLength_56
    · skip
      exact fr_some
  · skip
    exact fr_Sm_monthLength_56
theorem fr_Sm_monthLength_40 {P : Nat → Prop} {v1 : Int32} {μ : Mu}   : Fr P μ (Sm_monthLength_40 v1 μ) := by
  unfold Sm_monthLength_40
  exact fr_Sm_monthLength_41
theorem fr_Sm_monthLength_36 {P : Nat → Prop} {v1 : Int32} {μ : Mu}   : Fr P μ (Sm_monthLength_36 v1 μ) := by
  unfold Sm_monthLength_36
  exact fr_Sm_monthLength_41
theorem fr_Sm_monthLength {P : Nat → Prop} {v0 : Int32} {v1 : Int32} {μ : Mu}   : Fr P μ (Sm_monthLength v0 v1 μ) := by
  unfold Sm_monthLength
  refine fr_ite ?_ ?_
  · skip
    exact fr_some
  · skip
    refine fr_ite ?_ ?_
    · skip
      refine fr_ite ?_ ?_
      · skip
        refine fr_ite ?_ ?_
        · skip
          refine fr_ite ?_ ?_
          · skip
            exact fr_Sm_monthLength_36
          · skip
            exact fr_Sm_monthLength_40
        · skip
          exact fr_Sm_monthLength_36
      · skip
        exact fr_Sm_monthLength_40
    · skip
      exact fr_some
theorem fr_Sm_isDate {P : Nat → Prop} {v0 : Int32} {v1 : Int32} {v2 : Int32} {μ : Mu}   : Fr P μ (Sm_isDate v0 v1 v2 μ) := by
  unfold Sm_isDate
  refine fr_ite ?_ ?_
  · skip
    exact fr_some
  · skip
    refine fr_ite ?_ ?_
    · skip
      exact fr_some
    · skip
      refine fr_ite ?_ ?_
      · skip
        exact fr_some
      · skip
        refine fr_cl (fr_Sm_monthLength) (fun _ _ => ?_)
        refine fr_ite ?_ ?_
        · skip
          exact fr_some
        · skip
          exact fr_some
theorem fr_Sm_leapYearsTo {P : Nat → Prop} {v0 : Int32} {μ : Mu}   : Fr P μ (Sm_leapYearsTo v0 μ) := by
  unfold Sm_leapYearsTo
  exact fr_some
theorem fr_Sm_dayNumber_37 {P : Nat → Prop} {v0 : Int32} {v3 : Int32} {μ : Mu}   : Fr P μ (Sm_dayNumber_37 v0 v3 μ) := by
  unfold Sm_dayNumber_37
  refine fr_cl (fr_Sm_leapYearsTo) (fun _ _ => ?_)
  refine fr_cl (fr_Sm_leapYearsTo) (fun _ _ => ?_)
  exact fr_some
theorem fr_Sm_dayNumber_7b {P : Nat → Prop} {kb7 : Int32 → Int32 → Mu → Option (Int32 × Mu)} {v0 : Int32} {v1 : Int32} {v3 : Int32} {v4 : Int32} {μ : Mu}  (h_kb7 : ∀ (w0 : Int32) (w1 : Int32) (μ : Mu), Fr P μ (kb7 w0 w1 μ)) : Fr P μ (Sm_dayNumber_7b kb7 v0 v1 v3 v4 μ) := by
  unfold Sm_dayNumber_7b
  refine fr_ite ?_ ?_
  · skip
    exact fr_Sm_dayNumber_37
  · skip
    refine fr_ite ?_ ?_
    · skip
      exact fr_Sm_dayNumber_37
    · skip
      refine fr_cl (fr_Sm_monthLength) (fun _ _ => ?_)
      exact h_kb7 _ _ _
theorem fr_Sm_dayNumber_7 {P : Nat → Prop} {v0 : Int32} {v1 : Int32}   : ∀ (fu : Nat) (w0 : Int32) (w1 : Int32) (μ : Mu), Fr P μ (Sm_dayNumber_7 v0 v1 fu w0 w1 μ) := by
  intro fu
  induction fu with
  | zero => intros; exact fr_none
  | succ fu ih => intros; exact fr_Sm_dayNumber_7b (v0 := v0) (v1 := v1)   ih
theorem fr_Sm_dayNumber {P : Nat → Prop} {v0 : Int32} {v1 : Int32} {v2 : Int32} {μ : Mu}   : Fr P μ (Sm_dayNumber v0 v1 v2 μ) := by
  unfold Sm_dayNumber
  exact fr_Sm_dayNumber_7 _ _ _ _
theorem fr_Sf_date {P : Nat → Prop} {a : Nat} {v1 : Int32} {v2 : Int32} {v3 : Int32} {μ : Mu} (h0 : P (a + 1 + 17))  : Fr P μ (Sf_date a v1 v2 v3 μ) := by
  unfold Sf_date
  refine fr_cl (fr_Sm_isDate) (fun _ _ => ?_)
  refine fr_ite ?_ ?_
  · skip
    exact fr_some
  · skip
    refine fr_cl (fr_Sm_dayNumber) (fun _ _ => ?_)
    refine fr_pF h0 (fun _ => ?_)
    exact fr_some
theorem fr_Tx_linesOf {P : Nat → Prop} {a : Nat} {v1 : Int32} {μ : Mu}   : Fr P μ (Tx_linesOf a v1 μ) := by
  unfold Tx_linesOf
  refine fr_ite ?_ ?_
  · skip
    exact fr_some
  · skip
    refine fr_ite ?_ ?_
    · skip
      exact fr_some
    · skip
      refine fr_ldA (fun _ => ?_)
      exact fr_some
theorem fr_Tx_weatherAt {P : Nat → Prop} {a : Nat} {v1 : Int32} {v2 : Int32} {μ : Mu}   : Fr P μ (Tx_weatherAt a v1 v2 μ) := by
  unfold Tx_weatherAt
  refine fr_ite ?_ ?_
  · skip
    exact fr_some
  · skip
    refine fr_ite ?_ ?_
    · skip
      exact fr_some
    · skip
      refine fr_ldA (fun _ => ?_)
      exact fr_some
theorem fr_Fg_tallest_33 {P : Nat → Prop} {a : Nat} {kb6 : Int32 → Int32 → Int32 → Mu → Option (Int32 × Mu)} {v1 : Int32} {v2 : Int32} {v3 : Int32} {μ : Mu}  (h_kb6 : ∀ (w0 : Int32) (w1 : Int32) (w2 : Int32) (μ : Mu), Fr P μ (kb6 w0 w1 w2 μ)) : Fr P μ (Fg_tallest_33 a kb6 v1 v2 v3 μ) := by
  unfold Fg_tallest_33
  exact h_kb6 _ _ _ _
theorem fr_Fg_tallest_6b {P : Nat → Prop} {a : Nat} {kb6 : Int32 → Int32 → Int32 → Mu → Option (Int32 × Mu)} {v1 : Int32} {v2 : Int32} {v3 : Int32} {μ : Mu}  (h_kb6 : ∀ (w0 : Int32) (w1 : Int32) (w2 : Int32) (μ : Mu), Fr P μ (kb6 w0 w1 w2 μ)) : Fr P μ (Fg_tallest_6b a kb6 v1 v2 v3 μ) := by
  unfold Fg_tallest_6b
  refine fr_gF (fun _ => ?_)
  refine fr_ite ?_ ?_
  · skip
    exact fr_some
  · skip
    refine fr_cl (fr_Fg_get) (fun _ _ => ?_)
    refine fr_ite ?_ ?_
    · skip
      exact fr_Fg_tallest_33  h_kb6
    · skip
      refine fr_cl (fr_Fg_get) (fun _ _ => ?_)
      exact fr_Fg_tallest_33  h_kb6
theorem fr_Fg_tallest_6 {P : Nat → Prop} {a : Nat}   : ∀ (fu : Nat) (w0 : Int32) (w1 : Int32) (w2 : Int32) (μ : Mu), Fr P μ (Fg_tallest_6 a fu w0 w1 w2 μ) := by
  intro fu
  induction fu with
  | zero => intros; exact fr_none
  | succ fu ih => intros; exact fr_Fg_tallest_6b (a := a)   ih
theorem fr_Fg_tallest {P : Nat → Prop} {a : Nat} {μ : Mu}   : Fr P μ (Fg_tallest a μ) := by
  unfold Fg_tallest
  exact fr_Fg_tallest_6 _ _ _ _ _
theorem fr_Fg_howMany_28 {P : Nat → Prop} {a : Nat} {kb5 : Int32 → Int32 → Mu → Option (Int32 × Mu)} {v1 : Int32} {v2 : Int32} {v3 : Int32} {v4 : Int32} {μ : Mu}  (h_kb5 : ∀ (w0 : Int32) (w1 : Int32) (μ : Mu), Fr P μ (kb5 w0 w1 μ)) : Fr P μ (Fg_howMany_28 a kb5 v1 v2 v3 v4 μ) := by
  unfold Fg_howMany_28
  exact h_kb5 _ _ _
theorem fr_Fg_howMany_5b {P : Nat → Prop} {a : Nat} {kb5 : Int32 → Int32 → Mu → Option (Int32 × Mu)} {v1 : Int32} {v2 : Int32} {v3 : Int32} {v4 : Int32} {μ : Mu}  (h_kb5 : ∀ (w0 : Int32) (w1 : Int32) (μ : Mu), Fr P μ (kb5 w0 w1 μ)) : Fr P μ (Fg_howMany_5b a kb5 v1 v2 v3 v4 μ) := by
  unfold Fg_howMany_5b
  refine fr_gF (fun _ => ?_)
  refine fr_ite ?_ ?_
  · skip
    exact fr_some
  · skip
    refine fr_cl (fr_Fg_get) (fun _ _ => ?_)
    refine fr_ite ?_ ?_
    · skip
      exact fr_Fg_howMany_28  h_kb5
    · skip
      exact fr_Fg_howMany_28  h_kb5
theorem fr_Fg_howMany_5 {P : Nat → Prop} {a : Nat} {v1 : Int32} {v2 : Int32}   : ∀ (fu : Nat) (w0 : Int32) (w1 : Int32) (μ : Mu), Fr P μ (Fg_howMany_5 a v1 v2 fu w0 w1 μ) := by
  intro fu
  induction fu with
  | zero => intros; exact fr_none
  | succ fu ih => intros; exact fr_Fg_howMany_5b (a := a) (v1 := v1) (v2 := v2)   ih
theorem fr_Fg_howMany {P : Nat → Prop} {a : Nat} {v1 : Int32} {v2 : Int32} {μ : Mu}   : Fr P μ (Fg_howMany a v1 v2 μ) := by
  unfold Fg_howMany
  exact fr_Fg_howMany_5 _ _ _ _
theorem fr_Fg_mostBelow_35 {P : Nat → Prop} {a : Nat} {kb4 : Int32 → Int32 → Mu → Option (Int32 × Mu)} {v1 : Int32} {v2 : Int32} {v3 : Int32} {μ : Mu}  (h_kb4 : ∀ (w0 : Int32) (w1 : Int32) (μ : Mu), Fr P μ (kb4 w0 w1 μ)) : Fr P μ (Fg_mostBelow_35 a kb4 v1 v2 v3 μ) := by
  unfold Fg_mostBelow_35
  exact h_kb4 _ _ _
theorem fr_Fg_mostBelow_4b {P : Nat → Prop} {a : Nat} {kb4 : Int32 → Int32 → Mu → Option (Int32 × Mu)} {v1 : Int32} {v2 : Int32} {v3 : Int32} {μ : Mu}  (h_kb4 : ∀ (w0 : Int32) (w1 : Int32) (μ : Mu), Fr P μ (kb4 w0 w1 μ)) : Fr P μ (Fg_mostBelow_4b a kb4 v1 v2 v3 μ) := by
  unfold Fg_mostBelow_4b
  refine fr_gF (fun _ => ?_)
  refine fr_ite ?_ ?_
  · skip
    exact fr_some
  · skip
    refine fr_cl (fr_Fg_get) (fun _ _ => ?_)
    refine fr_ite ?_ ?_
    · skip
      exact fr_Fg_mostBelow_35  h_kb4
    · skip
      refine fr_ite ?_ ?_
      · skip
        exact fr_Fg_mostBelow_35  h_kb4
      · skip
        exact fr_Fg_mostBelow_35  h_kb4
theorem fr_Fg_mostBelow_4 {P : Nat → Prop} {a : Nat} {v1 : Int32}   : ∀ (fu : Nat) (w0 : Int32) (w1 : Int32) (μ : Mu), Fr P μ (Fg_mostBelow_4 a v1 fu w0 w1 μ) := by
  intro fu
  induction fu with
  | zero => intros; exact fr_none
  | succ fu ih => intros; exact fr_Fg_mostBelow_4b (a := a) (v1 := v1)   ih
theorem fr_Fg_mostBelow {P : Nat → Prop} {a : Nat} {v1 : Int32} {μ : Mu}   : Fr P μ (Fg_mostBelow a v1 μ) := by
  unfold Fg_mostBelow
  exact fr_Fg_mostBelow_4 _ _ _ _
theorem fr_Dy_lick_103 {P : Nat → Prop} {f0 : Nat} {kb57 : Int32 → Int32 → Mu → Option (Int32 × Mu)} {v2 : Int32} {v4 : Int32} {v5 : Int32} {v6 : Int32} {v7 : Int32} {μ : Mu}  (h_kb57 : ∀ (w0 : Int32) (w1 : Int32) (μ : Mu), Fr P μ (kb57 w0 w1 μ)) : Fr P μ (Dy_lick_103 f0 kb57 v2 v4 v5 v6 v7 μ) := by
  unfold Dy_lick_103
  exact h_kb57 _ _ _
theorem fr_Dy_lick_97 {P : Nat → Prop} {f0 : Nat} {kb57 : Int32 → Int32 → Mu → Option (Int32 × Mu)} {v2 : Int32} {v4 : Int32} {v5 : Int32} {v6 : Int32} {v7 : Int32} {s0 : Int32} {s1 : Int32} {s2 : Int32} {μ : Mu} (h0 : P (f0 + 1)) (h_kb57 : ∀ (w0 : Int32) (w1 : Int32) (μ : Mu), Fr P μ (kb57 w0 w1 μ)) : Fr P μ (Dy_lick_97 f0 kb57 v2 v4 v5 v6 v7 s0 s1 s2 μ) := by
  unfold Dy_lick_97
  refine fr_cl (fr_Fg_add h0) (fun _ _ => ?_)
  exact fr_Dy_lick_103  h_kb57
theorem fr_Dy_lick_57b {P : Nat → Prop} {f0 : Nat} {kb57 : Int32 → Int32 → Mu → Option (Int32 × Mu)} {v2 : Int32} {v4 : Int32} {v5 : Int32} {v6 : Int32} {v7 : Int32} {μ : Mu} (h0 : P (f0 + 1)) (h_kb57 : ∀ (w0 : Int32) (w1 : Int32) (μ : Mu), Fr P μ (kb57 w0 w1 μ)) : Fr P μ (Dy_lick_57b f0 kb57 v2 v4 v5 v6 v7 μ) := by
  unfold Dy_lick_57b
  refine fr_gF (fun _ => ?_)
  refine fr_ite ?_ ?_
  · skip
    exact fr_some
  · skip
    refine fr_cl (fr_Fg_get) (fun _ _ => ?_)
    refine fr_ite ?_ ?_
    · skip
      refine fr_ite ?_ ?_
      · skip
        exact fr_Dy_lick_97 h0 h_kb57
      · skip
        exact fr_Dy_lick_97 h0 h_kb57
    · skip
      exact fr_Dy_lick_103  h_kb57
theorem fr_Dy_lick_57 {P : Nat → Prop} {f0 : Nat} {v2 : Int32} {v4 : Int32} {v5 : Int32} (h0 : P (f0 + 1))  : ∀ (fu : Nat) (w0 : Int32) (w1 : Int32) (μ : Mu), Fr P μ (Dy_lick_57 f0 v2 v4 v5 fu w0 w1 μ) := by
  intro fu
  induction fu with
  | zero => intros; exact fr_none
  | succ fu ih => intros; exact fr_Dy_lick_57b (f0 := f0) (v2 := v2) (v4 := v4) (v5 := v5) h0  ih
theorem fr_Dy_lick {P : Nat → Prop} {f0 : Nat} {v1 : Int32} {μ : Mu} (h0 : P (f0 + 1))  : Fr P μ (Dy_lick f0 v1 μ) := by
  unfold Dy_lick
  refine fr_cl (fr_Fg_tallest) (fun _ _ => ?_)
  refine fr_cl (fr_Fg_get) (fun _ _ => ?_)
  refine fr_cl (fr_Fg_howMany) (fun _ _ => ?_)
  refine fr_ite ?_ ?_
  · skip
    exact fr_some
  · skip
    refine fr_ite ?_ ?_
    · skip
      refine fr_cl (fr_Fg_mostBelow) (fun _ _ => ?_)
      refine fr_nz ?_
      refine fr_nz ?_
      exact fr_Dy_lick_57 h0 _ _ _ _
    · skip
      exact fr_some
theorem fr_Dy_cattleCome_119 {P : Nat → Prop} {a : Nat} {pt : Nat} {f1 : Nat} {kb59 : Int32 → Mu → Option (Unit × Mu)} {v4 : Int32} {μ : Mu}  (h_kb59 : ∀ (w0 : Int32) (μ : Mu), Fr P μ (kb59 w0 μ)) : Fr P μ (Dy_cattleCome_119 a pt f1 kb59 v4 μ) := by
  unfold Dy_cattleCome_119
  exact h_kb59 _ _
theorem fr_Dy_cattleCome_59b {P : Nat → Prop} {a : Nat} {pt : Nat} {f1 : Nat} {kb59 : Int32 → Mu → Option (Unit × Mu)} {v4 : Int32} {μ : Mu} (h0 : P (f1 + 1)) (h1 : P (pt + 4)) (h2 : P (f1)) (h_kb59 : ∀ (w0 : Int32) (μ : Mu), Fr P μ (kb59 w0 μ)) : Fr P μ (Dy_cattleCome_59b a pt f1 kb59 v4 μ) := by
  unfold Dy_cattleCome_59b
  refine fr_gF (fun _ => ?_)
  refine fr_ite ?_ ?_
  · skip
    exact fr_some
  · skip
    refine fr_ite ?_ ?_
    · skip
      exact fr_some
    · skip
      refine fr_ldA (fun _ => ?_)
      refine fr_cl (fr_Fg_get) (fun _ _ => ?_)
      refine fr_ite ?_ ?_
      · skip
        exact fr_Dy_cattleCome_119  h_kb59
      · skip
        refine fr_cl (fr_Fg_add h0) (fun _ _ => ?_)
        refine fr_cl (fr_Pt_note h1 h2) (fun _ _ => ?_)
        exact fr_Dy_cattleCome_119  h_kb59
theorem fr_Dy_cattleCome_59 {P : Nat → Prop} {a : Nat} {pt : Nat} {f1 : Nat} (h0 : P (f1 + 1)) (h1 : P (pt + 4)) (h2 : P (f1))  : ∀ (fu : Nat) (w0 : Int32) (μ : Mu), Fr P μ (Dy_cattleCome_59 a pt f1 fu w0 μ) := by
  intro fu
  induction fu with
  | zero => intros; exact fr_none
  | succ fu ih => intros; exact fr_Dy_cattleCome_59b (a := a) (pt := pt) (f1 := f1) h0 h1 h2  ih
theorem fr_Dy_cattleCome_56 {P : Nat → Prop} {a : Nat} {pt : Nat} {f1 : Nat} {μ : Mu} (h0 : P (f1 + 1)) (h1 : P (pt + 4)) (h2 : P (f1))  : Fr P μ (Dy_cattleCome_56 a pt f1 μ) := by
  unfold Dy_cattleCome_56
  exact fr_Dy_cattleCome_59 h0 h1 h2 _ _ _
theorem fr_Dy_cattleCome_31b {P : Nat → Prop} {a : Nat} {pt : Nat} {f1 : Nat} {kb31 : Int32 → Int32 → Mu → Option (Unit × Mu)} {v3 : Int32} {v4 : Int32} {μ : Mu} (h0 : P (f1 + 1)) (h1 : P (pt + 4)) (h2 : P (f1)) (h_kb31 : ∀ (w0 : Int32) (w1 : Int32) (μ : Mu), Fr P μ (kb31 w0 w1 μ)) : Fr P μ (Dy_cattleCome_31b a pt f1 kb31 v3 v4 μ) := by
  unfold Dy_cattleCome_31b
  refine fr_ite ?_ ?_
  · skip
    exact fr_Dy_cattleCome_56 h0 h1 h2
  · skip
    refine fr_ite ?_ ?_
    · skip
      exact fr_Dy_cattleCome_56 h0 h1 h2
    · skip
      refine fr_cl (fr_Dy_lick h0) (fun _ _ => ?_)
      exact h_kb31 _ _ _
theorem fr_Dy_cattleCome_31 {P : Nat → Prop} {a : Nat} {pt : Nat} {f1 : Nat} (h0 : P (f1 + 1)) (h1 : P (pt + 4)) (h2 : P (f1))  : ∀ (fu : Nat) (w0 : Int32) (w1 : Int32) (μ : Mu), Fr P μ (Dy_cattleCome_31 a pt f1 fu w0 w1 μ) := by
  intro fu
  induction fu with
  | zero => intros; exact fr_none
  | succ fu ih => intros; exact fr_Dy_cattleCome_31b (a := a) (pt := pt) (f1 := f1) h0 h1 h2  ih
theorem fr_Dy_cattleCome_2b {P : Nat → Prop} {a : Nat} {pt : Nat} {f1 : Nat} {kb2 : Int32 → Mu → Option (Unit × Mu)} {v2 : Int32} {v3 : Int32} {μ : Mu} (h0 : P (f1 + 1)) (h1 : P (pt + 4)) (h2 : P (f1)) (h3 : P (a + 2)) (h_kb2 : ∀ (w0 : Int32) (μ : Mu), Fr P μ (kb2 w0 μ)) : Fr P μ (Dy_cattleCome_2b a pt f1 kb2 v2 v3 μ) := by
  unfold Dy_cattleCome_2b
  refine fr_ite ?_ ?_
  · skip
    exact fr_Dy_cattleCome_31 h0 h1 h2 _ _ _ _
  · skip
    refine fr_cl (fr_Fg_get) (fun _ _ => ?_)
    refine fr_stA h3 (fun _ => ?_)
    exact h_kb2 _ _
theorem fr_Dy_cattleCome_2 {P : Nat → Prop} {a : Nat} {pt : Nat} {f1 : Nat} {v2 : Int32} (h0 : P (f1 + 1)) (h1 : P (pt + 4)) (h2 : P (f1)) (h3 : P (a + 2))  : ∀ (fu : Nat) (w0 : Int32) (μ : Mu), Fr P μ (Dy_cattleCome_2 a pt f1 v2 fu w0 μ) := by
  intro fu
  induction fu with
  | zero => intros; exact fr_none
  | succ fu ih => intros; exact fr_Dy_cattleCome_2b (a := a) (pt := pt) (f1 := f1) (v2 := v2) h0 h1 h2 h3  ih
theorem fr_Dy_cattleCome {P : Nat → Prop} {a : Nat} {pt : Nat} {f1 : Nat} {v2 : Int32} {μ : Mu} (h0 : P (f1 + 1)) (h1 : P (pt + 4)) (h2 : P (f1)) (h3 : P (a + 2))  : Fr P μ (Dy_cattleCome a pt f1 v2 μ) := by
  unfold Dy_cattleCome
  exact fr_Dy_cattleCome_2 h0 h1 h2 h3 _ _ _
theorem fr_Dy_weather_197 {P : Nat → Prop} {a : Nat} {pt : Nat} {f1 : Nat} {kb4 : Int32 → Int32 → Mu → Option (Int32 × Mu)} {v2 : Int32} {v3 : Int32} {μ : Mu}  (h_kb4 : ∀ (w0 : Int32) (w1 : Int32) (μ : Mu), Fr P μ (kb4 w0 w1 μ)) : Fr P μ (Dy_weather_197 a pt f1 kb4 v2 v3 μ) := by
  unfold Dy_weather_197
  exact h_kb4 _ _ _
theorem fr_Dy_weather_169 {P : Nat → Prop} {a : Nat} {pt : Nat} {f1 : Nat} {kb4 : Int32 → Int32 → Mu → Option (Int32 × Mu)} {kb138 : Int32 → Int32 → Mu → Option (Int32 × Mu)} {v2 : Int32} {v3 : Int32} {v6 : Int32} {μ : Mu}  (h_kb4 : ∀ (w0 : Int32) (w1 : Int32) (μ : Mu), Fr P μ (kb4 w0 w1 μ)) (h_kb138 : ∀ (w0 : Int32) (w1 : Int32) (μ : Mu), Fr P μ (kb138 w0 w1 μ)) : Fr P μ (Dy_weather_169 a pt f1 kb4 kb138 v2 v3 v6 μ) := by
  unfold Dy_weather_169
  exact h_kb138 _ _ _
theorem fr_Dy_weather_138b {P : Nat → Prop} {a : Nat} {pt : Nat} {f1 : Nat} {kb4 : Int32 → Int32 → Mu → Option (Int32 × Mu)} {kb138 : Int32 → Int32 → Mu → Option (Int32 × Mu)} {v3 : Int32} {v2 : Int32} {v6 : Int32} {μ : Mu} (h0 : P (f1 + 1)) (h1 : P (a + 1)) (h2 : P (pt + 5 + 1 + 6)) (h3 : P (f1)) (h4 : P (pt + 4)) (h_kb4 : ∀ (w0 : Int32) (w1 : Int32) (μ : Mu), Fr P μ (kb4 w0 w1 μ)) (h_kb138 : ∀ (w0 : Int32) (w1 : Int32) (μ : Mu), Fr P μ (kb138 w0 w1 μ)) : Fr P μ (Dy_weather_138b a pt f1 kb4 kb138 v3 v2 v6 μ) := by
  unfold Dy_weather_138b
  refine fr_gF (fun _ => ?_)
  refine fr_ite ?_ ?_
  · skip
    exact fr_Dy_weather_197  h_kb4
  · skip
    refine fr_cl (fr_Fg_get) (fun _ _ => ?_)
    refine fr_ite ?_ ?_
    · skip
      exact fr_Dy_weather_169  h_kb4 h_kb138
    · skip
      refine fr_cl (fr_Dy_spill h0 h1 h2 h3 h4) (fun _ _ => ?_)
      exact fr_Dy_weather_169  h_kb4 h_kb138
theorem fr_Dy_weather_138 {P : Nat → Prop} {a : Nat} {pt : Nat} {f1 : Nat} {kb4 : Int32 → Int32 → Mu → Option (Int32 × Mu)} {v3 : Int32} (h0 : P (f1 + 1)) (h1 : P (a + 1)) (h2 : P (pt + 5 + 1 + 6)) (h3 : P (f1)) (h4 : P (pt + 4)) (h_kb4 : ∀ (w0 : Int32) (w1 : Int32) (μ : Mu), Fr P μ (kb4 w0 w1 μ)) : ∀ (fu : Nat) (w0 : Int32) (w1 : Int32) (μ : Mu), Fr P μ (Dy_weather_138 a pt f1 kb4 v3 fu w0 w1 μ) := by
  intro fu
  induction fu with
  | zero => intros; exact fr_none
  | succ fu ih => intros; exact fr_Dy_weather_138b (a := a) (pt := pt) (f1 := f1) (kb4 := kb4) (v3 := v3) h0 h1 h2 h3 h4 h_kb4 ih
theorem fr_Dy_weather_4b {P : Nat → Prop} {a : Nat} {pt : Nat} {f1 : Nat} {kb4 : Int32 → Int32 → Mu → Option (Int32 × Mu)} {v2 : Int32} {v3 : Int32} {μ : Mu} (h0 : P (f1)) (h1 : P (f1 + 2)) (h2 : P (f1 + 1)) (h3 : P (pt + 4)) (h4 : P (a + 2)) (h5 : P (a + 1)) (h6 : P (pt + 5 + 1 + 6)) (h_kb4 : ∀ (w0 : Int32) (w1 : Int32) (μ : Mu), Fr P μ (kb4 w0 w1 μ)) : Fr P μ (Dy_weather_4b a pt f1 kb4 v2 v3 μ) := by
  unfold Dy_weather_4b
  refine fr_cl (fr_Tx_linesOf) (fun _ _ => ?_)
  refine fr_ite ?_ ?_
  · skip
    exact fr_some
  · skip
    refine fr_cl (fr_Tx_weatherAt) (fun _ _ => ?_)
    refine fr_gF (fun _ => ?_)
    refine fr_ite ?_ ?_
    · skip
      refine fr_cl (fr_Tx_weatherAt) (fun _ _ => ?_)
      refine fr_cl (fr_Tx_weatherAt) (fun _ _ => ?_)
      refine fr_cl (fr_Tx_weatherAt) (fun _ _ => ?_)
      refine fr_ite ?_ ?_
      · skip
        refine fr_pF h0 (fun _ => ?_)
        exact fr_Dy_weather_197  h_kb4
      · skip
        refine fr_ite ?_ ?_
        · skip
          refine fr_cl (fr_Dy_die h1 h2 h3 h0) (fun _ _ => ?_)
          exact fr_Dy_weather_197  h_kb4
        · skip
          refine fr_ite ?_ ?_
          · skip
            refine fr_cl (fr_Dy_die h1 h2 h3 h0) (fun _ _ => ?_)
            exact fr_Dy_weather_197  h_kb4
          · skip
            refine fr_ite ?_ ?_
            · skip
              refine fr_cl (fr_Dy_die h1 h2 h3 h0) (fun _ _ => ?_)
              exact fr_Dy_weather_197  h_kb4
            · skip
              refine fr_ite ?_ ?_
              · skip
                refine fr_cl (fr_Dy_die h1 h2 h3 h0) (fun _ _ => ?_)
                exact fr_Dy_weather_197  h_kb4
              · skip
                refine fr_ite ?_ ?_
                · skip
                  refine fr_cl (fr_Dy_die h1 h2 h3 h0) (fun _ _ => ?_)
                  exact fr_Dy_weather_197  h_kb4
                · skip
                  refine fr_ite ?_ ?_
                  · skip
                    refine fr_cl (fr_Dy_cattleCome h2 h3 h0 h4) (fun _ _ => ?_)
                    exact fr_Dy_weather_197  h_kb4
                  · skip
                    refine fr_ite ?_ ?_
                    · skip
                      exact fr_Dy_weather_138 h2 h5 h6 h0 h3 h_kb4 _ _ _ _
                    · skip
                      refine fr_ite ?_ ?_
                      · skip
                        refine fr_cl (fr_Fg_put h2) (fun _ _ => ?_)
                        exact fr_Dy_weather_197  h_kb4
                      · skip
                        refine fr_cl (fr_Dy_die h1 h2 h3 h0) (fun _ _ => ?_)
                        exact fr_Dy_weather_197  h_kb4
    · skip
      exact fr_Dy_weather_197  h_kb4
theorem fr_Dy_weather_4 {P : Nat → Prop} {a : Nat} {pt : Nat} {f1 : Nat} (h0 : P (f1)) (h1 : P (f1 + 2)) (h2 : P (f1 + 1)) (h3 : P (pt + 4)) (h4 : P (a + 2)) (h5 : P (a + 1)) (h6 : P (pt + 5 + 1 + 6))  : ∀ (fu : Nat) (w0 : Int32) (w1 : Int32) (μ : Mu), Fr P μ (Dy_weather_4 a pt f1 fu w0 w1 μ) := by
  intro fu
  induction fu with
  | zero => intros; exact fr_none
  | succ fu ih => intros; exact fr_Dy_weather_4b (a := a) (pt := pt) (f1 := f1) h0 h1 h2 h3 h4 h5 h6  ih
theorem fr_Dy_weather {P : Nat → Prop} {a : Nat} {pt : Nat} {f1 : Nat} {μ : Mu} (h0 : P (f1)) (h1 : P (f1 + 2)) (h2 : P (f1 + 1)) (h3 : P (pt + 4)) (h4 : P (a + 2)) (h5 : P (a + 1)) (h6 : P (pt + 5 + 1 + 6))  : Fr P μ (Dy_weather a pt f1 μ) := by
  unfold Dy_weather
  exact fr_Dy_weather_4 h0 h1 h2 h3 h4 h5 h6 _ _ _ _
theorem fr_Fg_draw {P : Nat → Prop} {a : Nat} {v1 : Int32} {μ : Mu} (h0 : P (a))  : Fr P μ (Fg_draw a v1 μ) := by
  unfold Fg_draw
  refine fr_gF (fun _ => ?_)
  refine fr_pF h0 (fun _ => ?_)
  refine fr_ite ?_ ?_
  · skip
    exact fr_some
  · skip
    refine fr_gF (fun _ => ?_)
    refine fr_nz ?_
    exact fr_some
theorem fr_Dy_happens {P : Nat → Prop} {f0 : Nat} {v1 : Int32} {μ : Mu} (h0 : P (f0))  : Fr P μ (Dy_happens f0 v1 μ) := by
  unfold Dy_happens
  refine fr_gF (fun _ => ?_)
  refine fr_ite ?_ ?_
  · skip
    refine fr_ite ?_ ?_
    · skip
      exact fr_some
    · skip
      refine fr_cl (fr_Fg_draw h0) (fun _ _ => ?_)
      refine fr_ite ?_ ?_
      · skip
        exact fr_some
      · skip
        exact fr_some
  · skip
    refine fr_ite ?_ ?_
    · skip
      exact fr_some
    · skip
      exact fr_some
theorem fr_Dy_runOff_103 {P : Nat → Prop} {a : Nat} {pt : Nat} {f1 : Nat} {v3 : Int32} {v4 : Int32} {μ : Mu} (h0 : P (pt + 4)) (h1 : P (f1))  : Fr P μ (Dy_runOff_103 a pt f1 v3 v4 μ) := by
  unfold Dy_runOff_103
  refine fr_cl (fr_Pt_note h0 h1) (fun _ _ => ?_)
  exact fr_some
theorem fr_Dy_runOff {P : Nat → Prop} {a : Nat} {pt : Nat} {f1 : Nat} {v2 : Int32} {μ : Mu} (h0 : P (a + 1)) (h1 : P (pt + 5 + 1 + 6)) (h2 : P (f1 + 1)) (h3 : P (f1)) (h4 : P (pt + 4))  : Fr P μ (Dy_runOff a pt f1 v2 μ) := by
  unfold Dy_runOff
  refine fr_cl (fr_Fg_holder) (fun _ _ => ?_)
  refine fr_ite ?_ ?_
  · skip
    exact fr_some
  · skip
    refine fr_cl (fr_Fg_get) (fun _ _ => ?_)
    refine fr_ite ?_ ?_
    · skip
      refine fr_cl (fr_Dy_asks h0 h1) (fun _ _ => ?_)
      refine fr_ite ?_ ?_
      · skip
        refine fr_cl (fr_Fg_holder) (fun _ _ => ?_)
        refine fr_cl (fr_Fg_add h2) (fun _ _ => ?_)
        refine fr_gF (fun _ => ?_)
        refine fr_pF h3 (fun _ => ?_)
        refine fr_ite ?_ ?_
        · skip
          refine fr_gF (fun _ => ?_)
          refine fr_pF h3 (fun _ => ?_)
          exact fr_Dy_runOff_103 h4 h3
        · skip
          refine fr_cl (fr_Fg_pour h2 h3) (fun _ _ => ?_)
          exact fr_Dy_runOff_103 h4 h3
      · skip
        exact fr_some
    · skip
      exact fr_some
theorem fr_Dy_goBy_55b {P : Nat → Prop} {a : Nat} {pt : Nat} {f1 : Nat} {kb55 : Int32 → Mu → Option (Int32 × Mu)} {v2 : Int32} {v3 : Int32} {μ : Mu} (h0 : P (f1)) (h1 : P (a + 1)) (h2 : P (pt + 5 + 1 + 6)) (h3 : P (f1 + 1)) (h4 : P (pt + 4)) (h_kb55 : ∀ (w0 : Int32) (μ : Mu), Fr P μ (kb55 w0 μ)) : Fr P μ (Dy_goBy_55b a pt f1 kb55 v2 v3 μ) := by
  unfold Dy_goBy_55b
  refine fr_ite ?_ ?_
  · skip
    refine fr_gF (fun _ => ?_)
    refine fr_pF h0 (fun _ => ?_)
    exact fr_some
  · skip
    refine fr_cl (fr_Dy_runOff h1 h2 h3 h0 h4) (fun _ _ => ?_)
    exact h_kb55 _ _
theorem fr_Dy_goBy_55 {P : Nat → Prop} {a : Nat} {pt : Nat} {f1 : Nat} {v2 : Int32} (h0 : P (f1)) (h1 : P (a + 1)) (h2 : P (pt + 5 + 1 + 6)) (h3 : P (f1 + 1)) (h4 : P (pt + 4))  : ∀ (fu : Nat) (w0 : Int32) (μ : Mu), Fr P μ (Dy_goBy_55 a pt f1 v2 fu w0 μ) := by
  intro fu
  induction fu with
  | zero => intros; exact fr_none
  | succ fu ih => intros; exact fr_Dy_goBy_55b (a := a) (pt := pt) (f1 := f1) (v2 := v2) h0 h1 h2 h3 h4  ih
theorem fr_Dy_goBy_47 {P : Nat → Prop} {a : Nat} {pt : Nat} {f1 : Nat} {kb8 : Int32 → Int32 → Mu → Option (Int32 × Mu)} {v2 : Int32} {v3 : Int32} {μ : Mu}  (h_kb8 : ∀ (w0 : Int32) (w1 : Int32) (μ : Mu), Fr P μ (kb8 w0 w1 μ)) : Fr P μ (Dy_goBy_47 a pt f1 kb8 v2 v3 μ) := by
  unfold Dy_goBy_47
  exact h_kb8 _ _ _
theorem fr_Dy_goBy_8b {P : Nat → Prop} {a : Nat} {pt : Nat} {f1 : Nat} {kb8 : Int32 → Int32 → Mu → Option (Int32 × Mu)} {v2 : Int32} {v3 : Int32} {μ : Mu} (h0 : P (f1)) (h1 : P (a + 1)) (h2 : P (pt + 5 + 1 + 6)) (h3 : P (f1 + 1)) (h4 : P (pt + 4)) (h_kb8 : ∀ (w0 : Int32) (w1 : Int32) (μ : Mu), Fr P μ (kb8 w0 w1 μ)) : Fr P μ (Dy_goBy_8b a pt f1 kb8 v2 v3 μ) := by
  unfold Dy_goBy_8b
  refine fr_gF (fun _ => ?_)
  refine fr_ite ?_ ?_
  · skip
    exact fr_Dy_goBy_55 h0 h1 h2 h3 h4 _ _ _
  · skip
    refine fr_cl (fr_Fg_isAlive) (fun _ _ => ?_)
    refine fr_ite ?_ ?_
    · skip
      exact fr_Dy_goBy_47  h_kb8
    · skip
      refine fr_cl (fr_Dy_asks h1 h2) (fun _ _ => ?_)
      refine fr_cl (fr_Dy_happens h0) (fun _ _ => ?_)
      refine fr_ite ?_ ?_
      · skip
        exact fr_Dy_goBy_47  h_kb8
      · skip
        refine fr_cl (fr_Dy_spill h3 h1 h2 h0 h4) (fun _ _ => ?_)
        exact fr_Dy_goBy_47  h_kb8
theorem fr_Dy_goBy_8 {P : Nat → Prop} {a : Nat} {pt : Nat} {f1 : Nat} (h0 : P (f1)) (h1 : P (a + 1)) (h2 : P (pt + 5 + 1 + 6)) (h3 : P (f1 + 1)) (h4 : P (pt + 4))  : ∀ (fu : Nat) (w0 : Int32) (w1 : Int32) (μ : Mu), Fr P μ (Dy_goBy_8 a pt f1 fu w0 w1 μ) := by
  intro fu
  induction fu with
  | zero => intros; exact fr_none
  | succ fu ih => intros; exact fr_Dy_goBy_8b (a := a) (pt := pt) (f1 := f1) h0 h1 h2 h3 h4  ih
theorem fr_Dy_goBy {P : Nat → Prop} {a : Nat} {pt : Nat} {f1 : Nat} {μ : Mu} (h0 : P (f1)) (h1 : P (f1 + 2)) (h2 : P (f1 + 1)) (h3 : P (pt + 4)) (h4 : P (a + 2)) (h5 : P (a + 1)) (h6 : P (pt + 5 + 1 + 6))  : Fr P μ (Dy_goBy a pt f1 μ) := by
  unfold Dy_goBy
  refine fr_cl (fr_Dy_weather h0 h1 h2 h3 h4 h5 h6) (fun _ _ => ?_)
  exact fr_Dy_goBy_8 h0 h5 h6 h2 h3 _ _ _ _
theorem fr_Fg_heightAt {P : Nat → Prop} {a : Nat} {v1 : Int32} {μ : Mu}   : Fr P μ (Fg_heightAt a v1 μ) := by
  unfold Fg_heightAt
  refine fr_cl (fr_Fg_holder) (fun _ _ => ?_)
  refine fr_ite ?_ ?_
  · skip
    exact fr_some
  · skip
    refine fr_cl (fr_Fg_get) (fun _ _ => ?_)
    exact fr_some
theorem fr_Sf_door_80 {P : Nat → Prop} {a : Nat} {kb10 : Int32 → Int32 → Int32 → Int32 → Mu → Option (Int32 × Mu)} {kb26 : Int32 → Int32 → Int32 → Int32 → Int32 → Mu → Option (Int32 × Mu)} {v1 : Int32} {v2 : Int32} {v3 : Int32} {v4 : Int32} {v5 : Int32} {v6 : Int32} {v7 : Int32} {μ : Mu}  (h_kb10 : ∀ (w0 : Int32) (w1 : Int32) (w2 : Int32) (w3 : Int32) (μ : Mu), Fr P μ (kb10 w0 w1 w2 w3 μ)) (h_kb26 : ∀ (w0 : Int32) (w1 : Int32) (w2 : Int32) (w3 : Int32) (w4 : Int32) (μ : Mu), Fr P μ (kb26 w0 w1 w2 w3 w4 μ)) : Fr P μ (Sf_door_80 a kb10 kb26 v1 v2 v3 v4 v5 v6 v7 μ) := by
  unfold Sf_door_80
  exact h_kb26 _ _ _ _ _ _
theorem fr_Sf_door_26b {P : Nat → Prop} {a : Nat} {kb10 : Int32 → Int32 → Int32 → Int32 → Mu → Option (Int32 × Mu)} {kb26 : Int32 → Int32 → Int32 → Int32 → Int32 → Mu → Option (Int32 × Mu)} {v1 : Int32} {v5 : Int32} {v2 : Int32} {v3 : Int32} {v4 : Int32} {v6 : Int32} {v7 : Int32} {μ : Mu}  (h_kb10 : ∀ (w0 : Int32) (w1 : Int32) (w2 : Int32) (w3 : Int32) (μ : Mu), Fr P μ (kb10 w0 w1 w2 w3 μ)) (h_kb26 : ∀ (w0 : Int32) (w1 : Int32) (w2 : Int32) (w3 : Int32) (w4 : Int32) (μ : Mu), Fr P μ (kb26 w0 w1 w2 w3 w4 μ)) : Fr P μ (Sf_door_26b a kb10 kb26 v1 v5 v2 v3 v4 v6 v7 μ) := by
  unfold Sf_door_26b
  refine fr_ite ?_ ?_
  · skip
    exact h_kb10 _ _ _ _ _
  · skip
    refine fr_cl (fr_Fg_heightAt) (fun _ _ => ?_)
    refine fr_ite ?_ ?_
    · skip
      exact fr_Sf_door_80  h_kb10 h_kb26
    · skip
      exact fr_Sf_door_80  h_kb10 h_kb26
theorem fr_Sf_door_26 {P : Nat → Prop} {a : Nat} {kb10 : Int32 → Int32 → Int32 → Int32 → Mu → Option (Int32 × Mu)} {v1 : Int32} {v5 : Int32}  (h_kb10 : ∀ (w0 : Int32) (w1 : Int32) (w2 : Int32) (w3 : Int32) (μ : Mu), Fr P μ (kb10 w0 w1 w2 w3 μ)) : ∀ (fu : Nat) (w0 : Int32) (w1 : Int32) (w2 : Int32) (w3 : Int32) (w4 : Int32) (μ : Mu), Fr P μ (Sf_door_26 a kb10 v1 v5 fu w0 w1 w2 w3 w4 μ) := by
  intro fu
  induction fu with
  | zero => intros; exact fr_none
  | succ fu ih => intros; exact fr_Sf_door_26b (a := a) (kb10 := kb10) (v1 := v1) (v5 := v5)  h_kb10 ih
theorem fr_Sf_door_10b {P : Nat → Prop} {a : Nat} {kb10 : Int32 → Int32 → Int32 → Int32 → Mu → Option (Int32 × Mu)} {v1 : Int32} {v2 : Int32} {v3 : Int32} {v4 : Int32} {v5 : Int32} {μ : Mu}  (h_kb10 : ∀ (w0 : Int32) (w1 : Int32) (w2 : Int32) (w3 : Int32) (μ : Mu), Fr P μ (kb10 w0 w1 w2 w3 μ)) : Fr P μ (Sf_door_10b a kb10 v1 v2 v3 v4 v5 μ) := by
  unfold Sf_door_10b
  refine fr_ite ?_ ?_
  · skip
    refine fr_ite ?_ ?_
    · skip
      exact fr_some
    · skip
      refine fr_ite ?_ ?_
      · skip
        exact fr_some
      · skip
        refine fr_ite ?_ ?_
        · skip
          exact fr_some
        · skip
          exact fr_some
  · skip
    exact fr_Sf_door_26  h_kb10 _ _ _ _ _ _ _
theorem fr_Sf_door_10 {P : Nat → Prop} {a : Nat} {v1 : Int32}   : ∀ (fu : Nat) (w0 : Int32) (w1 : Int32) (w2 : Int32) (w3 : Int32) (μ : Mu), Fr P μ (Sf_door_10 a v1 fu w0 w1 w2 w3 μ) := by
  intro fu
  induction fu with
  | zero => intros; exact fr_none
  | succ fu ih => intros; exact fr_Sf_door_10b (a := a) (v1 := v1)   ih
theorem fr_Sf_door {P : Nat → Prop} {a : Nat} {v1 : Int32} {μ : Mu}   : Fr P μ (Sf_door a v1 μ) := by
  unfold Sf_door
  exact fr_Sf_door_10 _ _ _ _ _ _
theorem fr_Rw_clear {P : Nat → Prop} {a : Nat} {n : Nat} {μ : Mu} (h0 : P (a))  : Fr P μ (Rw_clear a n μ) := by
  unfold Rw_clear
  refine fr_pF h0 (fun _ => ?_)
  refine fr_gF (fun _ => ?_)
  exact fr_some
theorem fr_Rw_append {P : Nat → Prop} {a : Nat} {n : Nat} {v1 : Int32} {μ : Mu} (h0 : P (a + 1)) (h1 : P (a))  : Fr P μ (Rw_append a n v1 μ) := by
  unfold Rw_append
  refine fr_gF (fun _ => ?_)
  refine fr_ite ?_ ?_
  · skip
    exact fr_some
  · skip
    refine fr_gF (fun _ => ?_)
    refine fr_ite ?_ ?_
    · skip
      exact fr_some
    · skip
      refine fr_gF (fun _ => ?_)
      refine fr_ite ?_ ?_
      · skip
        exact fr_some
      · skip
        refine fr_gF (fun _ => ?_)
        refine fr_ite ?_ ?_
        · skip
          refine fr_gF (fun _ => ?_)
          refine fr_stA h0 (fun _ => ?_)
          refine fr_gF (fun _ => ?_)
          refine fr_pF h1 (fun _ => ?_)
          refine fr_gF (fun _ => ?_)
          exact fr_some
        · skip
          exact fr_some
theorem fr_Rw_tell {P : Nat → Prop} {a : Nat} {n : Nat} {v1 : Int32} {μ : Mu} (h0 : P (a)) (h1 : P (a + 1))  : Fr P μ (Rw_tell a n v1 μ) := by
  unfold Rw_tell
  refine fr_ite ?_ ?_
  · skip
    refine fr_cl (fr_Rw_clear h0) (fun _ _ => ?_)
    exact fr_some
  · skip
    refine fr_cl (fr_Rw_append h1 h0) (fun _ _ => ?_)
    exact fr_some
theorem fr_Sf_drip {P : Nat → Prop} {a : Nat} {v1 : Int32} {μ : Mu} (h0 : P (a + 1 + 17 + 11)) (h1 : P (a + 1 + 17 + 11 + 1))  : Fr P μ (Sf_drip a v1 μ) := by
  unfold Sf_drip
  refine fr_cl (fr_Rw_tell h0 h1) (fun _ _ => ?_)
  exact fr_some
theorem fr_Rw_at {P : Nat → Prop} {a : Nat} {n : Nat} {v1 : Int32} {μ : Mu}   : Fr P μ (Rw_at a n v1 μ) := by
  unfold Rw_at
  refine fr_ite ?_ ?_
  · skip
    exact fr_some
  · skip
    refine fr_gF (fun _ => ?_)
    refine fr_ite ?_ ?_
    · skip
      exact fr_some
    · skip
      refine fr_ite ?_ ?_
      · skip
        exact fr_some
      · skip
        refine fr_ldA (fun _ => ?_)
        exact fr_some
theorem fr_Sm_measure_7b {P : Nat → Prop} {kb7 : Int32 → Int32 → Int32 → Mu → Option (Int32 × Mu)} {v2 : Int32} {v3 : Int32} {v4 : Int32} {μ : Mu}  (h_kb7 : ∀ (w0 : Int32) (w1 : Int32) (w2 : Int32) (μ : Mu), Fr P μ (kb7 w0 w1 w2 μ)) : Fr P μ (Sm_measure_7b kb7 v2 v3 v4 μ) := by
  unfold Sm_measure_7b
  refine fr_ite ?_ ?_
  · skip
    exact fr_some
  · skip
    refine fr_ite ?_ ?_
    · skip
      exact fr_some
    · skip
      refine fr_nz ?_
      exact h_kb7 _ _ _ _
theorem fr_Sm_measure_7 {P : Nat → Prop}    : ∀ (fu : Nat) (w0 : Int32) (w1 : Int32) (w2 : Int32) (μ : Mu), Fr P μ (Sm_measure_7  fu w0 w1 w2 μ) := by
  intro fu
  induction fu with
  | zero => intros; exact fr_none
  | succ fu ih => intros; exact fr_Sm_measure_7b    ih
theorem fr_Sm_measure {P : Nat → Prop} {v0 : Int32} {v1 : Int32} {μ : Mu}   : Fr P μ (Sm_measure v0 v1 μ) := by
  unfold Sm_measure
  exact fr_Sm_measure_7 _ _ _ _ _
theorem fr_Th_atOnce_56 {P : Nat → Prop} {a : Nat} {tt : Nat} {kb4 : Int32 → Int32 → Mu → Option (Int32 × Mu)} {v1 : Int32} {v2 : Int32} {v3 : Int32} {μ : Mu}  (h_kb4 : ∀ (w0 : Int32) (w1 : Int32) (μ : Mu), Fr P μ (kb4 w0 w1 μ)) : Fr P μ (Th_atOnce_56 a tt kb4 v1 v2 v3 μ) := by
  unfold Th_atOnce_56
  exact h_kb4 _ _ _
theorem fr_Th_atOnce_4b {P : Nat → Prop} {a : Nat} {tt : Nat} {kb4 : Int32 → Int32 → Mu → Option (Int32 × Mu)} {v1 : Int32} {v2 : Int32} {v3 : Int32} {μ : Mu}  (h_kb4 : ∀ (w0 : Int32) (w1 : Int32) (μ : Mu), Fr P μ (kb4 w0 w1 μ)) : Fr P μ (Th_atOnce_4b a tt kb4 v1 v2 v3 μ) := by
  unfold Th_atOnce_4b
  refine fr_gF (fun _ => ?_)
  refine fr_ite ?_ ?_
  · skip
    exact fr_some
  · skip
    refine fr_ite ?_ ?_
    · skip
      refine fr_cl (fr_Rw_at) (fun _ _ => ?_)
      refine fr_cl (fr_Sm_measure) (fun _ _ => ?_)
      refine fr_nz ?_
      exact fr_Th_atOnce_56  h_kb4
    · skip
      exact fr_Th_atOnce_56  h_kb4
theorem fr_Th_atOnce_4 {P : Nat → Prop} {a : Nat} {tt : Nat} {v1 : Int32}   : ∀ (fu : Nat) (w0 : Int32) (w1 : Int32) (μ : Mu), Fr P μ (Th_atOnce_4 a tt v1 fu w0 w1 μ) := by
  intro fu
  induction fu with
  | zero => intros; exact fr_none
  | succ fu ih => intros; exact fr_Th_atOnce_4b (a := a) (tt := tt) (v1 := v1)   ih
theorem fr_Th_atOnce {P : Nat → Prop} {a : Nat} {tt : Nat} {v1 : Int32} {μ : Mu}   : Fr P μ (Th_atOnce a tt v1 μ) := by
  unfold Th_atOnce
  exact fr_Th_atOnce_4 _ _ _ _
theorem fr_Th_allAtOnce {P : Nat → Prop} {a : Nat} {tt : Nat} {μ : Mu}   : Fr P μ (Th_allAtOnce a tt μ) := by
  unfold Th_allAtOnce
  refine fr_gF (fun _ => ?_)
  refine fr_ite ?_ ?_
  · skip
    exact fr_some
  · skip
    refine fr_gF (fun _ => ?_)
    refine fr_cl (fr_Th_atOnce) (fun _ _ => ?_)
    exact fr_some
theorem fr_Jn_bitCount {P : Nat → Prop} {v0 : Int32} {μ : Mu}   : Fr P μ (Jn_bitCount v0 μ) := by
  unfold Jn_bitCount
  exact fr_some
theorem fr_Th_dryMinutes_51 {P : Nat → Prop} {a : Nat} {tt : Nat} {kb4 : Int32 → Int32 → Mu → Option (Int32 × Mu)} {v1 : Int32} {v3 : Int32} {s0 : Int32} {s1 : Int32} {μ : Mu}  (h_kb4 : ∀ (w0 : Int32) (w1 : Int32) (μ : Mu), Fr P μ (kb4 w0 w1 μ)) : Fr P μ (Th_dryMinutes_51 a tt kb4 v1 v3 s0 s1 μ) := by
  unfold Th_dryMinutes_51
  exact h_kb4 _ _ _
theorem fr_Th_dryMinutes_4b {P : Nat → Prop} {a : Nat} {tt : Nat} {kb4 : Int32 → Int32 → Mu → Option (Int32 × Mu)} {v1 : Int32} {v2 : Int32} {v3 : Int32} {μ : Mu}  (h_kb4 : ∀ (w0 : Int32) (w1 : Int32) (μ : Mu), Fr P μ (kb4 w0 w1 μ)) : Fr P μ (Th_dryMinutes_4b a tt kb4 v1 v2 v3 μ) := by
  unfold Th_dryMinutes_4b
  refine fr_gF (fun _ => ?_)
  refine fr_ite ?_ ?_
  · skip
    exact fr_some
  · skip
    refine fr_cl (fr_Th_atOnce) (fun _ _ => ?_)
    refine fr_nz ?_
    refine fr_cl (fr_Jn_bitCount) (fun _ _ => ?_)
    refine fr_ite ?_ ?_
    · skip
      exact fr_Th_dryMinutes_51  h_kb4
    · skip
      exact fr_Th_dryMinutes_51  h_kb4
theorem fr_Th_dryMinutes_4 {P : Nat → Prop} {a : Nat} {tt : Nat} {v1 : Int32}   : ∀ (fu : Nat) (w0 : Int32) (w1 : Int32) (μ : Mu), Fr P μ (Th_dryMinutes_4 a tt v1 fu w0 w1 μ) := by
  intro fu
  induction fu with
  | zero => intros; exact fr_none
  | succ fu ih => intros; exact fr_Th_dryMinutes_4b (a := a) (tt := tt) (v1 := v1)   ih
theorem fr_Th_dryMinutes {P : Nat → Prop} {a : Nat} {tt : Nat} {v1 : Int32} {μ : Mu}   : Fr P μ (Th_dryMinutes a tt v1 μ) := by
  unfold Th_dryMinutes
  exact fr_Th_dryMinutes_4 _ _ _ _
theorem fr_Sf_drips {P : Nat → Prop} {a : Nat} {v1 : Int32} {μ : Mu}   : Fr P μ (Sf_drips a v1 μ) := by
  unfold Sf_drips
  refine fr_ite ?_ ?_
  · skip
    refine fr_cl (fr_Th_allAtOnce) (fun _ _ => ?_)
    exact fr_some
  · skip
    refine fr_cl (fr_Sf_within) (fun _ _ => ?_)
    refine fr_ite ?_ ?_
    · skip
      exact fr_some
    · skip
      refine fr_cl (fr_Th_dryMinutes) (fun _ _ => ?_)
      exact fr_some
theorem fr_Rd_cut {P : Nat → Prop} {a : Nat} {v1 : Int32} {μ : Mu} (h0 : P (a))  : Fr P μ (Rd_cut a v1 μ) := by
  unfold Rd_cut
  refine fr_ite ?_ ?_
  · skip
    exact fr_some
  · skip
    refine fr_gF (fun _ => ?_)
    refine fr_ite ?_ ?_
    · skip
      refine fr_pF h0 (fun _ => ?_)
      exact fr_some
    · skip
      exact fr_some
theorem fr_Sf_end {P : Nat → Prop} {a : Nat} {v1 : Int32} {μ : Mu} (h0 : P (a + 48))  : Fr P μ (Sf_end a v1 μ) := by
  unfold Sf_end
  refine fr_cl (fr_Rd_cut h0) (fun _ _ => ?_)
  refine fr_zg ?_
  exact fr_some
theorem fr_Sf_fault {P : Nat → Prop} {a : Nat} {v1 : Int32} {μ : Mu}   : Fr P μ (Sf_fault a v1 μ) := by
  unfold Sf_fault
  refine fr_ite ?_ ?_
  · skip
    refine fr_gF (fun _ => ?_)
    exact fr_some
  · skip
    refine fr_ite ?_ ?_
    · skip
      refine fr_gF (fun _ => ?_)
      exact fr_some
    · skip
      exact fr_some
theorem fr_Rd_hasRoom {P : Nat → Prop} {a : Nat} {μ : Mu}   : Fr P μ (Rd_hasRoom a μ) := by
  unfold Rd_hasRoom
  refine fr_gF (fun _ => ?_)
  refine fr_ite ?_ ?_
  · skip
    exact fr_some
  · skip
    exact fr_some
theorem fr_Rd_append_49 {P : Nat → Prop} {a : Nat} {μ : Mu}   : Fr P μ (Rd_append_49 a μ) := by
  unfold Rd_append_49
  refine fr_gF (fun _ => ?_)
  exact fr_some
theorem fr_Rd_append_3b {P : Nat → Prop} {a : Nat} {kb3 : Int32 → Mu → Option (Int32 × Mu)} {v1 : Int32} {v2 : Int32} {μ : Mu} (h0 : P (a + 1)) (h1 : P (a)) (h_kb3 : ∀ (w0 : Int32) (μ : Mu), Fr P μ (kb3 w0 μ)) : Fr P μ (Rd_append_3b a kb3 v1 v2 μ) := by
  unfold Rd_append_3b
  refine fr_ite ?_ ?_
  · skip
    exact fr_Rd_append_49
  · skip
    refine fr_gF (fun _ => ?_)
    refine fr_ite ?_ ?_
    · skip
      exact fr_Rd_append_49
    · skip
      refine fr_gF (fun _ => ?_)
      refine fr_stA h0 (fun _ => ?_)
      refine fr_gF (fun _ => ?_)
      refine fr_pF h1 (fun _ => ?_)
      exact h_kb3 _ _
theorem fr_Rd_append_3 {P : Nat → Prop} {a : Nat} {v1 : Int32} (h0 : P (a + 1)) (h1 : P (a))  : ∀ (fu : Nat) (w0 : Int32) (μ : Mu), Fr P μ (Rd_append_3 a v1 fu w0 μ) := by
  intro fu
  induction fu with
  | zero => intros; exact fr_none
  | succ fu ih => intros; exact fr_Rd_append_3b (a := a) (v1 := v1) h0 h1  ih
theorem fr_Rd_append {P : Nat → Prop} {a : Nat} {v1 : Int32} {μ : Mu} (h0 : P (a + 1)) (h1 : P (a))  : Fr P μ (Rd_append a v1 μ) := by
  unfold Rd_append
  exact fr_Rd_append_3 h0 h1 _ _ _
theorem fr_Sf_feed {P : Nat → Prop} {a : Nat} {v1 : Int32} {v2 : Int32} {v3 : Int32} {v4 : Int32} {v5 : Int32} {μ : Mu} (h0 : P (a + 48 + 1)) (h1 : P (a + 48))  : Fr P μ (Sf_feed a v1 v2 v3 v4 v5 μ) := by
  unfold Sf_feed
  refine fr_cl (fr_Rd_hasRoom) (fun _ _ => ?_)
  refine fr_ite ?_ ?_
  · skip
    exact fr_some
  · skip
    refine fr_cl (fr_Rd_append h0 h1) (fun _ _ => ?_)
    refine fr_cl (fr_Rd_append h0 h1) (fun _ _ => ?_)
    refine fr_cl (fr_Rd_append h0 h1) (fun _ _ => ?_)
    refine fr_cl (fr_Rd_append h0 h1) (fun _ _ => ?_)
    refine fr_cl (fr_Rd_append h0 h1) (fun _ _ => ?_)
    exact fr_some
theorem fr_Sf_game_33 {P : Nat → Prop} {a : Nat} {v1 : Int32} {v2 : Int32} {s0 : Int32} {μ : Mu}   : Fr P μ (Sf_game_33 a v1 v2 s0 μ) := by
  unfold Sf_game_33
  refine fr_ite ?_ ?_
  · skip
    refine fr_ite ?_ ?_
    · skip
      exact fr_some
    · skip
      exact fr_some
  · skip
    refine fr_ite ?_ ?_
    · skip
      exact fr_some
    · skip
      refine fr_ite ?_ ?_
      · skip
        exact fr_some
      · skip
        exact fr_some
theorem fr_Sf_game {P : Nat → Prop} {a : Nat} {v1 : Int32} {v2 : Int32} {μ : Mu}   : Fr P μ (Sf_game a v1 v2 μ) := by
  unfold Sf_game
  refine fr_cl (fr_Sf_within) (fun _ _ => ?_)
  refine fr_ite ?_ ?_
  · skip
    exact fr_some
  · skip
    refine fr_cl (fr_Sf_within) (fun _ _ => ?_)
    refine fr_ite ?_ ?_
    · skip
      exact fr_some
    · skip
      refine fr_ite ?_ ?_
      · skip
        exact fr_Sf_game_33
      · skip
        exact fr_Sf_game_33
theorem fr_Fg_total_4b {P : Nat → Prop} {a : Nat} {kb4 : Int32 → Int32 → Mu → Option (Int32 × Mu)} {v1 : Int32} {v2 : Int32} {v3 : Int32} {μ : Mu}  (h_kb4 : ∀ (w0 : Int32) (w1 : Int32) (μ : Mu), Fr P μ (kb4 w0 w1 μ)) : Fr P μ (Fg_total_4b a kb4 v1 v2 v3 μ) := by
  unfold Fg_total_4b
  refine fr_gF (fun _ => ?_)
  refine fr_ite ?_ ?_
  · skip
    exact fr_some
  · skip
    refine fr_cl (fr_Fg_get) (fun _ _ => ?_)
    exact h_kb4 _ _ _
theorem fr_Fg_total_4 {P : Nat → Prop} {a : Nat} {v1 : Int32}   : ∀ (fu : Nat) (w0 : Int32) (w1 : Int32) (μ : Mu), Fr P μ (Fg_total_4 a v1 fu w0 w1 μ) := by
  intro fu
  induction fu with
  | zero => intros; exact fr_none
  | succ fu ih => intros; exact fr_Fg_total_4b (a := a) (v1 := v1)   ih
theorem fr_Fg_total {P : Nat → Prop} {a : Nat} {v1 : Int32} {μ : Mu}   : Fr P μ (Fg_total a v1 μ) := by
  unfold Fg_total
  exact fr_Fg_total_4 _ _ _ _
theorem fr_Sf_goes_37b {P : Nat → Prop} {a : Nat} {kb37 : Int32 → Mu → Option (Int32 × Mu)} {v1 : Int32} {v2 : Int32} {v3 : Int32} {μ : Mu} (h0 : P (a + 42)) (h1 : P (a + 42 + 2)) (h2 : P (a + 42 + 1)) (h3 : P (a + 1 + 4)) (h4 : P (a + 39 + 2)) (h5 : P (a + 39 + 1)) (h6 : P (a + 1 + 5 + 1 + 6)) (h_kb37 : ∀ (w0 : Int32) (μ : Mu), Fr P μ (kb37 w0 μ)) : Fr P μ (Sf_goes_37b a kb37 v1 v2 v3 μ) := by
  unfold Sf_goes_37b
  refine fr_ite ?_ ?_
  · skip
    refine fr_ite ?_ ?_
    · skip
      refine fr_cl (fr_Fg_total) (fun _ _ => ?_)
      exact fr_some
    · skip
      refine fr_ite ?_ ?_
      · skip
        refine fr_gF (fun _ => ?_)
        exact fr_some
      · skip
        refine fr_ite ?_ ?_
        · skip
          refine fr_cl (fr_Fg_total) (fun _ _ => ?_)
          exact fr_some
        · skip
          refine fr_cl (fr_Fg_total) (fun _ _ => ?_)
          exact fr_some
  · skip
    refine fr_cl (fr_Dy_goBy h0 h1 h2 h3 h4 h5 h6) (fun _ _ => ?_)
    exact h_kb37 _ _
theorem fr_Sf_goes_37 {P : Nat → Prop} {a : Nat} {v1 : Int32} {v2 : Int32} (h0 : P (a + 42)) (h1 : P (a + 42 + 2)) (h2 : P (a + 42 + 1)) (h3 : P (a + 1 + 4)) (h4 : P (a + 39 + 2)) (h5 : P (a + 39 + 1)) (h6 : P (a + 1 + 5 + 1 + 6))  : ∀ (fu : Nat) (w0 : Int32) (μ : Mu), Fr P μ (Sf_goes_37 a v1 v2 fu w0 μ) := by
  intro fu
  induction fu with
  | zero => intros; exact fr_none
  | succ fu ih => intros; exact fr_Sf_goes_37b (a := a) (v1 := v1) (v2 := v2) h0 h1 h2 h3 h4 h5 h6  ih
theorem fr_Sf_goes {P : Nat → Prop} {a : Nat} {v1 : Int32} {v2 : Int32} {μ : Mu} (h0 : P (a + 42 + 1)) (h1 : P (a + 42 + 2)) (h2 : P (a + 42)) (h3 : P (a + 1 + 4)) (h4 : P (a + 39 + 2)) (h5 : P (a + 39 + 1)) (h6 : P (a + 1 + 5 + 1 + 6))  : Fr P μ (Sf_goes a v1 v2 μ) := by
  unfold Sf_goes
  refine fr_cl (fr_Sf_within) (fun _ _ => ?_)
  refine fr_ite ?_ ?_
  · skip
    exact fr_some
  · skip
    refine fr_cl (fr_Sf_within) (fun _ _ => ?_)
    refine fr_ite ?_ ?_
    · skip
      exact fr_some
    · skip
      refine fr_cl (fr_Fg_copyFrom h0 h1 h2) (fun _ _ => ?_)
      exact fr_Sf_goes_37 h2 h1 h0 h3 h4 h5 h6 _ _ _
theorem fr_Sf_heap {P : Nat → Prop} {a : Nat} {v1 : Int32} {μ : Mu} (h0 : P (a + 1 + 17 + 19)) (h1 : P (a + 1 + 17 + 19 + 1))  : Fr P μ (Sf_heap a v1 μ) := by
  unfold Sf_heap
  refine fr_cl (fr_Rw_tell h0 h1) (fun _ _ => ?_)
  exact fr_some
theorem fr_Th_settle_152 {P : Nat → Prop} {a : Nat} {tt : Nat} {kb57 : Int32 → Int32 → Int32 → Mu → Option (Int32 × Mu)} {v1 : Int32} {v2 : Int32} {v3 : Int32} {v4 : Int32} {μ : Mu}  (h_kb57 : ∀ (w0 : Int32) (w1 : Int32) (w2 : Int32) (μ : Mu), Fr P μ (kb57 w0 w1 w2 μ)) : Fr P μ (Th_settle_152 a tt kb57 v1 v2 v3 v4 μ) := by
  unfold Th_settle_152
  exact h_kb57 _ _ _ _
theorem fr_Th_settle_133 {P : Nat → Prop} {a : Nat} {tt : Nat} {kb57 : Int32 → Int32 → Int32 → Mu → Option (Int32 × Mu)} {v1 : Int32} {v2 : Int32} {v3 : Int32} {v4 : Int32} {μ : Mu}  (h_kb57 : ∀ (w0 : Int32) (w1 : Int32) (w2 : Int32) (μ : Mu), Fr P μ (kb57 w0 w1 w2 μ)) : Fr P μ (Th_settle_133 a tt kb57 v1 v2 v3 v4 μ) := by
  unfold Th_settle_133
  exact fr_Th_settle_152  h_kb57
theorem fr_Th_settle_92 {P : Nat → Prop} {a : Nat} {tt : Nat} {kb57 : Int32 → Int32 → Int32 → Mu → Option (Int32 × Mu)} {v1 : Int32} {v2 : Int32} {v3 : Int32} {v4 : Int32} {s0 : Int32} {μ : Mu} (h0 : P (a + 1)) (h_kb57 : ∀ (w0 : Int32) (w1 : Int32) (w2 : Int32) (μ : Mu), Fr P μ (kb57 w0 w1 w2 μ)) : Fr P μ (Th_settle_92 a tt kb57 v1 v2 v3 v4 s0 μ) := by
  unfold Th_settle_92
  refine fr_ldA (fun _ => ?_)
  refine fr_ite ?_ ?_
  · skip
    exact fr_Th_settle_152  h_kb57
  · skip
    refine fr_ldA (fun _ => ?_)
    refine fr_stA h0 (fun _ => ?_)
    refine fr_ite ?_ ?_
    · skip
      exact fr_Th_settle_133  h_kb57
    · skip
      refine fr_ldA (fun _ => ?_)
      refine fr_stA h0 (fun _ => ?_)
      exact fr_Th_settle_133  h_kb57
theorem fr_Th_settle_57b {P : Nat → Prop} {a : Nat} {tt : Nat} {kb57 : Int32 → Int32 → Int32 → Mu → Option (Int32 × Mu)} {v1 : Int32} {v2 : Int32} {v3 : Int32} {v4 : Int32} {μ : Mu} (h0 : P (a + 1)) (h_kb57 : ∀ (w0 : Int32) (w1 : Int32) (w2 : Int32) (μ : Mu), Fr P μ (kb57 w0 w1 w2 μ)) : Fr P μ (Th_settle_57b a tt kb57 v1 v2 v3 v4 μ) := by
  unfold Th_settle_57b
  refine fr_ite ?_ ?_
  · skip
    exact fr_some
  · skip
    refine fr_ite ?_ ?_
    · skip
      exact fr_some
    · skip
      refine fr_ite ?_ ?_
      · skip
        exact fr_some
      · skip
        refine fr_ite ?_ ?_
        · skip
          exact fr_Th_settle_92 h0 h_kb57
        · skip
          refine fr_ldA (fun _ => ?_)
          exact fr_Th_settle_92 h0 h_kb57
theorem fr_Th_settle_57 {P : Nat → Prop} {a : Nat} {tt : Nat} {v1 : Int32} (h0 : P (a + 1))  : ∀ (fu : Nat) (w0 : Int32) (w1 : Int32) (w2 : Int32) (μ : Mu), Fr P μ (Th_settle_57 a tt v1 fu w0 w1 w2 μ) := by
  intro fu
  induction fu with
  | zero => intros; exact fr_none
  | succ fu ih => intros; exact fr_Th_settle_57b (a := a) (tt := tt) (v1 := v1) h0  ih
theorem fr_Th_settle_48 {P : Nat → Prop} {a : Nat} {tt : Nat} {v1 : Int32} {μ : Mu} (h0 : P (a + 1))  : Fr P μ (Th_settle_48 a tt v1 μ) := by
  unfold Th_settle_48
  exact fr_Th_settle_57 h0 _ _ _ _ _
theorem fr_Th_settle_13b {P : Nat → Prop} {a : Nat} {tt : Nat} {kb13 : Int32 → Mu → Option (Int32 × Mu)} {v1 : Int32} {v2 : Int32} {μ : Mu} (h0 : P (a + 1)) (h_kb13 : ∀ (w0 : Int32) (μ : Mu), Fr P μ (kb13 w0 μ)) : Fr P μ (Th_settle_13b a tt kb13 v1 v2 μ) := by
  unfold Th_settle_13b
  refine fr_ite ?_ ?_
  · skip
    exact fr_Th_settle_48 h0
  · skip
    refine fr_ite ?_ ?_
    · skip
      exact fr_Th_settle_48 h0
    · skip
      refine fr_cl (fr_Rw_at) (fun _ _ => ?_)
      refine fr_stA h0 (fun _ => ?_)
      exact h_kb13 _ _
theorem fr_Th_settle_13 {P : Nat → Prop} {a : Nat} {tt : Nat} {v1 : Int32} (h0 : P (a + 1))  : ∀ (fu : Nat) (w0 : Int32) (μ : Mu), Fr P μ (Th_settle_13 a tt v1 fu w0 μ) := by
  intro fu
  induction fu with
  | zero => intros; exact fr_none
  | succ fu ih => intros; exact fr_Th_settle_13b (a := a) (tt := tt) (v1 := v1) h0  ih
theorem fr_Th_settle {P : Nat → Prop} {a : Nat} {tt : Nat} {μ : Mu} (h0 : P (a + 1))  : Fr P μ (Th_settle a tt μ) := by
  unfold Th_settle
  refine fr_gF (fun _ => ?_)
  exact fr_Th_settle_13 h0 _ _ _
theorem fr_Th_liesAt {P : Nat → Prop} {a : Nat} {tt : Nat} {v1 : Int32} {μ : Mu}   : Fr P μ (Th_liesAt a tt v1 μ) := by
  unfold Th_liesAt
  refine fr_ite ?_ ?_
  · skip
    exact fr_some
  · skip
    refine fr_ite ?_ ?_
    · skip
      exact fr_some
    · skip
      refine fr_ldA (fun _ => ?_)
      exact fr_some
theorem fr_Sf_heaped {P : Nat → Prop} {a : Nat} {v1 : Int32} {μ : Mu} (h0 : P (a + 45 + 1))  : Fr P μ (Sf_heaped a v1 μ) := by
  unfold Sf_heaped
  refine fr_cl (fr_Th_settle h0) (fun _ _ => ?_)
  refine fr_ite ?_ ?_
  · skip
    exact fr_some
  · skip
    refine fr_gF (fun _ => ?_)
    refine fr_cl (fr_Sf_within) (fun _ _ => ?_)
    refine fr_ite ?_ ?_
    · skip
      exact fr_some
    · skip
      refine fr_cl (fr_Th_liesAt) (fun _ _ => ?_)
      exact fr_some
theorem fr_Sf_high_43b {P : Nat → Prop} {a : Nat} {kb43 : Int32 → Mu → Option (Int32 × Mu)} {v1 : Int32} {v2 : Int32} {v3 : Int32} {μ : Mu} (h0 : P (a + 42)) (h1 : P (a + 42 + 2)) (h2 : P (a + 42 + 1)) (h3 : P (a + 1 + 4)) (h4 : P (a + 39 + 2)) (h5 : P (a + 39 + 1)) (h6 : P (a + 1 + 5 + 1 + 6)) (h_kb43 : ∀ (w0 : Int32) (μ : Mu), Fr P μ (kb43 w0 μ)) : Fr P μ (Sf_high_43b a kb43 v1 v2 v3 μ) := by
  unfold Sf_high_43b
  refine fr_ite ?_ ?_
  · skip
    exact fr_some
  · skip
    refine fr_cl (fr_Fg_isAlive) (fun _ _ => ?_)
    refine fr_ite ?_ ?_
    · skip
      exact fr_some
    · skip
      refine fr_cl (fr_Fg_get) (fun _ _ => ?_)
      refine fr_ite ?_ ?_
      · skip
        refine fr_cl (fr_Dy_goBy h0 h1 h2 h3 h4 h5 h6) (fun _ _ => ?_)
        exact h_kb43 _ _
      · skip
        exact fr_some
theorem fr_Sf_high_43 {P : Nat → Prop} {a : Nat} {v1 : Int32} {v2 : Int32} (h0 : P (a + 42)) (h1 : P (a + 42 + 2)) (h2 : P (a + 42 + 1)) (h3 : P (a + 1 + 4)) (h4 : P (a + 39 + 2)) (h5 : P (a + 39 + 1)) (h6 : P (a + 1 + 5 + 1 + 6))  : ∀ (fu : Nat) (w0 : Int32) (μ : Mu), Fr P μ (Sf_high_43 a v1 v2 fu w0 μ) := by
  intro fu
  induction fu with
  | zero => intros; exact fr_none
  | succ fu ih => intros; exact fr_Sf_high_43b (a := a) (v1 := v1) (v2 := v2) h0 h1 h2 h3 h4 h5 h6  ih
theorem fr_Sf_high {P : Nat → Prop} {a : Nat} {v1 : Int32} {v2 : Int32} {μ : Mu} (h0 : P (a + 42 + 1)) (h1 : P (a + 42 + 2)) (h2 : P (a + 42)) (h3 : P (a + 1 + 4)) (h4 : P (a + 39 + 2)) (h5 : P (a + 39 + 1)) (h6 : P (a + 1 + 5 + 1 + 6))  : Fr P μ (Sf_high a v1 v2 μ) := by
  unfold Sf_high
  refine fr_cl (fr_Fg_isAlive) (fun _ _ => ?_)
  refine fr_ite ?_ ?_
  · skip
    exact fr_some
  · skip
    refine fr_cl (fr_Sf_within) (fun _ _ => ?_)
    refine fr_ite ?_ ?_
    · skip
      exact fr_some
    · skip
      refine fr_cl (fr_Fg_copyFrom h0 h1 h2) (fun _ _ => ?_)
      exact fr_Sf_high_43 h2 h1 h0 h3 h4 h5 h6 _ _ _
theorem fr_Th_lowest_77 {P : Nat → Prop} {a : Nat} {tt : Nat} {kb4 : Int32 → Int32 → Mu → Option (Int32 × Mu)} {v1 : Int32} {v2 : Int32} {μ : Mu}  (h_kb4 : ∀ (w0 : Int32) (w1 : Int32) (μ : Mu), Fr P μ (kb4 w0 w1 μ)) : Fr P μ (Th_lowest_77 a tt kb4 v1 v2 μ) := by
  unfold Th_lowest_77
  exact h_kb4 _ _ _
theorem fr_Th_lowest_75 {P : Nat → Prop} {a : Nat} {tt : Nat} {kb4 : Int32 → Int32 → Mu → Option (Int32 × Mu)} {v2 : Int32} {μ : Mu}  (h_kb4 : ∀ (w0 : Int32) (w1 : Int32) (μ : Mu), Fr P μ (kb4 w0 w1 μ)) : Fr P μ (Th_lowest_75 a tt kb4 v2 μ) := by
  unfold Th_lowest_75
  exact fr_Th_lowest_77  h_kb4
theorem fr_Th_lowest_4b {P : Nat → Prop} {a : Nat} {tt : Nat} {kb4 : Int32 → Int32 → Mu → Option (Int32 × Mu)} {v1 : Int32} {v2 : Int32} {μ : Mu}  (h_kb4 : ∀ (w0 : Int32) (w1 : Int32) (μ : Mu), Fr P μ (kb4 w0 w1 μ)) : Fr P μ (Th_lowest_4b a tt kb4 v1 v2 μ) := by
  unfold Th_lowest_4b
  refine fr_gF (fun _ => ?_)
  refine fr_ite ?_ ?_
  · skip
    exact fr_some
  · skip
    refine fr_cl (fr_Rw_at) (fun _ _ => ?_)
    refine fr_cl (fr_Rw_at) (fun _ _ => ?_)
    refine fr_ite ?_ ?_
    · skip
      exact fr_Th_lowest_75  h_kb4
    · skip
      refine fr_ite ?_ ?_
      · skip
        refine fr_cl (fr_Rw_at) (fun _ _ => ?_)
        refine fr_cl (fr_Rw_at) (fun _ _ => ?_)
        refine fr_ite ?_ ?_
        · skip
          exact fr_Th_lowest_77  h_kb4
        · skip
          exact fr_Th_lowest_75  h_kb4
      · skip
        exact fr_Th_lowest_77  h_kb4
theorem fr_Th_lowest_4 {P : Nat → Prop} {a : Nat} {tt : Nat}   : ∀ (fu : Nat) (w0 : Int32) (w1 : Int32) (μ : Mu), Fr P μ (Th_lowest_4 a tt fu w0 w1 μ) := by
  intro fu
  induction fu with
  | zero => intros; exact fr_none
  | succ fu ih => intros; exact fr_Th_lowest_4b (a := a) (tt := tt)   ih
theorem fr_Th_lowest {P : Nat → Prop} {a : Nat} {tt : Nat} {μ : Mu}   : Fr P μ (Th_lowest a tt μ) := by
  unfold Th_lowest
  exact fr_Th_lowest_4 _ _ _ _
theorem fr_Th_turn {P : Nat → Prop} {a : Nat} {tt : Nat} {v1 : Int32} {v2 : Int32} {v3 : Int32} {μ : Mu}   : Fr P μ (Th_turn a tt v1 v2 v3 μ) := by
  unfold Th_turn
  refine fr_cl (fr_Rw_at) (fun _ _ => ?_)
  refine fr_cl (fr_Rw_at) (fun _ _ => ?_)
  refine fr_cl (fr_Rw_at) (fun _ _ => ?_)
  refine fr_cl (fr_Rw_at) (fun _ _ => ?_)
  refine fr_cl (fr_Rw_at) (fun _ _ => ?_)
  refine fr_cl (fr_Rw_at) (fun _ _ => ?_)
  exact fr_some
theorem fr_Th_apart {P : Nat → Prop} {a : Nat} {tt : Nat} {v1 : Int32} {v2 : Int32} {μ : Mu}   : Fr P μ (Th_apart a tt v1 v2 μ) := by
  unfold Th_apart
  refine fr_cl (fr_Rw_at) (fun _ _ => ?_)
  refine fr_cl (fr_Rw_at) (fun _ _ => ?_)
  refine fr_cl (fr_Rw_at) (fun _ _ => ?_)
  refine fr_cl (fr_Rw_at) (fun _ _ => ?_)
  exact fr_some
theorem fr_Th_nextCorner_62 {P : Nat → Prop} {a : Nat} {tt : Nat} {kb12 : Int32 → Int32 → Mu → Option (Int32 × Mu)} {v1 : Int32} {v2 : Int32} {v3 : Int32} {μ : Mu}  (h_kb12 : ∀ (w0 : Int32) (w1 : Int32) (μ : Mu), Fr P μ (kb12 w0 w1 μ)) : Fr P μ (Th_nextCorner_62 a tt kb12 v1 v2 v3 μ) := by
  unfold Th_nextCorner_62
  exact h_kb12 _ _ _
theorem fr_Th_nextCorner_60 {P : Nat → Prop} {a : Nat} {tt : Nat} {kb12 : Int32 → Int32 → Mu → Option (Int32 × Mu)} {v1 : Int32} {v3 : Int32} {μ : Mu}  (h_kb12 : ∀ (w0 : Int32) (w1 : Int32) (μ : Mu), Fr P μ (kb12 w0 w1 μ)) : Fr P μ (Th_nextCorner_60 a tt kb12 v1 v3 μ) := by
  unfold Th_nextCorner_60
  exact fr_Th_nextCorner_62  h_kb12
theorem fr_Th_nextCorner_12b {P : Nat → Prop} {a : Nat} {tt : Nat} {kb12 : Int32 → Int32 → Mu → Option (Int32 × Mu)} {v1 : Int32} {v2 : Int32} {v3 : Int32} {μ : Mu}  (h_kb12 : ∀ (w0 : Int32) (w1 : Int32) (μ : Mu), Fr P μ (kb12 w0 w1 μ)) : Fr P μ (Th_nextCorner_12b a tt kb12 v1 v2 v3 μ) := by
  unfold Th_nextCorner_12b
  refine fr_gF (fun _ => ?_)
  refine fr_ite ?_ ?_
  · skip
    exact fr_some
  · skip
    refine fr_cl (fr_Th_turn) (fun _ _ => ?_)
    refine fr_ite ?_ ?_
    · skip
      exact fr_Th_nextCorner_60  h_kb12
    · skip
      refine fr_ite ?_ ?_
      · skip
        refine fr_cl (fr_Th_apart) (fun _ _ => ?_)
        refine fr_cl (fr_Th_apart) (fun _ _ => ?_)
        refine fr_ite ?_ ?_
        · skip
          exact fr_Th_nextCorner_62  h_kb12
        · skip
          exact fr_Th_nextCorner_60  h_kb12
      · skip
        exact fr_Th_nextCorner_62  h_kb12
theorem fr_Th_nextCorner_12 {P : Nat → Prop} {a : Nat} {tt : Nat} {v1 : Int32}   : ∀ (fu : Nat) (w0 : Int32) (w1 : Int32) (μ : Mu), Fr P μ (Th_nextCorner_12 a tt v1 fu w0 w1 μ) := by
  intro fu
  induction fu with
  | zero => intros; exact fr_none
  | succ fu ih => intros; exact fr_Th_nextCorner_12b (a := a) (tt := tt) (v1 := v1)   ih
theorem fr_Th_nextCorner_9 {P : Nat → Prop} {a : Nat} {tt : Nat} {v1 : Int32} {s0 : Int32} {μ : Mu}   : Fr P μ (Th_nextCorner_9 a tt v1 s0 μ) := by
  unfold Th_nextCorner_9
  exact fr_Th_nextCorner_12 _ _ _ _
theorem fr_Th_nextCorner {P : Nat → Prop} {a : Nat} {tt : Nat} {v1 : Int32} {μ : Mu}   : Fr P μ (Th_nextCorner a tt v1 μ) := by
  unfold Th_nextCorner
  refine fr_ite ?_ ?_
  · skip
    exact fr_Th_nextCorner_9
  · skip
    exact fr_Th_nextCorner_9
theorem fr_Th_outline_135 {P : Nat → Prop} {a : Nat} {tt : Nat} {v1 : Int32} {v5 : Int32} {v6 : Int32} {μ : Mu}   : Fr P μ (Th_outline_135 a tt v1 v5 v6 μ) := by
  unfold Th_outline_135
  refine fr_ite ?_ ?_
  · skip
    exact fr_some
  · skip
    exact fr_some
theorem fr_Th_outline_43b {P : Nat → Prop} {a : Nat} {tt : Nat} {kb43 : Int32 → Int32 → Int32 → Int32 → Mu → Option (Int32 × Mu)} {v1 : Int32} {v2 : Int32} {v3 : Int32} {v4 : Int32} {v5 : Int32} {v6 : Int32} {v7 : Int32} {μ : Mu}  (h_kb43 : ∀ (w0 : Int32) (w1 : Int32) (w2 : Int32) (w3 : Int32) (μ : Mu), Fr P μ (kb43 w0 w1 w2 w3 μ)) : Fr P μ (Th_outline_43b a tt kb43 v1 v2 v3 v4 v5 v6 v7 μ) := by
  unfold Th_outline_43b
  refine fr_ite ?_ ?_
  · skip
    exact fr_Th_outline_135
  · skip
    refine fr_cl (fr_Th_nextCorner) (fun _ _ => ?_)
    refine fr_cl (fr_Rw_at) (fun _ _ => ?_)
    refine fr_cl (fr_Rw_at) (fun _ _ => ?_)
    refine fr_cl (fr_Rw_at) (fun _ _ => ?_)
    refine fr_cl (fr_Rw_at) (fun _ _ => ?_)
    refine fr_ite ?_ ?_
    · skip
      exact fr_Th_outline_135
    · skip
      exact h_kb43 _ _ _ _ _
theorem fr_Th_outline_43 {P : Nat → Prop} {a : Nat} {tt : Nat} {v1 : Int32} {v2 : Int32} {v3 : Int32}   : ∀ (fu : Nat) (w0 : Int32) (w1 : Int32) (w2 : Int32) (w3 : Int32) (μ : Mu), Fr P μ (Th_outline_43 a tt v1 v2 v3 fu w0 w1 w2 w3 μ) := by
  intro fu
  induction fu with
  | zero => intros; exact fr_none
  | succ fu ih => intros; exact fr_Th_outline_43b (a := a) (tt := tt) (v1 := v1) (v2 := v2) (v3 := v3)   ih
theorem fr_Th_outline {P : Nat → Prop} {a : Nat} {tt : Nat} {v1 : Int32} {μ : Mu}   : Fr P μ (Th_outline a tt v1 μ) := by
  unfold Th_outline
  refine fr_gF (fun _ => ?_)
  refine fr_ite ?_ ?_
  · skip
    refine fr_cl (fr_Th_lowest) (fun _ _ => ?_)
    exact fr_Th_outline_43 _ _ _ _ _ _
  · skip
    refine fr_ite ?_ ?_
    · skip
      exact fr_some
    · skip
      exact fr_some
theorem fr_Sf_hull {P : Nat → Prop} {a : Nat} {v1 : Int32} {μ : Mu}   : Fr P μ (Sf_hull a v1 μ) := by
  unfold Sf_hull
  refine fr_ite ?_ ?_
  · skip
    refine fr_cl (fr_Th_outline) (fun _ _ => ?_)
    exact fr_some
  · skip
    refine fr_ite ?_ ?_
    · skip
      refine fr_cl (fr_Th_outline) (fun _ _ => ?_)
      exact fr_some
    · skip
      exact fr_some
theorem fr_Tx_copyFrom {P : Nat → Prop} {a : Nat} {f1 : Nat} {μ : Mu} (h0 : P (a + 1)) (h1 : P (a + 1 + 1)) (h2 : P (a + 1 + 2)) (h3 : P (a + 1 + 3)) (h4 : P (a + 1 + 4)) (h5 : P (a + 1 + 5)) (h6 : P (a + 8)) (h7 : P (a + 9)) (h8 : P (a + 10)) (h9 : P (a + 11))  : Fr P μ (Tx_copyFrom a f1 μ) := by
  unfold Tx_copyFrom
  refine fr_cl (fr_Lw_copyFrom h0 h1 h2 h3 h4 h5) (fun _ _ => ?_)
  refine fr_cpA h6 (fun _ => ?_)
  refine fr_cpA h7 (fun _ => ?_)
  refine fr_cpA h8 (fun _ => ?_)
  refine fr_cpA h9 (fun _ => ?_)
  exact fr_some
theorem fr_Rw_copyFrom {P : Nat → Prop} {a : Nat} {n : Nat} {f1 : Nat} {n1 : Nat} {μ : Mu} (h0 : P (a)) (h1 : P (a + 1))  : Fr P μ (Rw_copyFrom a n f1 n1 μ) := by
  unfold Rw_copyFrom
  refine fr_gF (fun _ => ?_)
  refine fr_pF h0 (fun _ => ?_)
  refine fr_cpA h1 (fun _ => ?_)
  exact fr_some
theorem fr_Td_copyFrom {P : Nat → Prop} {a : Nat} {f1 : Nat} {μ : Mu} (h0 : P (a)) (h1 : P (a + 1)) (h2 : P (a + 1 + 1)) (h3 : P (a + 3)) (h4 : P (a + 3 + 1)) (h5 : P (a + 5)) (h6 : P (a + 5 + 1)) (h7 : P (a + 7)) (h8 : P (a + 7 + 1)) (h9 : P (a + 9)) (h10 : P (a + 9 + 1)) (h11 : P (a + 11)) (h12 : P (a + 11 + 1)) (h13 : P (a + 13)) (h14 : P (a + 13 + 1)) (h15 : P (a + 15)) (h16 : P (a + 15 + 1)) (h17 : P (a + 17)) (h18 : P (a + 17 + 1)) (h19 : P (a + 19)) (h20 : P (a + 19 + 1))  : Fr P μ (Td_copyFrom a f1 μ) := by
  unfold Td_copyFrom
  refine fr_gF (fun _ => ?_)
  refine fr_pF h0 (fun _ => ?_)
  refine fr_cl (fr_Rw_copyFrom h1 h2) (fun _ _ => ?_)
  refine fr_cl (fr_Rw_copyFrom h3 h4) (fun _ _ => ?_)
  refine fr_cl (fr_Rw_copyFrom h5 h6) (fun _ _ => ?_)
  refine fr_cl (fr_Rw_copyFrom h7 h8) (fun _ _ => ?_)
  refine fr_cl (fr_Rw_copyFrom h9 h10) (fun _ _ => ?_)
  refine fr_cl (fr_Rw_copyFrom h11 h12) (fun _ _ => ?_)
  refine fr_cl (fr_Rw_copyFrom h13 h14) (fun _ _ => ?_)
  refine fr_cl (fr_Rw_copyFrom h15 h16) (fun _ _ => ?_)
  refine fr_cl (fr_Rw_copyFrom h17 h18) (fun _ _ => ?_)
  refine fr_cl (fr_Rw_copyFrom h19 h20) (fun _ _ => ?_)
  exact fr_some
theorem fr_Pt_copyFrom {P : Nat → Prop} {a : Nat} {f1 : Nat} {μ : Mu} (h0 : P (a + 1 + 1)) (h1 : P (a + 1 + 2)) (h2 : P (a + 1)) (h3 : P (a + 4)) (h4 : P (a + 5 + 1)) (h5 : P (a + 5 + 1 + 1)) (h6 : P (a + 5 + 1 + 2)) (h7 : P (a + 5 + 1 + 3)) (h8 : P (a + 5 + 1 + 4)) (h9 : P (a + 5 + 1 + 5)) (h10 : P (a + 5 + 8)) (h11 : P (a + 5 + 9)) (h12 : P (a + 5 + 10)) (h13 : P (a + 5 + 11)) (h14 : P (a + 17)) (h15 : P (a + 17 + 1)) (h16 : P (a + 17 + 1 + 1)) (h17 : P (a + 17 + 3)) (h18 : P (a + 17 + 3 + 1)) (h19 : P (a + 17 + 5)) (h20 : P (a + 17 + 5 + 1)) (h21 : P (a + 17 + 7)) (h22 : P (a + 17 + 7 + 1)) (h23 : P (a + 17 + 9)) (h24 : P (a + 17 + 9 + 1)) (h25 : P (a + 17 + 11)) (h26 : P (a + 17 + 11 + 1)) (h27 : P (a + 17 + 13)) (h28 : P (a + 17 + 13 + 1)) (h29 : P (a + 17 + 15)) (h30 : P (a + 17 + 15 + 1)) (h31 : P (a + 17 + 17)) (h32 : P (a + 17 + 17 + 1)) (h33 : P (a + 17 + 19)) (h34 : P (a + 17 + 19 + 1))  : Fr P μ (Pt_copyFrom a f1 μ) := by
  unfold Pt_copyFrom
  refine fr_cl (fr_Fg_copyFrom h0 h1 h2) (fun _ _ => ?_)
  refine fr_cpA h3 (fun _ => ?_)
  refine fr_cl (fr_Tx_copyFrom h4 h5 h6 h7 h8 h9 h10 h11 h12 h13) (fun _ _ => ?_)
  refine fr_cl (fr_Td_copyFrom h14 h15 h16 h17 h18 h19 h20 h21 h22 h23 h24 h25 h26 h27 h28 h29 h30 h31 h32 h33 h34) (fun _ _ => ?_)
  exact fr_some
theorem fr_Th_isLit_106 {P : Nat → Prop} {a : Nat} {tt : Nat} {kb15 : Int32 → Mu → Option (Int32 × Mu)} {v1 : Int32} {v2 : Int32} {v3 : Int32} {v4 : Int32} {μ : Mu}  (h_kb15 : ∀ (w0 : Int32) (μ : Mu), Fr P μ (kb15 w0 μ)) : Fr P μ (Th_isLit_106 a tt kb15 v1 v2 v3 v4 μ) := by
  unfold Th_isLit_106
  exact h_kb15 _ _
theorem fr_Th_isLit_62 {P : Nat → Prop} {a : Nat} {tt : Nat} {kb15 : Int32 → Mu → Option (Int32 × Mu)} {v1 : Int32} {v2 : Int32} {v3 : Int32} {v4 : Int32} {v5 : Int32} {μ : Mu}  (h_kb15 : ∀ (w0 : Int32) (μ : Mu), Fr P μ (kb15 w0 μ)) : Fr P μ (Th_isLit_62 a tt kb15 v1 v2 v3 v4 v5 μ) := by
  unfold Th_isLit_62
  refine fr_cl (fr_Rw_at) (fun _ _ => ?_)
  refine fr_cl (fr_Rw_at) (fun _ _ => ?_)
  refine fr_ite ?_ ?_
  · skip
    exact fr_Th_isLit_106  h_kb15
  · skip
    exact fr_some
theorem fr_Th_isLit_15b {P : Nat → Prop} {a : Nat} {tt : Nat} {kb15 : Int32 → Mu → Option (Int32 × Mu)} {v1 : Int32} {v2 : Int32} {v3 : Int32} {v4 : Int32} {μ : Mu}  (h_kb15 : ∀ (w0 : Int32) (μ : Mu), Fr P μ (kb15 w0 μ)) : Fr P μ (Th_isLit_15b a tt kb15 v1 v2 v3 v4 μ) := by
  unfold Th_isLit_15b
  refine fr_gF (fun _ => ?_)
  refine fr_ite ?_ ?_
  · skip
    exact fr_some
  · skip
    refine fr_cl (fr_Rw_at) (fun _ _ => ?_)
    refine fr_ite ?_ ?_
    · skip
      exact fr_Th_isLit_62  h_kb15
    · skip
      refine fr_ite ?_ ?_
      · skip
        refine fr_ite ?_ ?_
        · skip
          exact fr_Th_isLit_106  h_kb15
        · skip
          exact fr_Th_isLit_62  h_kb15
      · skip
        exact fr_Th_isLit_106  h_kb15
theorem fr_Th_isLit_15 {P : Nat → Prop} {a : Nat} {tt : Nat} {v1 : Int32} {v2 : Int32} {v3 : Int32}   : ∀ (fu : Nat) (w0 : Int32) (μ : Mu), Fr P μ (Th_isLit_15 a tt v1 v2 v3 fu w0 μ) := by
  intro fu
  induction fu with
  | zero => intros; exact fr_none
  | succ fu ih => intros; exact fr_Th_isLit_15b (a := a) (tt := tt) (v1 := v1) (v2 := v2) (v3 := v3)   ih
theorem fr_Th_isLit {P : Nat → Prop} {a : Nat} {tt : Nat} {v1 : Int32} {v2 : Int32} {μ : Mu}   : Fr P μ (Th_isLit a tt v1 v2 μ) := by
  unfold Th_isLit
  refine fr_cl (fr_Rw_at) (fun _ _ => ?_)
  exact fr_Th_isLit_15 _ _ _
theorem fr_Th_litPosts_30 {P : Nat → Prop} {a : Nat} {tt : Nat} {kb4 : Int32 → Int32 → Mu → Option (Int32 × Mu)} {v1 : Int32} {v2 : Int32} {v3 : Int32} {μ : Mu}  (h_kb4 : ∀ (w0 : Int32) (w1 : Int32) (μ : Mu), Fr P μ (kb4 w0 w1 μ)) : Fr P μ (Th_litPosts_30 a tt kb4 v1 v2 v3 μ) := by
  unfold Th_litPosts_30
  exact h_kb4 _ _ _
theorem fr_Th_litPosts_4b {P : Nat → Prop} {a : Nat} {tt : Nat} {kb4 : Int32 → Int32 → Mu → Option (Int32 × Mu)} {v1 : Int32} {v2 : Int32} {v3 : Int32} {μ : Mu}  (h_kb4 : ∀ (w0 : Int32) (w1 : Int32) (μ : Mu), Fr P μ (kb4 w0 w1 μ)) : Fr P μ (Th_litPosts_4b a tt kb4 v1 v2 v3 μ) := by
  unfold Th_litPosts_4b
  refine fr_gF (fun _ => ?_)
  refine fr_ite ?_ ?_
  · skip
    exact fr_some
  · skip
    refine fr_cl (fr_Th_isLit) (fun _ _ => ?_)
    refine fr_ite ?_ ?_
    · skip
      exact fr_Th_litPosts_30  h_kb4
    · skip
      exact fr_Th_litPosts_30  h_kb4
theorem fr_Th_litPosts_4 {P : Nat → Prop} {a : Nat} {tt : Nat} {v1 : Int32}   : ∀ (fu : Nat) (w0 : Int32) (w1 : Int32) (μ : Mu), Fr P μ (Th_litPosts_4 a tt v1 fu w0 w1 μ) := by
  intro fu
  induction fu with
  | zero => intros; exact fr_none
  | succ fu ih => intros; exact fr_Th_litPosts_4b (a := a) (tt := tt) (v1 := v1)   ih
theorem fr_Th_litPosts {P : Nat → Prop} {a : Nat} {tt : Nat} {v1 : Int32} {μ : Mu}   : Fr P μ (Th_litPosts a tt v1 μ) := by
  unfold Th_litPosts
  exact fr_Th_litPosts_4 _ _ _ _
theorem fr_Rw_has {P : Nat → Prop} {a : Nat} {n : Nat} {v1 : Int32} {μ : Mu}   : Fr P μ (Rw_has a n v1 μ) := by
  unfold Rw_has
  refine fr_ite ?_ ?_
  · skip
    exact fr_some
  · skip
    refine fr_gF (fun _ => ?_)
    refine fr_ite ?_ ?_
    · skip
      exact fr_some
    · skip
      exact fr_some
theorem fr_Th_rayEnd_56 {P : Nat → Prop} {a : Nat} {tt : Nat} {v4 : Int32} {v5 : Int32} {s0 : Int32} {μ : Mu}   : Fr P μ (Th_rayEnd_56 a tt v4 v5 s0 μ) := by
  unfold Th_rayEnd_56
  refine fr_cl (fr_Sm_measure) (fun _ _ => ?_)
  refine fr_nz ?_
  exact fr_some
theorem fr_Th_rayEnd {P : Nat → Prop} {a : Nat} {tt : Nat} {v1 : Int32} {v2 : Int32} {v3 : Int32} {μ : Mu}   : Fr P μ (Th_rayEnd a tt v1 v2 v3 μ) := by
  unfold Th_rayEnd
  refine fr_cl (fr_Rw_at) (fun _ _ => ?_)
  refine fr_ite ?_ ?_
  · skip
    refine fr_cl (fr_Rw_at) (fun _ _ => ?_)
    refine fr_ite ?_ ?_
    · skip
      exact fr_Th_rayEnd_56
    · skip
      exact fr_Th_rayEnd_56
  · skip
    refine fr_ite ?_ ?_
    · skip
      exact fr_some
    · skip
      exact fr_some
theorem fr_Sf_light_69 {P : Nat → Prop} {a : Nat} {s0 : Int32} {s1 : Int32} {s2 : Int32} {μ : Mu}   : Fr P μ (Sf_light_69 a s0 s1 s2 μ) := by
  unfold Sf_light_69
  refine fr_cl (fr_Th_rayEnd) (fun _ _ => ?_)
  exact fr_some
theorem fr_Sf_light {P : Nat → Prop} {a : Nat} {v1 : Int32} {v2 : Int32} {v3 : Int32} {μ : Mu}   : Fr P μ (Sf_light a v1 v2 v3 μ) := by
  unfold Sf_light
  refine fr_cl (fr_Sf_within) (fun _ _ => ?_)
  refine fr_ite ?_ ?_
  · skip
    exact fr_some
  · skip
    refine fr_cl (fr_Sf_within) (fun _ _ => ?_)
    refine fr_ite ?_ ?_
    · skip
      exact fr_some
    · skip
      refine fr_ite ?_ ?_
      · skip
        refine fr_cl (fr_Th_litPosts) (fun _ _ => ?_)
        exact fr_some
      · skip
        refine fr_cl (fr_Rw_has) (fun _ _ => ?_)
        refine fr_ite ?_ ?_
        · skip
          exact fr_some
        · skip
          refine fr_ite ?_ ?_
          · skip
            exact fr_Sf_light_69
          · skip
            exact fr_Sf_light_69
theorem fr_Fg_aliveSet_4b {P : Nat → Prop} {a : Nat} {kb4 : Int32 → Int32 → Mu → Option (Int32 × Mu)} {v1 : Int32} {v2 : Int32} {μ : Mu}  (h_kb4 : ∀ (w0 : Int32) (w1 : Int32) (μ : Mu), Fr P μ (kb4 w0 w1 μ)) : Fr P μ (Fg_aliveSet_4b a kb4 v1 v2 μ) := by
  unfold Fg_aliveSet_4b
  refine fr_gF (fun _ => ?_)
  refine fr_ite ?_ ?_
  · skip
    exact fr_some
  · skip
    refine fr_cl (fr_Fg_get) (fun _ _ => ?_)
    exact h_kb4 _ _ _
theorem fr_Fg_aliveSet_4 {P : Nat → Prop} {a : Nat}   : ∀ (fu : Nat) (w0 : Int32) (w1 : Int32) (μ : Mu), Fr P μ (Fg_aliveSet_4 a fu w0 w1 μ) := by
  intro fu
  induction fu with
  | zero => intros; exact fr_none
  | succ fu ih => intros; exact fr_Fg_aliveSet_4b (a := a)   ih
theorem fr_Fg_aliveSet {P : Nat → Prop} {a : Nat} {μ : Mu}   : Fr P μ (Fg_aliveSet a μ) := by
  unfold Fg_aliveSet
  exact fr_Fg_aliveSet_4 _ _ _ _
theorem fr_Sf_look {P : Nat → Prop} {a : Nat} {v1 : Int32} {μ : Mu}   : Fr P μ (Sf_look a v1 μ) := by
  unfold Sf_look
  refine fr_cl (fr_Sf_within) (fun _ _ => ?_)
  refine fr_ite ?_ ?_
  · skip
    refine fr_ite ?_ ?_
    · skip
      refine fr_gF (fun _ => ?_)
      exact fr_some
    · skip
      refine fr_ite ?_ ?_
      · skip
        refine fr_cl (fr_Fg_aliveSet) (fun _ _ => ?_)
        exact fr_some
      · skip
        refine fr_ite ?_ ?_
        · skip
          refine fr_gF (fun _ => ?_)
          exact fr_some
        · skip
          refine fr_ite ?_ ?_
          · skip
            refine fr_gF (fun _ => ?_)
            exact fr_some
          · skip
            refine fr_ite ?_ ?_
            · skip
              refine fr_gF (fun _ => ?_)
              exact fr_some
            · skip
              refine fr_ite ?_ ?_
              · skip
                refine fr_gF (fun _ => ?_)
                exact fr_some
              · skip
                refine fr_ite ?_ ?_
                · skip
                  refine fr_cl (fr_Fg_tallest) (fun _ _ => ?_)
                  exact fr_some
                · skip
                  refine fr_ite ?_ ?_
                  · skip
                    refine fr_gF (fun _ => ?_)
                    exact fr_some
                  · skip
                    refine fr_ite ?_ ?_
                    · skip
                      refine fr_gF (fun _ => ?_)
                      exact fr_some
                    · skip
                      refine fr_ite ?_ ?_
                      · skip
                        refine fr_cl (fr_Tx_linesOf) (fun _ _ => ?_)
                        exact fr_some
                      · skip
                        refine fr_ite ?_ ?_
                        · skip
                          refine fr_cl (fr_Tx_linesOf) (fun _ _ => ?_)
                          exact fr_some
                        · skip
                          refine fr_ite ?_ ?_
                          · skip
                            refine fr_cl (fr_Tx_linesOf) (fun _ _ => ?_)
                            exact fr_some
                          · skip
                            refine fr_ite ?_ ?_
                            · skip
                              refine fr_cl (fr_Tx_linesOf) (fun _ _ => ?_)
                              exact fr_some
                            · skip
                              refine fr_ite ?_ ?_
                              · skip
                                refine fr_gF (fun _ => ?_)
                                exact fr_some
                              · skip
                                exact fr_some
  · skip
    refine fr_cl (fr_Fg_holder) (fun _ _ => ?_)
    exact fr_some
theorem fr_Fg_isPerson {P : Nat → Prop} {a : Nat} {v1 : Int32} {μ : Mu}   : Fr P μ (Fg_isPerson a v1 μ) := by
  unfold Fg_isPerson
  refine fr_ite ?_ ?_
  · skip
    exact fr_some
  · skip
    refine fr_gF (fun _ => ?_)
    refine fr_ite ?_ ?_
    · skip
      exact fr_some
    · skip
      exact fr_some
theorem fr_Sf_of {P : Nat → Prop} {a : Nat} {v1 : Int32} {v2 : Int32} {μ : Mu} (h0 : P (a + 39 + 1)) (h1 : P (a + 1 + 5 + 1 + 6))  : Fr P μ (Sf_of a v1 v2 μ) := by
  unfold Sf_of
  refine fr_cl (fr_Fg_isPerson) (fun _ _ => ?_)
  refine fr_ite ?_ ?_
  · skip
    exact fr_some
  · skip
    refine fr_cl (fr_Sf_within) (fun _ _ => ?_)
    refine fr_ite ?_ ?_
    · skip
      exact fr_some
    · skip
      refine fr_ite ?_ ?_
      · skip
        refine fr_ite ?_ ?_
        · skip
          refine fr_cl (fr_Tx_heirOf) (fun _ _ => ?_)
          exact fr_some
        · skip
          refine fr_cl (fr_Dy_asks h0 h1) (fun _ _ => ?_)
          exact fr_some
      · skip
        refine fr_cl (fr_Fg_get) (fun _ _ => ?_)
        exact fr_some
theorem fr_Fg_come {P : Nat → Prop} {a : Nat} {v1 : Int32} {μ : Mu} (h0 : P (a)) (h1 : P (a + 1))  : Fr P μ (Fg_come a v1 μ) := by
  unfold Fg_come
  refine fr_gF (fun _ => ?_)
  refine fr_ite ?_ ?_
  · skip
    refine fr_gF (fun _ => ?_)
    refine fr_gF (fun _ => ?_)
    refine fr_pF h0 (fun _ => ?_)
    refine fr_cl (fr_Fg_put h1) (fun _ _ => ?_)
    refine fr_cl (fr_Fg_put h1) (fun _ _ => ?_)
    refine fr_cl (fr_Fg_put h1) (fun _ _ => ?_)
    exact fr_some
  · skip
    exact fr_some
theorem fr_Sf_person {P : Nat → Prop} {a : Nat} {v1 : Int32} {μ : Mu} (h0 : P (a)) (h1 : P (a + 1 + 1)) (h2 : P (a + 1 + 1 + 1))  : Fr P μ (Sf_person a v1 μ) := by
  unfold Sf_person
  refine fr_cl (fr_Sf_within) (fun _ _ => ?_)
  refine fr_ite ?_ ?_
  · skip
    exact fr_some
  · skip
    refine fr_gF (fun _ => ?_)
    refine fr_ite ?_ ?_
    · skip
      refine fr_cl (fr_Sf_forget h0) (fun _ _ => ?_)
      refine fr_cl (fr_Fg_come h1 h2) (fun _ _ => ?_)
      exact fr_some
    · skip
      exact fr_some
theorem fr_Rw_takes {P : Nat → Prop} {a : Nat} {n : Nat} {v1 : Int32} {μ : Mu}   : Fr P μ (Rw_takes a n v1 μ) := by
  unfold Rw_takes
  refine fr_gF (fun _ => ?_)
  refine fr_ite ?_ ?_
  · skip
    exact fr_some
  · skip
    refine fr_gF (fun _ => ?_)
    refine fr_ite ?_ ?_
    · skip
      exact fr_some
    · skip
      refine fr_gF (fun _ => ?_)
      refine fr_ite ?_ ?_
      · skip
        exact fr_some
      · skip
        exact fr_some
theorem fr_Th_addBoth {P : Nat → Prop} {f0 : Nat} {n0 : Nat} {f2 : Nat} {n2 : Nat} {v1 : Int32} {v3 : Int32} {μ : Mu} (h0 : P (f0 + 1)) (h1 : P (f0)) (h2 : P (f2 + 1)) (h3 : P (f2))  : Fr P μ (Th_addBoth f0 n0 f2 n2 v1 v3 μ) := by
  unfold Th_addBoth
  refine fr_cl (fr_Rw_takes) (fun _ _ => ?_)
  refine fr_ite ?_ ?_
  · skip
    exact fr_some
  · skip
    refine fr_cl (fr_Rw_takes) (fun _ _ => ?_)
    refine fr_ite ?_ ?_
    · skip
      exact fr_some
    · skip
      refine fr_cl (fr_Rw_append h0 h1) (fun _ _ => ?_)
      refine fr_cl (fr_Rw_append h2 h3) (fun _ _ => ?_)
      exact fr_some
theorem fr_Th_addPoint_48 {P : Nat → Prop} {a : Nat} {tt : Nat} {kb2 : Int32 → Mu → Option (Int32 × Mu)} {v1 : Int32} {v2 : Int32} {v3 : Int32} {μ : Mu}  (h_kb2 : ∀ (w0 : Int32) (μ : Mu), Fr P μ (kb2 w0 μ)) : Fr P μ (Th_addPoint_48 a tt kb2 v1 v2 v3 μ) := by
  unfold Th_addPoint_48
  exact h_kb2 _ _
theorem fr_Th_addPoint_2b {P : Nat → Prop} {a : Nat} {tt : Nat} {kb2 : Int32 → Mu → Option (Int32 × Mu)} {v1 : Int32} {v2 : Int32} {v3 : Int32} {μ : Mu} (h0 : P (tt + 1 + 1)) (h1 : P (tt + 1)) (h2 : P (tt + 3 + 1)) (h3 : P (tt + 3)) (h_kb2 : ∀ (w0 : Int32) (μ : Mu), Fr P μ (kb2 w0 μ)) : Fr P μ (Th_addPoint_2b a tt kb2 v1 v2 v3 μ) := by
  unfold Th_addPoint_2b
  refine fr_gF (fun _ => ?_)
  refine fr_ite ?_ ?_
  · skip
    refine fr_cl (fr_Th_addBoth h0 h1 h2 h3) (fun _ _ => ?_)
    exact fr_some
  · skip
    refine fr_cl (fr_Rw_at) (fun _ _ => ?_)
    refine fr_ite ?_ ?_
    · skip
      refine fr_cl (fr_Rw_at) (fun _ _ => ?_)
      refine fr_ite ?_ ?_
      · skip
        exact fr_some
      · skip
        exact fr_Th_addPoint_48  h_kb2
    · skip
      exact fr_Th_addPoint_48  h_kb2
theorem fr_Th_addPoint_2 {P : Nat → Prop} {a : Nat} {tt : Nat} {v1 : Int32} {v2 : Int32} (h0 : P (tt + 1 + 1)) (h1 : P (tt + 1)) (h2 : P (tt + 3 + 1)) (h3 : P (tt + 3))  : ∀ (fu : Nat) (w0 : Int32) (μ : Mu), Fr P μ (Th_addPoint_2 a tt v1 v2 fu w0 μ) := by
  intro fu
  induction fu with
  | zero => intros; exact fr_none
  | succ fu ih => intros; exact fr_Th_addPoint_2b (a := a) (tt := tt) (v1 := v1) (v2 := v2) h0 h1 h2 h3  ih
theorem fr_Th_addPoint {P : Nat → Prop} {a : Nat} {tt : Nat} {v1 : Int32} {v2 : Int32} {μ : Mu} (h0 : P (tt + 1 + 1)) (h1 : P (tt + 1)) (h2 : P (tt + 3 + 1)) (h3 : P (tt + 3))  : Fr P μ (Th_addPoint a tt v1 v2 μ) := by
  unfold Th_addPoint
  exact fr_Th_addPoint_2 h0 h1 h2 h3 _ _ _
theorem fr_Sf_point {P : Nat → Prop} {a : Nat} {v1 : Int32} {v2 : Int32} {μ : Mu} (h0 : P (a + 1 + 17 + 1)) (h1 : P (a + 1 + 17 + 3)) (h2 : P (a + 1 + 17 + 1 + 1)) (h3 : P (a + 1 + 17 + 3 + 1))  : Fr P μ (Sf_point a v1 v2 μ) := by
  unfold Sf_point
  refine fr_ite ?_ ?_
  · skip
    refine fr_cl (fr_Rw_clear h0) (fun _ _ => ?_)
    refine fr_cl (fr_Rw_clear h1) (fun _ _ => ?_)
    exact fr_some
  · skip
    refine fr_cl (fr_Th_addPoint h2 h0 h3 h1) (fun _ _ => ?_)
    exact fr_some
theorem fr_Th_addPost {P : Nat → Prop} {a : Nat} {tt : Nat} {v1 : Int32} {v2 : Int32} {μ : Mu} (h0 : P (tt + 15 + 1)) (h1 : P (tt + 15)) (h2 : P (tt + 17 + 1)) (h3 : P (tt + 17))  : Fr P μ (Th_addPost a tt v1 v2 μ) := by
  unfold Th_addPost
  refine fr_cl (fr_Th_addBoth h0 h1 h2 h3) (fun _ _ => ?_)
  exact fr_some
theorem fr_Sf_post {P : Nat → Prop} {a : Nat} {v1 : Int32} {v2 : Int32} {μ : Mu} (h0 : P (a + 1 + 17 + 15)) (h1 : P (a + 1 + 17 + 17)) (h2 : P (a + 1 + 17 + 15 + 1)) (h3 : P (a + 1 + 17 + 17 + 1))  : Fr P μ (Sf_post a v1 v2 μ) := by
  unfold Sf_post
  refine fr_ite ?_ ?_
  · skip
    refine fr_cl (fr_Rw_clear h0) (fun _ _ => ?_)
    refine fr_cl (fr_Rw_clear h1) (fun _ _ => ?_)
    exact fr_some
  · skip
    refine fr_cl (fr_Th_addPost h2 h0 h3 h1) (fun _ _ => ?_)
    exact fr_some
theorem fr_Sf_row {P : Nat → Prop} {a : Nat} {v1 : Int32} {v2 : Int32} {μ : Mu} (h0 : P (a + 1 + 17 + 7)) (h1 : P (a + 1 + 17 + 7 + 1)) (h2 : P (a + 1 + 17 + 9)) (h3 : P (a + 1 + 17 + 9 + 1))  : Fr P μ (Sf_row a v1 v2 μ) := by
  unfold Sf_row
  refine fr_ite ?_ ?_
  · skip
    refine fr_cl (fr_Rw_tell h0 h1) (fun _ _ => ?_)
    exact fr_some
  · skip
    refine fr_ite ?_ ?_
    · skip
      refine fr_cl (fr_Rw_tell h2 h3) (fun _ _ => ?_)
      exact fr_some
    · skip
      exact fr_some
theorem fr_Sf_set_105 {P : Nat → Prop} {a : Nat} {μ : Mu} (h0 : P (a))  : Fr P μ (Sf_set_105 a μ) := by
  unfold Sf_set_105
  refine fr_cl (fr_Sf_forget h0) (fun _ _ => ?_)
  exact fr_some
theorem fr_Sf_set_67 {P : Nat → Prop} {a : Nat} {v1 : Int32} {v2 : Int32} {v3 : Int32} {μ : Mu} (h0 : P (a + 1 + 1 + 1)) (h1 : P (a))  : Fr P μ (Sf_set_67 a v1 v2 v3 μ) := by
  unfold Sf_set_67
  refine fr_ite ?_ ?_
  · skip
    refine fr_cl (fr_Fg_isAlive) (fun _ _ => ?_)
    refine fr_ite ?_ ?_
    · skip
      exact fr_some
    · skip
      refine fr_cl (fr_Sf_within) (fun _ _ => ?_)
      refine fr_ite ?_ ?_
      · skip
        exact fr_some
      · skip
        refine fr_cl (fr_Fg_put h0) (fun _ _ => ?_)
        exact fr_Sf_set_105 h1
  · skip
    exact fr_some
theorem fr_Sf_set_33 {P : Nat → Prop} {a : Nat} {v1 : Int32} {v2 : Int32} {v3 : Int32} {μ : Mu} (h0 : P (a + 1 + 1 + 1)) (h1 : P (a))  : Fr P μ (Sf_set_33 a v1 v2 v3 μ) := by
  unfold Sf_set_33
  refine fr_ite ?_ ?_
  · skip
    refine fr_cl (fr_Fg_isAlive) (fun _ _ => ?_)
    refine fr_ite ?_ ?_
    · skip
      exact fr_Sf_set_67 h0 h1
    · skip
      refine fr_cl (fr_Sf_within) (fun _ _ => ?_)
      refine fr_ite ?_ ?_
      · skip
        exact fr_Sf_set_67 h0 h1
      · skip
        refine fr_cl (fr_Fg_put h0) (fun _ _ => ?_)
        exact fr_Sf_set_105 h1
  · skip
    exact fr_Sf_set_67 h0 h1
theorem fr_Sf_set {P : Nat → Prop} {a : Nat} {v1 : Int32} {v2 : Int32} {v3 : Int32} {μ : Mu} (h0 : P (a + 1 + 1 + 1)) (h1 : P (a)) (h2 : P (a + 1 + 1))  : Fr P μ (Sf_set a v1 v2 v3 μ) := by
  unfold Sf_set
  refine fr_ite ?_ ?_
  · skip
    refine fr_cl (fr_Sf_within) (fun _ _ => ?_)
    refine fr_ite ?_ ?_
    · skip
      exact fr_Sf_set_33 h0 h1
    · skip
      refine fr_pF h2 (fun _ => ?_)
      exact fr_Sf_set_105 h1
  · skip
    exact fr_Sf_set_33 h0 h1
theorem fr_Th_shadowWays_106 {P : Nat → Prop} {a : Nat} {tt : Nat} {kb28 : Int32 → Mu → Option (Int32 × Mu)} {v1 : Int32} {v2 : Int32} {μ : Mu}  (h_kb28 : ∀ (w0 : Int32) (μ : Mu), Fr P μ (kb28 w0 μ)) : Fr P μ (Th_shadowWays_106 a tt kb28 v1 v2 μ) := by
  unfold Th_shadowWays_106
  exact h_kb28 _ _
theorem fr_Th_shadowWays_100 {P : Nat → Prop} {a : Nat} {tt : Nat} {kb28 : Int32 → Mu → Option (Int32 × Mu)} {kb44 : Int32 → Mu → Option (Int32 × Mu)} {v1 : Int32} {v2 : Int32} {v3 : Int32} {μ : Mu}  (h_kb28 : ∀ (w0 : Int32) (μ : Mu), Fr P μ (kb28 w0 μ)) (h_kb44 : ∀ (w0 : Int32) (μ : Mu), Fr P μ (kb44 w0 μ)) : Fr P μ (Th_shadowWays_100 a tt kb28 kb44 v1 v2 v3 μ) := by
  unfold Th_shadowWays_100
  exact h_kb44 _ _
theorem fr_Th_shadowWays_44b {P : Nat → Prop} {a : Nat} {tt : Nat} {kb28 : Int32 → Mu → Option (Int32 × Mu)} {kb44 : Int32 → Mu → Option (Int32 × Mu)} {v1 : Int32} {v2 : Int32} {v3 : Int32} {μ : Mu} (h0 : P (a + 1)) (h_kb28 : ∀ (w0 : Int32) (μ : Mu), Fr P μ (kb28 w0 μ)) (h_kb44 : ∀ (w0 : Int32) (μ : Mu), Fr P μ (kb44 w0 μ)) : Fr P μ (Th_shadowWays_44b a tt kb28 kb44 v1 v2 v3 μ) := by
  unfold Th_shadowWays_44b
  refine fr_ite ?_ ?_
  · skip
    exact fr_Th_shadowWays_106  h_kb28
  · skip
    refine fr_ite ?_ ?_
    · skip
      exact fr_Th_shadowWays_106  h_kb28
    · skip
      refine fr_cl (fr_Rw_at) (fun _ _ => ?_)
      refine fr_cl (fr_Rw_at) (fun _ _ => ?_)
      refine fr_ite ?_ ?_
      · skip
        refine fr_ldA (fun _ => ?_)
        refine fr_ldA (fun _ => ?_)
        refine fr_stA h0 (fun _ => ?_)
        exact fr_Th_shadowWays_100  h_kb28 h_kb44
      · skip
        exact fr_Th_shadowWays_100  h_kb28 h_kb44
theorem fr_Th_shadowWays_44 {P : Nat → Prop} {a : Nat} {tt : Nat} {kb28 : Int32 → Mu → Option (Int32 × Mu)} {v1 : Int32} {v2 : Int32} (h0 : P (a + 1)) (h_kb28 : ∀ (w0 : Int32) (μ : Mu), Fr P μ (kb28 w0 μ)) : ∀ (fu : Nat) (w0 : Int32) (μ : Mu), Fr P μ (Th_shadowWays_44 a tt kb28 v1 v2 fu w0 μ) := by
  intro fu
  induction fu with
  | zero => intros; exact fr_none
  | succ fu ih => intros; exact fr_Th_shadowWays_44b (a := a) (tt := tt) (kb28 := kb28) (v1 := v1) (v2 := v2) h0 h_kb28 ih
theorem fr_Th_shadowWays_28b {P : Nat → Prop} {a : Nat} {tt : Nat} {kb28 : Int32 → Mu → Option (Int32 × Mu)} {v1 : Int32} {v2 : Int32} {μ : Mu} (h0 : P (a + 1)) (h_kb28 : ∀ (w0 : Int32) (μ : Mu), Fr P μ (kb28 w0 μ)) : Fr P μ (Th_shadowWays_28b a tt kb28 v1 v2 μ) := by
  unfold Th_shadowWays_28b
  refine fr_gF (fun _ => ?_)
  refine fr_ite ?_ ?_
  · skip
    refine fr_ite ?_ ?_
    · skip
      exact fr_some
    · skip
      refine fr_ite ?_ ?_
      · skip
        exact fr_some
      · skip
        refine fr_ldA (fun _ => ?_)
        exact fr_some
  · skip
    exact fr_Th_shadowWays_44 h0 h_kb28 _ _ _
theorem fr_Th_shadowWays_28 {P : Nat → Prop} {a : Nat} {tt : Nat} {v1 : Int32} (h0 : P (a + 1))  : ∀ (fu : Nat) (w0 : Int32) (μ : Mu), Fr P μ (Th_shadowWays_28 a tt v1 fu w0 μ) := by
  intro fu
  induction fu with
  | zero => intros; exact fr_none
  | succ fu ih => intros; exact fr_Th_shadowWays_28b (a := a) (tt := tt) (v1 := v1) h0  ih
theorem fr_Th_shadowWays {P : Nat → Prop} {a : Nat} {tt : Nat} {μ : Mu} (h0 : P (a + 1))  : Fr P μ (Th_shadowWays a tt μ) := by
  unfold Th_shadowWays
  refine fr_gF (fun _ => ?_)
  refine fr_cl (fr_Ja_fill h0) (fun _ _ => ?_)
  refine fr_stA h0 (fun _ => ?_)
  exact fr_Th_shadowWays_28 h0 _ _ _
theorem fr_Sf_shadow {P : Nat → Prop} {a : Nat} {v1 : Int32} {μ : Mu} (h0 : P (a + 45 + 1))  : Fr P μ (Sf_shadow a v1 μ) := by
  unfold Sf_shadow
  refine fr_cl (fr_Sf_within) (fun _ _ => ?_)
  refine fr_ite ?_ ?_
  · skip
    exact fr_some
  · skip
    refine fr_cl (fr_Th_shadowWays h0) (fun _ _ => ?_)
    refine fr_ite ?_ ?_
    · skip
      exact fr_some
    · skip
      exact fr_some
theorem fr_Jn_signum {P : Nat → Prop} {v0 : Int32} {μ : Mu}   : Fr P μ (Jn_signum v0 μ) := by
  unfold Jn_signum
  exact fr_some
theorem fr_Sf_side {P : Nat → Prop} {a : Nat} {v1 : Int32} {v2 : Int32} {v3 : Int32} {μ : Mu}   : Fr P μ (Sf_side a v1 v2 v3 μ) := by
  unfold Sf_side
  refine fr_cl (fr_Rw_has) (fun _ _ => ?_)
  refine fr_ite ?_ ?_
  · skip
    exact fr_some
  · skip
    refine fr_cl (fr_Rw_has) (fun _ _ => ?_)
    refine fr_ite ?_ ?_
    · skip
      exact fr_some
    · skip
      refine fr_cl (fr_Rw_has) (fun _ _ => ?_)
      refine fr_ite ?_ ?_
      · skip
        exact fr_some
      · skip
        refine fr_ite ?_ ?_
        · skip
          exact fr_some
        · skip
          refine fr_cl (fr_Th_turn) (fun _ _ => ?_)
          refine fr_cl (fr_Jn_signum) (fun _ _ => ?_)
          exact fr_some
theorem fr_Jm_floorModL_25 {P : Nat → Prop} {v4 : Int64} {μ : Mu}   : Fr P μ (Jm_floorModL_25 v4 μ) := by
  unfold Jm_floorModL_25
  exact fr_some
theorem fr_Jm_floorModL {P : Nat → Prop} {v0 : Int64} {v2 : Int64} {μ : Mu}   : Fr P μ (Jm_floorModL v0 v2 μ) := by
  unfold Jm_floorModL
  refine fr_nzL ?_
  refine fr_ite ?_ ?_
  · skip
    exact fr_Jm_floorModL_25
  · skip
    refine fr_ite ?_ ?_
    · skip
      exact fr_Jm_floorModL_25
    · skip
      exact fr_some
theorem fr_Sm_floors_15b {P : Nat → Prop} {kb15 : Int64 → Int64 → Int32 → Mu → Option (Int32 × Mu)} {v0 : Int32} {v1 : Int64} {v3 : Int64} {v5 : Int32} {μ : Mu}  (h_kb15 : ∀ (w0 : Int64) (w1 : Int64) (w2 : Int32) (μ : Mu), Fr P μ (kb15 w0 w1 w2 μ)) : Fr P μ (Sm_floors_15b kb15 v0 v1 v3 v5 μ) := by
  unfold Sm_floors_15b
  refine fr_ite ?_ ?_
  · skip
    exact fr_some
  · skip
    refine fr_cl (fr_Jm_floorModL) (fun _ _ => ?_)
    exact h_kb15 _ _ _ _
theorem fr_Sm_floors_15 {P : Nat → Prop} {v0 : Int32}   : ∀ (fu : Nat) (w0 : Int64) (w1 : Int64) (w2 : Int32) (μ : Mu), Fr P μ (Sm_floors_15 v0 fu w0 w1 w2 μ) := by
  intro fu
  induction fu with
  | zero => intros; exact fr_none
  | succ fu ih => intros; exact fr_Sm_floors_15b (v0 := v0)   ih
theorem fr_Sm_floors {P : Nat → Prop} {v0 : Int32} {μ : Mu}   : Fr P μ (Sm_floors v0 μ) := by
  unfold Sm_floors
  refine fr_ite ?_ ?_
  · skip
    exact fr_Sm_floors_15 _ _ _ _ _
  · skip
    exact fr_some
theorem fr_Sf_slabs {P : Nat → Prop} {a : Nat} {v1 : Int32} {μ : Mu}   : Fr P μ (Sf_slabs a v1 μ) := by
  unfold Sf_slabs
  refine fr_cl (fr_Sf_within) (fun _ _ => ?_)
  refine fr_ite ?_ ?_
  · skip
    exact fr_some
  · skip
    refine fr_cl (fr_Sm_floors) (fun _ _ => ?_)
    exact fr_some
theorem fr_Rw_holds_2b {P : Nat → Prop} {a : Nat} {n : Nat} {kb2 : Int32 → Mu → Option (Int32 × Mu)} {v1 : Int32} {v2 : Int32} {μ : Mu}  (h_kb2 : ∀ (w0 : Int32) (μ : Mu), Fr P μ (kb2 w0 μ)) : Fr P μ (Rw_holds_2b a n kb2 v1 v2 μ) := by
  unfold Rw_holds_2b
  refine fr_gF (fun _ => ?_)
  refine fr_ite ?_ ?_
  · skip
    exact fr_some
  · skip
    refine fr_cl (fr_Rw_at) (fun _ _ => ?_)
    refine fr_ite ?_ ?_
    · skip
      exact fr_some
    · skip
      exact h_kb2 _ _
theorem fr_Rw_holds_2 {P : Nat → Prop} {a : Nat} {n : Nat} {v1 : Int32}   : ∀ (fu : Nat) (w0 : Int32) (μ : Mu), Fr P μ (Rw_holds_2 a n v1 fu w0 μ) := by
  intro fu
  induction fu with
  | zero => intros; exact fr_none
  | succ fu ih => intros; exact fr_Rw_holds_2b (a := a) (n := n) (v1 := v1)   ih
theorem fr_Rw_holds {P : Nat → Prop} {a : Nat} {n : Nat} {v1 : Int32} {μ : Mu}   : Fr P μ (Rw_holds a n v1 μ) := by
  unfold Rw_holds
  exact fr_Rw_holds_2 _ _ _
theorem fr_Sf_stage {P : Nat → Prop} {a : Nat} {v1 : Int32} {μ : Mu} (h0 : P (a + 1 + 17 + 13)) (h1 : P (a + 1 + 17 + 13 + 1))  : Fr P μ (Sf_stage a v1 μ) := by
  unfold Sf_stage
  refine fr_cl (fr_Rw_holds) (fun _ _ => ?_)
  refine fr_ite ?_ ?_
  · skip
    refine fr_cl (fr_Rw_tell h0 h1) (fun _ _ => ?_)
    exact fr_some
  · skip
    refine fr_gF (fun _ => ?_)
    exact fr_some
theorem fr_Sf_state {P : Nat → Prop} {a : Nat} {v1 : Int32} {μ : Mu} (h0 : P (a + 1 + 1)) (h1 : P (a))  : Fr P μ (Sf_state a v1 μ) := by
  unfold Sf_state
  refine fr_gF (fun _ => ?_)
  refine fr_pF h0 (fun _ => ?_)
  refine fr_cl (fr_Sf_forget h1) (fun _ _ => ?_)
  exact fr_some
theorem fr_Sm_numberOfSight_4b {P : Nat → Prop} {kb4 : Int32 → Int32 → Mu → Option (Int32 × Mu)} {v1 : Int32} {v2 : Int32} {μ : Mu}  (h_kb4 : ∀ (w0 : Int32) (w1 : Int32) (μ : Mu), Fr P μ (kb4 w0 w1 μ)) : Fr P μ (Sm_numberOfSight_4b kb4 v1 v2 μ) := by
  unfold Sm_numberOfSight_4b
  refine fr_ite ?_ ?_
  · skip
    exact fr_some
  · skip
    exact h_kb4 _ _ _
theorem fr_Sm_numberOfSight_4 {P : Nat → Prop}    : ∀ (fu : Nat) (w0 : Int32) (w1 : Int32) (μ : Mu), Fr P μ (Sm_numberOfSight_4  fu w0 w1 μ) := by
  intro fu
  induction fu with
  | zero => intros; exact fr_none
  | succ fu ih => intros; exact fr_Sm_numberOfSight_4b    ih
theorem fr_Sm_numberOfSight {P : Nat → Prop} {v0 : Int32} {μ : Mu}   : Fr P μ (Sm_numberOfSight v0 μ) := by
  unfold Sm_numberOfSight
  exact fr_Sm_numberOfSight_4 _ _ _ _
theorem fr_Sf_switches {P : Nat → Prop} {a : Nat} {v1 : Int32} {v2 : Int32} {μ : Mu}   : Fr P μ (Sf_switches a v1 v2 μ) := by
  unfold Sf_switches
  refine fr_cl (fr_Sf_within) (fun _ _ => ?_)
  refine fr_ite ?_ ?_
  · skip
    exact fr_some
  · skip
    refine fr_cl (fr_Sf_within) (fun _ _ => ?_)
    refine fr_ite ?_ ?_
    · skip
      exact fr_some
    · skip
      refine fr_ite ?_ ?_
      · skip
        exact fr_some
      · skip
        refine fr_cl (fr_Sm_numberOfSight) (fun _ _ => ?_)
        exact fr_some
theorem fr_Rd_isDigit {P : Nat → Prop} {v0 : Int32} {μ : Mu}   : Fr P μ (Rd_isDigit v0 μ) := by
  unfold Rd_isDigit
  refine fr_ite ?_ ?_
  · skip
    exact fr_some
  · skip
    refine fr_ite ?_ ?_
    · skip
      exact fr_some
    · skip
      exact fr_some
theorem fr_Rd_isLetter_24 {P : Nat → Prop}  {μ : Mu}   : Fr P μ (Rd_isLetter_24 μ) := by
  unfold Rd_isLetter_24
  exact fr_some
theorem fr_Rd_isLetter_12 {P : Nat → Prop} {v0 : Int32} {μ : Mu}   : Fr P μ (Rd_isLetter_12 v0 μ) := by
  unfold Rd_isLetter_12
  refine fr_ite ?_ ?_
  · skip
    exact fr_some
  · skip
    refine fr_ite ?_ ?_
    · skip
      exact fr_some
    · skip
      exact fr_Rd_isLetter_24
theorem fr_Rd_isLetter {P : Nat → Prop} {v0 : Int32} {μ : Mu}   : Fr P μ (Rd_isLetter v0 μ) := by
  unfold Rd_isLetter
  refine fr_ite ?_ ?_
  · skip
    exact fr_Rd_isLetter_12
  · skip
    refine fr_ite ?_ ?_
    · skip
      exact fr_Rd_isLetter_24
    · skip
      exact fr_Rd_isLetter_12
theorem fr_Js_coder {P : Nat → Prop} {si : Nat} {μ : Mu}   : Fr P μ (Js_coder si μ) := by
  unfold Js_coder
  refine fr_ite ?_ ?_
  · skip
    exact fr_some
  · skip
    exact fr_some
theorem fr_Js_length {P : Nat → Prop} {si : Nat} {μ : Mu}   : Fr P μ (Js_length si μ) := by
  unfold Js_length
  refine fr_cl (fr_Js_coder) (fun _ _ => ?_)
  exact fr_some
theorem fr_Js_isLatin1 {P : Nat → Prop} {si : Nat} {μ : Mu}   : Fr P μ (Js_isLatin1 si μ) := by
  unfold Js_isLatin1
  refine fr_ite ?_ ?_
  · skip
    exact fr_some
  · skip
    refine fr_ite ?_ ?_
    · skip
      exact fr_some
    · skip
      exact fr_some
theorem fr_Jl_charAt {P : Nat → Prop} {bi : Nat} {v1 : Int32} {μ : Mu}   : Fr P μ (Jl_charAt bi v1 μ) := by
  unfold Jl_charAt
  refine fr_cl (fr_Js_checkIndex) (fun _ _ => ?_)
  refine fr_ldZ (fun _ => ?_)
  refine fr_zgc ?_
  exact fr_some
theorem fr_Js_charAt {P : Nat → Prop} {si : Nat} {v1 : Int32} {μ : Mu}   : Fr P μ (Js_charAt si v1 μ) := by
  unfold Js_charAt
  refine fr_cl (fr_Js_isLatin1) (fun _ _ => ?_)
  refine fr_ite ?_ ?_
  · skip
    exact fr_none
  · skip
    refine fr_cl (fr_Jl_charAt) (fun _ _ => ?_)
    refine fr_zgc ?_
    exact fr_some
theorem fr_Rd_keyword_104 {P : Nat → Prop} {a : Nat} {kb12 : Int32 → Int32 → Int32 → Int32 → Mu → Option (Int32 × Mu)} {v1 : Int32} {v2 : Int32} {v3 : Int32} {v4 : Int32} {μ : Mu}  (h_kb12 : ∀ (w0 : Int32) (w1 : Int32) (w2 : Int32) (w3 : Int32) (μ : Mu), Fr P μ (kb12 w0 w1 w2 w3 μ)) : Fr P μ (Rd_keyword_104 a kb12 v1 v2 v3 v4 μ) := by
  unfold Rd_keyword_104
  exact h_kb12 _ _ _ _ _
theorem fr_Rd_keyword_94 {P : Nat → Prop} {a : Nat} {kb12 : Int32 → Int32 → Int32 → Int32 → Mu → Option (Int32 × Mu)} {v1 : Int32} {v4 : Int32} {μ : Mu}  (h_kb12 : ∀ (w0 : Int32) (w1 : Int32) (w2 : Int32) (w3 : Int32) (μ : Mu), Fr P μ (kb12 w0 w1 w2 w3 μ)) : Fr P μ (Rd_keyword_94 a kb12 v1 v4 μ) := by
  unfold Rd_keyword_94
  refine fr_gF (fun _ => ?_)
  exact fr_Rd_keyword_104  h_kb12
theorem fr_Rd_keyword_73 {P : Nat → Prop} {a : Nat} {kb12 : Int32 → Int32 → Int32 → Int32 → Mu → Option (Int32 × Mu)} {v1 : Int32} {v2 : Int32} {v4 : Int32} {s0 : Int32} {μ : Mu}  (h_kb12 : ∀ (w0 : Int32) (w1 : Int32) (w2 : Int32) (w3 : Int32) (μ : Mu), Fr P μ (kb12 w0 w1 w2 w3 μ)) : Fr P μ (Rd_keyword_73 a kb12 v1 v2 v4 s0 μ) := by
  unfold Rd_keyword_73
  exact fr_Rd_keyword_104  h_kb12
theorem fr_Rd_keyword_72 {P : Nat → Prop} {a : Nat} {kb12 : Int32 → Int32 → Int32 → Int32 → Mu → Option (Int32 × Mu)} {v1 : Int32} {v2 : Int32} {v4 : Int32} {μ : Mu}  (h_kb12 : ∀ (w0 : Int32) (w1 : Int32) (w2 : Int32) (w3 : Int32) (μ : Mu), Fr P μ (kb12 w0 w1 w2 w3 μ)) : Fr P μ (Rd_keyword_72 a kb12 v1 v2 v4 μ) := by
  unfold Rd_keyword_72
  exact fr_Rd_keyword_73  h_kb12
theorem fr_Rd_keyword_12b {P : Nat → Prop} {a : Nat} {kb12 : Int32 → Int32 → Int32 → Int32 → Mu → Option (Int32 × Mu)} {v1 : Int32} {v2 : Int32} {v3 : Int32} {v4 : Int32} {μ : Mu}  (h_kb12 : ∀ (w0 : Int32) (w1 : Int32) (w2 : Int32) (w3 : Int32) (μ : Mu), Fr P μ (kb12 w0 w1 w2 w3 μ)) : Fr P μ (Rd_keyword_12b a kb12 v1 v2 v3 v4 μ) := by
  unfold Rd_keyword_12b
  refine fr_cl (fr_Js_length) (fun _ _ => ?_)
  refine fr_ite ?_ ?_
  · skip
    exact fr_some
  · skip
    refine fr_cl (fr_Js_charAt) (fun _ _ => ?_)
    refine fr_ite ?_ ?_
    · skip
      refine fr_ite ?_ ?_
      · skip
        exact fr_Rd_keyword_94  h_kb12
      · skip
        refine fr_gF (fun _ => ?_)
        refine fr_ite ?_ ?_
        · skip
          exact fr_some
        · skip
          exact fr_Rd_keyword_94  h_kb12
    · skip
      refine fr_ite ?_ ?_
      · skip
        exact fr_Rd_keyword_72  h_kb12
      · skip
        refine fr_gF (fun _ => ?_)
        refine fr_ite ?_ ?_
        · skip
          exact fr_Rd_keyword_72  h_kb12
        · skip
          refine fr_ite ?_ ?_
          · skip
            exact fr_Rd_keyword_72  h_kb12
          · skip
            refine fr_ldA (fun _ => ?_)
            refine fr_ite ?_ ?_
            · skip
              exact fr_Rd_keyword_73  h_kb12
            · skip
              exact fr_Rd_keyword_72  h_kb12
theorem fr_Rd_keyword_12 {P : Nat → Prop} {a : Nat}   : ∀ (fu : Nat) (w0 : Int32) (w1 : Int32) (w2 : Int32) (w3 : Int32) (μ : Mu), Fr P μ (Rd_keyword_12 a fu w0 w1 w2 w3 μ) := by
  intro fu
  induction fu with
  | zero => intros; exact fr_none
  | succ fu ih => intros; exact fr_Rd_keyword_12b (a := a)   ih
theorem fr_Rd_keyword {P : Nat → Prop} {a : Nat} {μ : Mu}   : Fr P μ (Rd_keyword a μ) := by
  unfold Rd_keyword
  refine fr_gF (fun _ => ?_)
  exact fr_Rd_keyword_12 _ _ _ _ _ _
theorem fr_Jl_canEncode {P : Nat → Prop} {v0 : Int32} {μ : Mu}   : Fr P μ (Jl_canEncode v0 μ) := by
  unfold Jl_canEncode
  refine fr_ite ?_ ?_
  · skip
    exact fr_some
  · skip
    refine fr_ite ?_ ?_
    · skip
      exact fr_some
    · skip
      exact fr_some
theorem fr_Jl_indexOfChar_7b {P : Nat → Prop} {bi : Nat} {kb7 : Int32 → Mu → Option (Int32 × Mu)} {v3 : Int32} {v4 : Int32} {v5 : Int32} {μ : Mu}  (h_kb7 : ∀ (w0 : Int32) (μ : Mu), Fr P μ (kb7 w0 μ)) : Fr P μ (Jl_indexOfChar_7b bi kb7 v3 v4 v5 μ) := by
  unfold Jl_indexOfChar_7b
  refine fr_ite ?_ ?_
  · skip
    exact fr_some
  · skip
    refine fr_ldZ (fun _ => ?_)
    refine fr_ite ?_ ?_
    · skip
      exact fr_some
    · skip
      exact h_kb7 _ _
theorem fr_Jl_indexOfChar_7 {P : Nat → Prop} {bi : Nat} {v3 : Int32} {v4 : Int32}   : ∀ (fu : Nat) (w0 : Int32) (μ : Mu), Fr P μ (Jl_indexOfChar_7 bi v3 v4 fu w0 μ) := by
  intro fu
  induction fu with
  | zero => intros; exact fr_none
  | succ fu ih => intros; exact fr_Jl_indexOfChar_7b (bi := bi) (v3 := v3) (v4 := v4)   ih
theorem fr_Jl_indexOfChar {P : Nat → Prop} {bi : Nat} {v1 : Int32} {v2 : Int32} {v3 : Int32} {μ : Mu}   : Fr P μ (Jl_indexOfChar bi v1 v2 v3 μ) := by
  unfold Jl_indexOfChar
  exact fr_Jl_indexOfChar_7 _ _ _
theorem fr_Jl_indexOf {P : Nat → Prop} {bi : Nat} {v1 : Int32} {v2 : Int32} {v3 : Int32} {μ : Mu}   : Fr P μ (Jl_indexOf bi v1 v2 v3 μ) := by
  unfold Jl_indexOf
  refine fr_cl (fr_Jl_canEncode) (fun _ _ => ?_)
  refine fr_ite ?_ ?_
  · skip
    exact fr_some
  · skip
    refine fr_ite ?_ ?_
    · skip
      refine fr_cl (fr_Jl_indexOfChar) (fun _ _ => ?_)
      exact fr_some
    · skip
      exact fr_some
theorem fr_Js_indexOf2 {P : Nat → Prop} {si : Nat} {v1 : Int32} {v2 : Int32} {μ : Mu}   : Fr P μ (Js_indexOf2 si v1 v2 μ) := by
  unfold Js_indexOf2
  refine fr_cl (fr_Js_isLatin1) (fun _ _ => ?_)
  refine fr_ite ?_ ?_
  · skip
    refine fr_cl (fr_Js_length) (fun _ _ => ?_)
    exact fr_none
  · skip
    refine fr_cl (fr_Js_length) (fun _ _ => ?_)
    refine fr_cl (fr_Jl_indexOf) (fun _ _ => ?_)
    exact fr_some
theorem fr_Js_indexOf1 {P : Nat → Prop} {si : Nat} {v1 : Int32} {μ : Mu}   : Fr P μ (Js_indexOf1 si v1 μ) := by
  unfold Js_indexOf1
  refine fr_cl (fr_Js_indexOf2) (fun _ _ => ?_)
  exact fr_some
theorem fr_Rd_next_86 {P : Nat → Prop} {a : Nat} {μ : Mu} (h0 : P (a))  : Fr P μ (Rd_next_86 a μ) := by
  unfold Rd_next_86
  refine fr_pF h0 (fun _ => ?_)
  exact fr_some
theorem fr_Rd_next_291 {P : Nat → Prop} {a : Nat} {s0 : Int32} {μ : Mu} (h0 : P (a))  : Fr P μ (Rd_next_291 a s0 μ) := by
  unfold Rd_next_291
  refine fr_pF h0 (fun _ => ?_)
  exact fr_some
theorem fr_Rd_next_263 {P : Nat → Prop} {a : Nat} {μ : Mu} (h0 : P (a))  : Fr P μ (Rd_next_263 a μ) := by
  unfold Rd_next_263
  refine fr_cl (fr_Rd_keyword) (fun _ _ => ?_)
  refine fr_pF h0 (fun _ => ?_)
  exact fr_some
theorem fr_Rd_next_224b {P : Nat → Prop} {a : Nat} {kb224 : Mu → Option (Unit × Mu)} {μ : Mu} (h0 : P (a)) (h_kb224 : ∀  (μ : Mu), Fr P μ (kb224  μ)) : Fr P μ (Rd_next_224b a kb224 μ) := by
  unfold Rd_next_224b
  refine fr_gF (fun _ => ?_)
  refine fr_gF (fun _ => ?_)
  refine fr_ite ?_ ?_
  · skip
    exact fr_Rd_next_263 h0
  · skip
    refine fr_gF (fun _ => ?_)
    refine fr_ldA (fun _ => ?_)
    refine fr_cl (fr_Rd_isLetter) (fun _ _ => ?_)
    refine fr_ite ?_ ?_
    · skip
      exact fr_Rd_next_263 h0
    · skip
      refine fr_gF (fun _ => ?_)
      refine fr_pF h0 (fun _ => ?_)
      exact h_kb224 _
theorem fr_Rd_next_224 {P : Nat → Prop} {a : Nat} (h0 : P (a))  : ∀ (fu : Nat)  (μ : Mu), Fr P μ (Rd_next_224 a fu  μ) := by
  intro fu
  induction fu with
  | zero => intros; exact fr_none
  | succ fu ih => intros; exact fr_Rd_next_224b (a := a) h0  ih
theorem fr_Rd_next_211 {P : Nat → Prop} {a : Nat} {s0 : Int32} {μ : Mu} (h0 : P (a))  : Fr P μ (Rd_next_211 a s0 μ) := by
  unfold Rd_next_211
  refine fr_pF h0 (fun _ => ?_)
  exact fr_some
theorem fr_Rd_next_190 {P : Nat → Prop} {a : Nat} {μ : Mu} (h0 : P (a))  : Fr P μ (Rd_next_190 a μ) := by
  unfold Rd_next_190
  refine fr_gF (fun _ => ?_)
  refine fr_gF (fun _ => ?_)
  refine fr_ite ?_ ?_
  · skip
    exact fr_Rd_next_211 h0
  · skip
    exact fr_Rd_next_211 h0
theorem fr_Rd_next_127b {P : Nat → Prop} {a : Nat} {kb127 : Mu → Option (Unit × Mu)} {μ : Mu} (h0 : P (a)) (h_kb127 : ∀  (μ : Mu), Fr P μ (kb127  μ)) : Fr P μ (Rd_next_127b a kb127 μ) := by
  unfold Rd_next_127b
  refine fr_gF (fun _ => ?_)
  refine fr_gF (fun _ => ?_)
  refine fr_ite ?_ ?_
  · skip
    exact fr_Rd_next_190 h0
  · skip
    refine fr_gF (fun _ => ?_)
    refine fr_ldA (fun _ => ?_)
    refine fr_cl (fr_Rd_isDigit) (fun _ _ => ?_)
    refine fr_ite ?_ ?_
    · skip
      exact fr_Rd_next_190 h0
    · skip
      refine fr_gF (fun _ => ?_)
      refine fr_gF (fun _ => ?_)
      refine fr_ldA (fun _ => ?_)
      refine fr_pF h0 (fun _ => ?_)
      refine fr_gF (fun _ => ?_)
      refine fr_pF h0 (fun _ => ?_)
      exact h_kb127 _
theorem fr_Rd_next_127 {P : Nat → Prop} {a : Nat} (h0 : P (a))  : ∀ (fu : Nat)  (μ : Mu), Fr P μ (Rd_next_127 a fu  μ) := by
  intro fu
  induction fu with
  | zero => intros; exact fr_none
  | succ fu ih => intros; exact fr_Rd_next_127b (a := a) h0  ih
theorem fr_Rd_next_60 {P : Nat → Prop} {a : Nat} {μ : Mu} (h0 : P (a))  : Fr P μ (Rd_next_60 a μ) := by
  unfold Rd_next_60
  refine fr_gF (fun _ => ?_)
  refine fr_pF h0 (fun _ => ?_)
  refine fr_gF (fun _ => ?_)
  refine fr_gF (fun _ => ?_)
  refine fr_ite ?_ ?_
  · skip
    exact fr_Rd_next_86 h0
  · skip
    refine fr_gF (fun _ => ?_)
    refine fr_ite ?_ ?_
    · skip
      refine fr_gF (fun _ => ?_)
      refine fr_ldA (fun _ => ?_)
      refine fr_gF (fun _ => ?_)
      refine fr_pF h0 (fun _ => ?_)
      refine fr_cl (fr_Rd_isDigit) (fun _ _ => ?_)
      refine fr_ite ?_ ?_
      · skip
        refine fr_cl (fr_Rd_isLetter) (fun _ _ => ?_)
        refine fr_ite ?_ ?_
        · skip
          refine fr_cl (fr_Js_indexOf1) (fun _ _ => ?_)
          refine fr_ite ?_ ?_
          · skip
            exact fr_Rd_next_291 h0
          · skip
            exact fr_Rd_next_291 h0
        · skip
          exact fr_Rd_next_224 h0 _ _
      · skip
        refine fr_pF h0 (fun _ => ?_)
        exact fr_Rd_next_127 h0 _ _
    · skip
      exact fr_Rd_next_86 h0
theorem fr_Rd_next_47 {P : Nat → Prop} {a : Nat} {kb8 : Mu → Option (Unit × Mu)} {μ : Mu} (h0 : P (a)) (h_kb8 : ∀  (μ : Mu), Fr P μ (kb8  μ)) : Fr P μ (Rd_next_47 a kb8 μ) := by
  unfold Rd_next_47
  refine fr_gF (fun _ => ?_)
  refine fr_pF h0 (fun _ => ?_)
  exact h_kb8 _
theorem fr_Rd_next_8b {P : Nat → Prop} {a : Nat} {kb8 : Mu → Option (Unit × Mu)} {μ : Mu} (h0 : P (a)) (h_kb8 : ∀  (μ : Mu), Fr P μ (kb8  μ)) : Fr P μ (Rd_next_8b a kb8 μ) := by
  unfold Rd_next_8b
  refine fr_gF (fun _ => ?_)
  refine fr_gF (fun _ => ?_)
  refine fr_ite ?_ ?_
  · skip
    exact fr_Rd_next_60 h0
  · skip
    refine fr_gF (fun _ => ?_)
    refine fr_ldA (fun _ => ?_)
    refine fr_ite ?_ ?_
    · skip
      exact fr_Rd_next_47 h0 h_kb8
    · skip
      refine fr_gF (fun _ => ?_)
      refine fr_ldA (fun _ => ?_)
      refine fr_ite ?_ ?_
      · skip
        exact fr_Rd_next_47 h0 h_kb8
      · skip
        exact fr_Rd_next_60 h0
theorem fr_Rd_next_8 {P : Nat → Prop} {a : Nat} (h0 : P (a))  : ∀ (fu : Nat)  (μ : Mu), Fr P μ (Rd_next_8 a fu  μ) := by
  intro fu
  induction fu with
  | zero => intros; exact fr_none
  | succ fu ih => intros; exact fr_Rd_next_8b (a := a) h0  ih
theorem fr_Rd_next {P : Nat → Prop} {a : Nat} {μ : Mu} (h0 : P (a))  : Fr P μ (Rd_next a μ) := by
  unfold Rd_next
  refine fr_gF (fun _ => ?_)
  refine fr_pF h0 (fun _ => ?_)
  exact fr_Rd_next_8 h0 _ _
theorem fr_Rd_open {P : Nat → Prop} {a : Nat} {v1 : Int32} {μ : Mu} (h0 : P (a))  : Fr P μ (Rd_open a v1 μ) := by
  unfold Rd_open
  refine fr_pF h0 (fun _ => ?_)
  refine fr_gF (fun _ => ?_)
  refine fr_pF h0 (fun _ => ?_)
  refine fr_pF h0 (fun _ => ?_)
  refine fr_pF h0 (fun _ => ?_)
  refine fr_pF h0 (fun _ => ?_)
  refine fr_pF h0 (fun _ => ?_)
  refine fr_pF h0 (fun _ => ?_)
  refine fr_cl (fr_Rd_next h0) (fun _ _ => ?_)
  exact fr_some
theorem fr_Lw_clear {P : Nat → Prop} {a : Nat} {μ : Mu} (h0 : P (a))  : Fr P μ (Lw_clear a μ) := by
  unfold Lw_clear
  refine fr_pF h0 (fun _ => ?_)
  refine fr_pF h0 (fun _ => ?_)
  exact fr_some
theorem fr_Rd_fail_20 {P : Nat → Prop} {a : Nat} {μ : Mu} (h0 : P (a))  : Fr P μ (Rd_fail_20 a μ) := by
  unfold Rd_fail_20
  refine fr_pF h0 (fun _ => ?_)
  exact fr_some
theorem fr_Rd_fail {P : Nat → Prop} {a : Nat} {v1 : Int32} {μ : Mu} (h0 : P (a))  : Fr P μ (Rd_fail a v1 μ) := by
  unfold Rd_fail
  refine fr_gF (fun _ => ?_)
  refine fr_ite ?_ ?_
  · skip
    refine fr_pF h0 (fun _ => ?_)
    refine fr_gF (fun _ => ?_)
    refine fr_pF h0 (fun _ => ?_)
    exact fr_Rd_fail_20 h0
  · skip
    exact fr_Rd_fail_20 h0
theorem fr_Rd_begins {P : Nat → Prop} {a : Nat} {v1 : Int32} {μ : Mu} (h0 : P (a))  : Fr P μ (Rd_begins a v1 μ) := by
  unfold Rd_begins
  refine fr_gF (fun _ => ?_)
  refine fr_ite ?_ ?_
  · skip
    exact fr_some
  · skip
    refine fr_gF (fun _ => ?_)
    refine fr_ite ?_ ?_
    · skip
      refine fr_gF (fun _ => ?_)
      refine fr_ite ?_ ?_
      · skip
        refine fr_cl (fr_Rd_next h0) (fun _ _ => ?_)
        exact fr_some
      · skip
        refine fr_cl (fr_Rd_fail h0) (fun _ _ => ?_)
        exact fr_some
    · skip
      refine fr_cl (fr_Rd_fail h0) (fun _ _ => ?_)
      exact fr_some
theorem fr_Lw_begin {P : Nat → Prop} {a : Nat} {v1 : Int32} {μ : Mu} (h0 : P (a + 1)) (h1 : P (a + 2))  : Fr P μ (Lw_begin a v1 μ) := by
  unfold Lw_begin
  refine fr_gF (fun _ => ?_)
  refine fr_ite ?_ ?_
  · skip
    exact fr_some
  · skip
    refine fr_gF (fun _ => ?_)
    refine fr_stA h0 (fun _ => ?_)
    refine fr_gF (fun _ => ?_)
    refine fr_gF (fun _ => ?_)
    refine fr_stA h1 (fun _ => ?_)
    exact fr_some
theorem fr_Lw_emit {P : Nat → Prop} {a : Nat} {v1 : Int32} {v2 : Int32} {μ : Mu} (h0 : P (a + 5)) (h1 : P (a))  : Fr P μ (Lw_emit a v1 v2 μ) := by
  unfold Lw_emit
  refine fr_gF (fun _ => ?_)
  refine fr_ite ?_ ?_
  · skip
    exact fr_some
  · skip
    refine fr_gF (fun _ => ?_)
    refine fr_stA h0 (fun _ => ?_)
    refine fr_gF (fun _ => ?_)
    refine fr_pF h1 (fun _ => ?_)
    exact fr_some
theorem fr_Rd_operand_59 {P : Nat → Prop} {a : Nat} {μ : Mu} (h0 : P (a))  : Fr P μ (Rd_operand_59 a μ) := by
  unfold Rd_operand_59
  refine fr_cl (fr_Rd_fail h0) (fun _ _ => ?_)
  exact fr_some
theorem fr_Rd_operand {P : Nat → Prop} {a : Nat} {μ : Mu} (h0 : P (a + 2 + 5)) (h1 : P (a + 2)) (h2 : P (a))  : Fr P μ (Rd_operand a μ) := by
  unfold Rd_operand
  refine fr_gF (fun _ => ?_)
  refine fr_ite ?_ ?_
  · skip
    refine fr_gF (fun _ => ?_)
    refine fr_cl (fr_Lw_emit h0 h1) (fun _ _ => ?_)
    refine fr_cl (fr_Rd_next h2) (fun _ _ => ?_)
    exact fr_some
  · skip
    refine fr_ite ?_ ?_
    · skip
      exact fr_Rd_operand_59 h2
    · skip
      refine fr_ite ?_ ?_
      · skip
        exact fr_Rd_operand_59 h2
      · skip
        refine fr_cl (fr_Lw_emit h0 h1) (fun _ _ => ?_)
        refine fr_cl (fr_Rd_next h2) (fun _ _ => ?_)
        exact fr_some
theorem fr_Rd_number_40 {P : Nat → Prop} {a : Nat} {μ : Mu} (h0 : P (a))  : Fr P μ (Rd_number_40 a μ) := by
  unfold Rd_number_40
  refine fr_cl (fr_Rd_fail h0) (fun _ _ => ?_)
  exact fr_some
theorem fr_Rd_number {P : Nat → Prop} {a : Nat} {v1 : Int32} {v2 : Int32} {v3 : Int32} {μ : Mu} (h0 : P (a))  : Fr P μ (Rd_number a v1 v2 v3 μ) := by
  unfold Rd_number
  refine fr_gF (fun _ => ?_)
  refine fr_ite ?_ ?_
  · skip
    refine fr_gF (fun _ => ?_)
    refine fr_ite ?_ ?_
    · skip
      exact fr_Rd_number_40 h0
    · skip
      refine fr_gF (fun _ => ?_)
      refine fr_ite ?_ ?_
      · skip
        exact fr_Rd_number_40 h0
      · skip
        refine fr_gF (fun _ => ?_)
        refine fr_ite ?_ ?_
        · skip
          exact fr_Rd_number_40 h0
        · skip
          refine fr_gF (fun _ => ?_)
          refine fr_cl (fr_Rd_next h0) (fun _ _ => ?_)
          exact fr_some
  · skip
    refine fr_cl (fr_Rd_fail h0) (fun _ _ => ?_)
    exact fr_some
theorem fr_Rd_sum_118 {P : Nat → Prop} {a : Nat} {v1 : Int32} {μ : Mu} (h0 : P (a + 2 + 5)) (h1 : P (a + 2))  : Fr P μ (Rd_sum_118 a v1 μ) := by
  unfold Rd_sum_118
  refine fr_ite ?_ ?_
  · skip
    exact fr_some
  · skip
    refine fr_cl (fr_Lw_emit h0 h1) (fun _ _ => ?_)
    exact fr_some
theorem fr_Rd_sum_112 {P : Nat → Prop} {a : Nat} {kb8 : Int32 → Int32 → Mu → Option (Unit × Mu)} {v1 : Int32} {v2 : Int32} {μ : Mu}  (h_kb8 : ∀ (w0 : Int32) (w1 : Int32) (μ : Mu), Fr P μ (kb8 w0 w1 μ)) : Fr P μ (Rd_sum_112 a kb8 v1 v2 μ) := by
  unfold Rd_sum_112
  exact h_kb8 _ _ _
theorem fr_Rd_sum_106 {P : Nat → Prop} {a : Nat} {kb8 : Int32 → Int32 → Mu → Option (Unit × Mu)} {v2 : Int32} {v3 : Int32} {μ : Mu} (h0 : P (a + 2 + 5)) (h1 : P (a + 2)) (h2 : P (a)) (h_kb8 : ∀ (w0 : Int32) (w1 : Int32) (μ : Mu), Fr P μ (kb8 w0 w1 μ)) : Fr P μ (Rd_sum_106 a kb8 v2 v3 μ) := by
  unfold Rd_sum_106
  refine fr_cl (fr_Rd_operand h0 h1 h2) (fun _ _ => ?_)
  exact fr_Rd_sum_112  h_kb8
theorem fr_Rd_sum_88 {P : Nat → Prop} {a : Nat} {kb8 : Int32 → Int32 → Mu → Option (Unit × Mu)} {v1 : Int32} {v2 : Int32} {v3 : Int32} {μ : Mu} (h0 : P (a)) (h1 : P (a + 2 + 5)) (h2 : P (a + 2)) (h_kb8 : ∀ (w0 : Int32) (w1 : Int32) (μ : Mu), Fr P μ (kb8 w0 w1 μ)) : Fr P μ (Rd_sum_88 a kb8 v1 v2 v3 μ) := by
  unfold Rd_sum_88
  refine fr_cl (fr_Rd_next h0) (fun _ _ => ?_)
  refine fr_ite ?_ ?_
  · skip
    exact fr_Rd_sum_106 h1 h2 h0 h_kb8
  · skip
    refine fr_cl (fr_Lw_emit h1 h2) (fun _ _ => ?_)
    exact fr_Rd_sum_106 h1 h2 h0 h_kb8
theorem fr_Rd_sum_8b {P : Nat → Prop} {a : Nat} {kb8 : Int32 → Int32 → Mu → Option (Unit × Mu)} {v1 : Int32} {v2 : Int32} {μ : Mu} (h0 : P (a + 2 + 5)) (h1 : P (a + 2)) (h2 : P (a)) (h_kb8 : ∀ (w0 : Int32) (w1 : Int32) (μ : Mu), Fr P μ (kb8 w0 w1 μ)) : Fr P μ (Rd_sum_8b a kb8 v1 v2 μ) := by
  unfold Rd_sum_8b
  refine fr_ite ?_ ?_
  · skip
    exact fr_Rd_sum_118 h0 h1
  · skip
    refine fr_gF (fun _ => ?_)
    refine fr_ite ?_ ?_
    · skip
      refine fr_cl (fr_Rd_next h2) (fun _ _ => ?_)
      refine fr_cl (fr_Rd_operand h0 h1 h2) (fun _ _ => ?_)
      refine fr_cl (fr_Lw_emit h0 h1) (fun _ _ => ?_)
      exact fr_Rd_sum_112  h_kb8
    · skip
      refine fr_ite ?_ ?_
      · skip
        refine fr_cl (fr_Rd_next h2) (fun _ _ => ?_)
        refine fr_cl (fr_Rd_number h2) (fun _ _ => ?_)
        refine fr_cl (fr_Lw_emit h0 h1) (fun _ _ => ?_)
        exact fr_Rd_sum_112  h_kb8
      · skip
        refine fr_ite ?_ ?_
        · skip
          exact fr_Rd_sum_88 h2 h0 h1 h_kb8
        · skip
          refine fr_ite ?_ ?_
          · skip
            exact fr_Rd_sum_88 h2 h0 h1 h_kb8
          · skip
            exact fr_Rd_sum_118 h0 h1
theorem fr_Rd_sum_8 {P : Nat → Prop} {a : Nat} (h0 : P (a + 2 + 5)) (h1 : P (a + 2)) (h2 : P (a))  : ∀ (fu : Nat) (w0 : Int32) (w1 : Int32) (μ : Mu), Fr P μ (Rd_sum_8 a fu w0 w1 μ) := by
  intro fu
  induction fu with
  | zero => intros; exact fr_none
  | succ fu ih => intros; exact fr_Rd_sum_8b (a := a) h0 h1 h2  ih
theorem fr_Rd_sum {P : Nat → Prop} {a : Nat} {μ : Mu} (h0 : P (a + 2 + 5)) (h1 : P (a + 2)) (h2 : P (a))  : Fr P μ (Rd_sum a μ) := by
  unfold Rd_sum
  refine fr_cl (fr_Rd_operand h0 h1 h2) (fun _ _ => ?_)
  exact fr_Rd_sum_8 h0 h1 h2 _ _ _ _
theorem fr_Lw_sumEnds {P : Nat → Prop} {a : Nat} {μ : Mu} (h0 : P (a + 3))  : Fr P μ (Lw_sumEnds a μ) := by
  unfold Lw_sumEnds
  refine fr_gF (fun _ => ?_)
  refine fr_ite ?_ ?_
  · skip
    exact fr_some
  · skip
    refine fr_gF (fun _ => ?_)
    refine fr_gF (fun _ => ?_)
    refine fr_stA h0 (fun _ => ?_)
    exact fr_some
theorem fr_Rd_take {P : Nat → Prop} {a : Nat} {v1 : Int32} {μ : Mu} (h0 : P (a))  : Fr P μ (Rd_take a v1 μ) := by
  unfold Rd_take
  refine fr_gF (fun _ => ?_)
  refine fr_ite ?_ ?_
  · skip
    refine fr_cl (fr_Rd_next h0) (fun _ _ => ?_)
    exact fr_some
  · skip
    refine fr_cl (fr_Rd_fail h0) (fun _ _ => ?_)
    exact fr_some
theorem fr_Rd_comparisonB_72 {P : Nat → Prop} {a : Nat} {kr_comparison : Int32 → Mu → Option (Unit × Mu)} {kr_condition : Int32 → Mu → Option (Unit × Mu)} {v1 : Int32} {v2 : Int32} {μ : Mu} (h0 : P (a)) (h1 : P (a + 2 + 5)) (h2 : P (a + 2)) (h_kr_comparison : ∀ (w0 : Int32) (μ : Mu), Fr P μ (kr_comparison w0 μ)) (h_kr_condition : ∀ (w0 : Int32) (μ : Mu), Fr P μ (kr_condition w0 μ)) : Fr P μ (Rd_comparisonB_72 a kr_comparison kr_condition v1 v2 μ) := by
  unfold Rd_comparisonB_72
  refine fr_ite ?_ ?_
  · skip
    refine fr_ite ?_ ?_
    · skip
      refine fr_cl (fr_Rd_next h0) (fun _ _ => ?_)
      refine fr_cl (h_kr_comparison _ _) (fun _ _ => ?_)
      refine fr_cl (fr_Lw_emit h1 h2) (fun _ _ => ?_)
      exact fr_some
    · skip
      refine fr_cl (fr_Rd_next h0) (fun _ _ => ?_)
      refine fr_cl (h_kr_condition _ _) (fun _ _ => ?_)
      refine fr_cl (fr_Rd_take h0) (fun _ _ => ?_)
      exact fr_some
  · skip
    refine fr_cl (fr_Rd_fail h0) (fun _ _ => ?_)
    exact fr_some
theorem fr_Rd_comparisonB_44 {P : Nat → Prop} {a : Nat} {kr_comparison : Int32 → Mu → Option (Unit × Mu)} {kr_condition : Int32 → Mu → Option (Unit × Mu)} {v2 : Int32} {μ : Mu} (h0 : P (a)) (h1 : P (a + 2 + 5)) (h2 : P (a + 2)) (h_kr_comparison : ∀ (w0 : Int32) (μ : Mu), Fr P μ (kr_comparison w0 μ)) (h_kr_condition : ∀ (w0 : Int32) (μ : Mu), Fr P μ (kr_condition w0 μ)) : Fr P μ (Rd_comparisonB_44 a kr_comparison kr_condition v2 μ) := by
  unfold Rd_comparisonB_44
  refine fr_cl (fr_Rd_next h0) (fun _ _ => ?_)
  refine fr_cl (fr_Rd_sum h1 h2 h0) (fun _ _ => ?_)
  refine fr_cl (fr_Lw_emit h1 h2) (fun _ _ => ?_)
  exact fr_some
theorem fr_Rd_comparisonB {P : Nat → Prop} {a : Nat} {kr_comparison : Int32 → Mu → Option (Unit × Mu)} {kr_condition : Int32 → Mu → Option (Unit × Mu)} {v1 : Int32} {μ : Mu} (h0 : P (a)) (h1 : P (a + 2 + 5)) (h2 : P (a + 2)) (h_kr_comparison : ∀ (w0 : Int32) (μ : Mu), Fr P μ (kr_comparison w0 μ)) (h_kr_condition : ∀ (w0 : Int32) (μ : Mu), Fr P μ (kr_condition w0 μ)) : Fr P μ (Rd_comparisonB a kr_comparison kr_condition v1 μ) := by
  unfold Rd_comparisonB
  refine fr_gF (fun _ => ?_)
  refine fr_ite ?_ ?_
  · skip
    exact fr_Rd_comparisonB_72 h0 h1 h2 h_kr_comparison h_kr_condition
  · skip
    refine fr_ite ?_ ?_
    · skip
      exact fr_Rd_comparisonB_72 h0 h1 h2 h_kr_comparison h_kr_condition
    · skip
      refine fr_cl (fr_Rd_sum h1 h2 h0) (fun _ _ => ?_)
      refine fr_gF (fun _ => ?_)
      refine fr_ite ?_ ?_
      · skip
        exact fr_Rd_comparisonB_44 h0 h1 h2 h_kr_comparison h_kr_condition
      · skip
        refine fr_ite ?_ ?_
        · skip
          exact fr_Rd_comparisonB_44 h0 h1 h2 h_kr_comparison h_kr_condition
        · skip
          refine fr_ite ?_ ?_
          · skip
            exact fr_Rd_comparisonB_44 h0 h1 h2 h_kr_comparison h_kr_condition
          · skip
            refine fr_cl (fr_Rd_fail h0) (fun _ _ => ?_)
            exact fr_some
theorem fr_Rd_conditionB_112 {P : Nat → Prop} {a : Nat} {kr_comparison : Int32 → Mu → Option (Unit × Mu)} {kr_condition : Int32 → Mu → Option (Unit × Mu)} {v2 : Int32} {μ : Mu} (h0 : P (a + 2 + 5)) (h1 : P (a + 2)) (h_kr_comparison : ∀ (w0 : Int32) (μ : Mu), Fr P μ (kr_comparison w0 μ)) (h_kr_condition : ∀ (w0 : Int32) (μ : Mu), Fr P μ (kr_condition w0 μ)) : Fr P μ (Rd_conditionB_112 a kr_comparison kr_condition v2 μ) := by
  unfold Rd_conditionB_112
  refine fr_ite ?_ ?_
  · skip
    exact fr_some
  · skip
    refine fr_cl (fr_Lw_emit h0 h1) (fun _ _ => ?_)
    exact fr_some
theorem fr_Rd_conditionB_106 {P : Nat → Prop} {a : Nat} {kr_comparison : Int32 → Mu → Option (Unit × Mu)} {kr_condition : Int32 → Mu → Option (Unit × Mu)} {kb9 : Int32 → Int32 → Mu → Option (Unit × Mu)} {v1 : Int32} {v2 : Int32} {v3 : Int32} {μ : Mu}  (h_kr_comparison : ∀ (w0 : Int32) (μ : Mu), Fr P μ (kr_comparison w0 μ)) (h_kr_condition : ∀ (w0 : Int32) (μ : Mu), Fr P μ (kr_condition w0 μ)) (h_kb9 : ∀ (w0 : Int32) (w1 : Int32) (μ : Mu), Fr P μ (kb9 w0 w1 μ)) : Fr P μ (Rd_conditionB_106 a kr_comparison kr_condition kb9 v1 v2 v3 μ) := by
  unfold Rd_conditionB_106
  exact h_kb9 _ _ _
theorem fr_Rd_conditionB_85 {P : Nat → Prop} {a : Nat} {kr_comparison : Int32 → Mu → Option (Unit × Mu)} {kr_condition : Int32 → Mu → Option (Unit × Mu)} {kb9 : Int32 → Int32 → Mu → Option (Unit × Mu)} {v1 : Int32} {v3 : Int32} {v4 : Int32} {s0 : Int32} {μ : Mu} (h0 : P (a + 2 + 5)) (h1 : P (a + 2)) (h_kr_comparison : ∀ (w0 : Int32) (μ : Mu), Fr P μ (kr_comparison w0 μ)) (h_kr_condition : ∀ (w0 : Int32) (μ : Mu), Fr P μ (kr_condition w0 μ)) (h_kb9 : ∀ (w0 : Int32) (w1 : Int32) (μ : Mu), Fr P μ (kb9 w0 w1 μ)) : Fr P μ (Rd_conditionB_85 a kr_comparison kr_condition kb9 v1 v3 v4 s0 μ) := by
  unfold Rd_conditionB_85
  refine fr_cl (h_kr_comparison _ _) (fun _ _ => ?_)
  refine fr_ite ?_ ?_
  · skip
    exact fr_Rd_conditionB_106  h_kr_comparison h_kr_condition h_kb9
  · skip
    refine fr_cl (fr_Lw_emit h0 h1) (fun _ _ => ?_)
    exact fr_Rd_conditionB_106  h_kr_comparison h_kr_condition h_kb9
theorem fr_Rd_conditionB_80 {P : Nat → Prop} {a : Nat} {kr_comparison : Int32 → Mu → Option (Unit × Mu)} {kr_condition : Int32 → Mu → Option (Unit × Mu)} {kb9 : Int32 → Int32 → Mu → Option (Unit × Mu)} {v1 : Int32} {v3 : Int32} {v4 : Int32} {μ : Mu} (h0 : P (a + 2 + 5)) (h1 : P (a + 2)) (h_kr_comparison : ∀ (w0 : Int32) (μ : Mu), Fr P μ (kr_comparison w0 μ)) (h_kr_condition : ∀ (w0 : Int32) (μ : Mu), Fr P μ (kr_condition w0 μ)) (h_kb9 : ∀ (w0 : Int32) (w1 : Int32) (μ : Mu), Fr P μ (kb9 w0 w1 μ)) : Fr P μ (Rd_conditionB_80 a kr_comparison kr_condition kb9 v1 v3 v4 μ) := by
  unfold Rd_conditionB_80
  exact fr_Rd_conditionB_85 h0 h1 h_kr_comparison h_kr_condition h_kb9
theorem fr_Rd_conditionB_71 {P : Nat → Prop} {a : Nat} {kr_comparison : Int32 → Mu → Option (Unit × Mu)} {kr_condition : Int32 → Mu → Option (Unit × Mu)} {kb9 : Int32 → Int32 → Mu → Option (Unit × Mu)} {v1 : Int32} {v2 : Int32} {v3 : Int32} {v4 : Int32} {μ : Mu} (h0 : P (a + 2 + 5)) (h1 : P (a + 2)) (h_kr_comparison : ∀ (w0 : Int32) (μ : Mu), Fr P μ (kr_comparison w0 μ)) (h_kr_condition : ∀ (w0 : Int32) (μ : Mu), Fr P μ (kr_condition w0 μ)) (h_kb9 : ∀ (w0 : Int32) (w1 : Int32) (μ : Mu), Fr P μ (kb9 w0 w1 μ)) : Fr P μ (Rd_conditionB_71 a kr_comparison kr_condition kb9 v1 v2 v3 v4 μ) := by
  unfold Rd_conditionB_71
  refine fr_ite ?_ ?_
  · skip
    refine fr_ite ?_ ?_
    · skip
      exact fr_Rd_conditionB_80 h0 h1 h_kr_comparison h_kr_condition h_kb9
    · skip
      exact fr_Rd_conditionB_85 h0 h1 h_kr_comparison h_kr_condition h_kb9
  · skip
    exact fr_Rd_conditionB_80 h0 h1 h_kr_comparison h_kr_condition h_kb9
theorem fr_Rd_conditionB_47 {P : Nat → Prop} {a : Nat} {kr_comparison : Int32 → Mu → Option (Unit × Mu)} {kr_condition : Int32 → Mu → Option (Unit × Mu)} {kb9 : Int32 → Int32 → Mu → Option (Unit × Mu)} {v1 : Int32} {v2 : Int32} {v3 : Int32} {s0 : Int32} {μ : Mu} (h0 : P (a)) (h1 : P (a + 2 + 5)) (h2 : P (a + 2)) (h_kr_comparison : ∀ (w0 : Int32) (μ : Mu), Fr P μ (kr_comparison w0 μ)) (h_kr_condition : ∀ (w0 : Int32) (μ : Mu), Fr P μ (kr_condition w0 μ)) (h_kb9 : ∀ (w0 : Int32) (w1 : Int32) (μ : Mu), Fr P μ (kb9 w0 w1 μ)) : Fr P μ (Rd_conditionB_47 a kr_comparison kr_condition kb9 v1 v2 v3 s0 μ) := by
  unfold Rd_conditionB_47
  refine fr_cl (fr_Rd_next h0) (fun _ _ => ?_)
  refine fr_ite ?_ ?_
  · skip
    refine fr_ite ?_ ?_
    · skip
      exact fr_Rd_conditionB_71 h1 h2 h_kr_comparison h_kr_condition h_kb9
    · skip
      refine fr_cl (fr_Lw_emit h1 h2) (fun _ _ => ?_)
      exact fr_Rd_conditionB_71 h1 h2 h_kr_comparison h_kr_condition h_kb9
  · skip
    exact fr_Rd_conditionB_71 h1 h2 h_kr_comparison h_kr_condition h_kb9
theorem fr_Rd_conditionB_33 {P : Nat → Prop} {a : Nat} {kr_comparison : Int32 → Mu → Option (Unit × Mu)} {kr_condition : Int32 → Mu → Option (Unit × Mu)} {kb9 : Int32 → Int32 → Mu → Option (Unit × Mu)} {v1 : Int32} {v2 : Int32} {v3 : Int32} {μ : Mu} (h0 : P (a)) (h1 : P (a + 2 + 5)) (h2 : P (a + 2)) (h_kr_comparison : ∀ (w0 : Int32) (μ : Mu), Fr P μ (kr_comparison w0 μ)) (h_kr_condition : ∀ (w0 : Int32) (μ : Mu), Fr P μ (kr_condition w0 μ)) (h_kb9 : ∀ (w0 : Int32) (w1 : Int32) (μ : Mu), Fr P μ (kb9 w0 w1 μ)) : Fr P μ (Rd_conditionB_33 a kr_comparison kr_condition kb9 v1 v2 v3 μ) := by
  unfold Rd_conditionB_33
  refine fr_gF (fun _ => ?_)
  refine fr_ite ?_ ?_
  · skip
    exact fr_Rd_conditionB_47 h0 h1 h2 h_kr_comparison h_kr_condition h_kb9
  · skip
    exact fr_Rd_conditionB_47 h0 h1 h2 h_kr_comparison h_kr_condition h_kb9
theorem fr_Rd_conditionB_9b {P : Nat → Prop} {a : Nat} {kr_comparison : Int32 → Mu → Option (Unit × Mu)} {kr_condition : Int32 → Mu → Option (Unit × Mu)} {kb9 : Int32 → Int32 → Mu → Option (Unit × Mu)} {v1 : Int32} {v2 : Int32} {v3 : Int32} {μ : Mu} (h0 : P (a + 2 + 5)) (h1 : P (a + 2)) (h2 : P (a)) (h_kr_comparison : ∀ (w0 : Int32) (μ : Mu), Fr P μ (kr_comparison w0 μ)) (h_kr_condition : ∀ (w0 : Int32) (μ : Mu), Fr P μ (kr_condition w0 μ)) (h_kb9 : ∀ (w0 : Int32) (w1 : Int32) (μ : Mu), Fr P μ (kb9 w0 w1 μ)) : Fr P μ (Rd_conditionB_9b a kr_comparison kr_condition kb9 v1 v2 v3 μ) := by
  unfold Rd_conditionB_9b
  refine fr_ite ?_ ?_
  · skip
    exact fr_Rd_conditionB_112 h0 h1 h_kr_comparison h_kr_condition
  · skip
    refine fr_gF (fun _ => ?_)
    refine fr_ite ?_ ?_
    · skip
      exact fr_Rd_conditionB_33 h2 h0 h1 h_kr_comparison h_kr_condition h_kb9
    · skip
      refine fr_gF (fun _ => ?_)
      refine fr_ite ?_ ?_
      · skip
        exact fr_Rd_conditionB_33 h2 h0 h1 h_kr_comparison h_kr_condition h_kb9
      · skip
        exact fr_Rd_conditionB_112 h0 h1 h_kr_comparison h_kr_condition
theorem fr_Rd_conditionB_9 {P : Nat → Prop} {a : Nat} {kr_comparison : Int32 → Mu → Option (Unit × Mu)} {kr_condition : Int32 → Mu → Option (Unit × Mu)} {v1 : Int32} (h0 : P (a + 2 + 5)) (h1 : P (a + 2)) (h2 : P (a)) (h_kr_comparison : ∀ (w0 : Int32) (μ : Mu), Fr P μ (kr_comparison w0 μ)) (h_kr_condition : ∀ (w0 : Int32) (μ : Mu), Fr P μ (kr_condition w0 μ)) : ∀ (fu : Nat) (w0 : Int32) (w1 : Int32) (μ : Mu), Fr P μ (Rd_conditionB_9 a kr_comparison kr_condition v1 fu w0 w1 μ) := by
  intro fu
  induction fu with
  | zero => intros; exact fr_none
  | succ fu ih => intros; exact fr_Rd_conditionB_9b (a := a) (kr_comparison := kr_comparison) (kr_condition := kr_condition) (v1 := v1) h0 h1 h2 h_kr_comparison h_kr_condition ih
theorem fr_Rd_conditionB {P : Nat → Prop} {a : Nat} {kr_comparison : Int32 → Mu → Option (Unit × Mu)} {kr_condition : Int32 → Mu → Option (Unit × Mu)} {v1 : Int32} {μ : Mu} (h0 : P (a + 2 + 5)) (h1 : P (a + 2)) (h2 : P (a)) (h_kr_comparison : ∀ (w0 : Int32) (μ : Mu), Fr P μ (kr_comparison w0 μ)) (h_kr_condition : ∀ (w0 : Int32) (μ : Mu), Fr P μ (kr_condition w0 μ)) : Fr P μ (Rd_conditionB a kr_comparison kr_condition v1 μ) := by
  unfold Rd_conditionB
  refine fr_cl (h_kr_comparison _ _) (fun _ _ => ?_)
  exact fr_Rd_conditionB_9 h0 h1 h2 h_kr_comparison h_kr_condition _ _ _ _
theorem fr_Rd_cc {P : Nat → Prop} {a : Nat} (h0 : P (a)) (h1 : P (a + 2 + 5)) (h2 : P (a + 2)) : ∀ n : Nat, (∀ (v : Int32) (μ : Mu), Fr P μ (Rd_cc a n true v μ)) ∧ (∀ (v : Int32) (μ : Mu), Fr P μ (Rd_cc a n false v μ)) := by
  intro n
  induction n with
  | zero => exact ⟨fun v μ => fr_none, fun v μ => fr_none⟩
  | succ n ih => exact ⟨fun v μ => fr_Rd_comparisonB h0 h1 h2 ih.1 ih.2, fun v μ => fr_Rd_conditionB h1 h2 h0 ih.1 ih.2⟩
theorem fr_Rd_condition {P : Nat → Prop} {a : Nat} {v1 : Int32} {μ : Mu} (h0 : P (a)) (h1 : P (a + 2 + 5)) (h2 : P (a + 2))  : Fr P μ (Rd_condition a v1 μ) := by
  unfold Rd_condition
  exact (fr_Rd_cc h0 h1 h2 60).2 _ _
theorem fr_Lw_lineEnds {P : Nat → Prop} {a : Nat} {μ : Mu} (h0 : P (a + 4)) (h1 : P (a))  : Fr P μ (Lw_lineEnds a μ) := by
  unfold Lw_lineEnds
  refine fr_gF (fun _ => ?_)
  refine fr_ite ?_ ?_
  · skip
    exact fr_some
  · skip
    refine fr_gF (fun _ => ?_)
    refine fr_gF (fun _ => ?_)
    refine fr_stA h0 (fun _ => ?_)
    refine fr_gF (fun _ => ?_)
    refine fr_pF h1 (fun _ => ?_)
    exact fr_some
theorem fr_Rd_ends {P : Nat → Prop} {a : Nat} {v1 : Int32} {v2 : Int32} {v3 : Int32} {v4 : Int32} {μ : Mu} (h0 : P (a)) (h1 : P (a + 9))  : Fr P μ (Rd_ends a v1 v2 v3 v4 μ) := by
  unfold Rd_ends
  refine fr_cl (fr_Rd_take h0) (fun _ _ => ?_)
  refine fr_gF (fun _ => ?_)
  refine fr_ite ?_ ?_
  · skip
    refine fr_gF (fun _ => ?_)
    refine fr_ite ?_ ?_
    · skip
      exact fr_some
    · skip
      refine fr_gF (fun _ => ?_)
      refine fr_ite ?_ ?_
      · skip
        refine fr_gF (fun _ => ?_)
        refine fr_stA h1 (fun _ => ?_)
        refine fr_stA h1 (fun _ => ?_)
        refine fr_stA h1 (fun _ => ?_)
        refine fr_stA h1 (fun _ => ?_)
        refine fr_gF (fun _ => ?_)
        refine fr_pF h0 (fun _ => ?_)
        exact fr_some
      · skip
        exact fr_some
  · skip
    exact fr_some
theorem fr_Rd_readLaw_94 {P : Nat → Prop} {a : Nat} {kb9 : Int32 → Mu → Option (Unit × Mu)} {v1 : Int32} {μ : Mu} (h0 : P (a + 2 + 4)) (h1 : P (a + 2)) (h2 : P (a)) (h3 : P (a + 9)) (h_kb9 : ∀ (w0 : Int32) (μ : Mu), Fr P μ (kb9 w0 μ)) : Fr P μ (Rd_readLaw_94 a kb9 v1 μ) := by
  unfold Rd_readLaw_94
  refine fr_cl (fr_Lw_lineEnds h0 h1) (fun _ _ => ?_)
  refine fr_cl (fr_Rd_ends h2 h3) (fun _ _ => ?_)
  exact h_kb9 _ _
theorem fr_Rd_readLaw_51 {P : Nat → Prop} {a : Nat} {kb9 : Int32 → Mu → Option (Unit × Mu)} {v1 : Int32} {v2 : Int32} {s0 : Int32} {μ : Mu} (h0 : P (a)) (h1 : P (a + 2 + 1)) (h2 : P (a + 2 + 2)) (h3 : P (a + 2 + 5)) (h4 : P (a + 2)) (h5 : P (a + 2 + 3)) (h6 : P (a + 2 + 4)) (h7 : P (a + 9)) (h_kb9 : ∀ (w0 : Int32) (μ : Mu), Fr P μ (kb9 w0 μ)) : Fr P μ (Rd_readLaw_51 a kb9 v1 v2 s0 μ) := by
  unfold Rd_readLaw_51
  refine fr_cl (fr_Rd_begins h0) (fun _ _ => ?_)
  refine fr_ite ?_ ?_
  · skip
    exact fr_some
  · skip
    refine fr_cl (fr_Lw_begin h1 h2) (fun _ _ => ?_)
    refine fr_cl (fr_Rd_sum h3 h4 h0) (fun _ _ => ?_)
    refine fr_cl (fr_Lw_sumEnds h5) (fun _ _ => ?_)
    refine fr_gF (fun _ => ?_)
    refine fr_ite ?_ ?_
    · skip
      refine fr_cl (fr_Rd_next h0) (fun _ _ => ?_)
      refine fr_cl (fr_Rd_condition h0 h3 h4) (fun _ _ => ?_)
      exact fr_Rd_readLaw_94 h6 h4 h0 h7 h_kb9
    · skip
      exact fr_Rd_readLaw_94 h6 h4 h0 h7 h_kb9
theorem fr_Rd_readLaw_40 {P : Nat → Prop} {a : Nat} {kb9 : Int32 → Mu → Option (Unit × Mu)} {v1 : Int32} {v2 : Int32} {s0 : Int32} {μ : Mu} (h0 : P (a)) (h1 : P (a + 2 + 1)) (h2 : P (a + 2 + 2)) (h3 : P (a + 2 + 5)) (h4 : P (a + 2)) (h5 : P (a + 2 + 3)) (h6 : P (a + 2 + 4)) (h7 : P (a + 9)) (h_kb9 : ∀ (w0 : Int32) (μ : Mu), Fr P μ (kb9 w0 μ)) : Fr P μ (Rd_readLaw_40 a kb9 v1 v2 s0 μ) := by
  unfold Rd_readLaw_40
  refine fr_ite ?_ ?_
  · skip
    exact fr_Rd_readLaw_51 h0 h1 h2 h3 h4 h5 h6 h7 h_kb9
  · skip
    exact fr_Rd_readLaw_51 h0 h1 h2 h3 h4 h5 h6 h7 h_kb9
theorem fr_Rd_readLaw_35 {P : Nat → Prop} {a : Nat} {kb9 : Int32 → Mu → Option (Unit × Mu)} {v1 : Int32} {v2 : Int32} {μ : Mu} (h0 : P (a)) (h1 : P (a + 2 + 1)) (h2 : P (a + 2 + 2)) (h3 : P (a + 2 + 5)) (h4 : P (a + 2)) (h5 : P (a + 2 + 3)) (h6 : P (a + 2 + 4)) (h7 : P (a + 9)) (h_kb9 : ∀ (w0 : Int32) (μ : Mu), Fr P μ (kb9 w0 μ)) : Fr P μ (Rd_readLaw_35 a kb9 v1 v2 μ) := by
  unfold Rd_readLaw_35
  exact fr_Rd_readLaw_40 h0 h1 h2 h3 h4 h5 h6 h7 h_kb9
theorem fr_Rd_readLaw_9b {P : Nat → Prop} {a : Nat} {kb9 : Int32 → Mu → Option (Unit × Mu)} {v1 : Int32} {μ : Mu} (h0 : P (a)) (h1 : P (a + 2 + 1)) (h2 : P (a + 2 + 2)) (h3 : P (a + 2 + 5)) (h4 : P (a + 2)) (h5 : P (a + 2 + 3)) (h6 : P (a + 2 + 4)) (h7 : P (a + 9)) (h_kb9 : ∀ (w0 : Int32) (μ : Mu), Fr P μ (kb9 w0 μ)) : Fr P μ (Rd_readLaw_9b a kb9 v1 μ) := by
  unfold Rd_readLaw_9b
  refine fr_ite ?_ ?_
  · skip
    exact fr_some
  · skip
    refine fr_gF (fun _ => ?_)
    refine fr_ite ?_ ?_
    · skip
      exact fr_Rd_readLaw_35 h0 h1 h2 h3 h4 h5 h6 h7 h_kb9
    · skip
      refine fr_ite ?_ ?_
      · skip
        exact fr_Rd_readLaw_35 h0 h1 h2 h3 h4 h5 h6 h7 h_kb9
      · skip
        refine fr_ite ?_ ?_
        · skip
          exact fr_Rd_readLaw_35 h0 h1 h2 h3 h4 h5 h6 h7 h_kb9
        · skip
          exact fr_Rd_readLaw_40 h0 h1 h2 h3 h4 h5 h6 h7 h_kb9
theorem fr_Rd_readLaw_9 {P : Nat → Prop} {a : Nat} (h0 : P (a)) (h1 : P (a + 2 + 1)) (h2 : P (a + 2 + 2)) (h3 : P (a + 2 + 5)) (h4 : P (a + 2)) (h5 : P (a + 2 + 3)) (h6 : P (a + 2 + 4)) (h7 : P (a + 9))  : ∀ (fu : Nat) (w0 : Int32) (μ : Mu), Fr P μ (Rd_readLaw_9 a fu w0 μ) := by
  intro fu
  induction fu with
  | zero => intros; exact fr_none
  | succ fu ih => intros; exact fr_Rd_readLaw_9b (a := a) h0 h1 h2 h3 h4 h5 h6 h7  ih
theorem fr_Rd_readLaw {P : Nat → Prop} {a : Nat} {μ : Mu} (h0 : P (a + 2)) (h1 : P (a)) (h2 : P (a + 2 + 1)) (h3 : P (a + 2 + 2)) (h4 : P (a + 2 + 5)) (h5 : P (a + 2 + 3)) (h6 : P (a + 2 + 4)) (h7 : P (a + 9))  : Fr P μ (Rd_readLaw a μ) := by
  unfold Rd_readLaw
  refine fr_cl (fr_Lw_clear h0) (fun _ _ => ?_)
  exact fr_Rd_readLaw_9 h1 h2 h3 h4 h0 h5 h6 h7 _ _ _
theorem fr_Rd_whom {P : Nat → Prop} {a : Nat} {v1 : Int32} {μ : Mu} (h0 : P (a))  : Fr P μ (Rd_whom a v1 μ) := by
  unfold Rd_whom
  refine fr_gF (fun _ => ?_)
  refine fr_cl (fr_Rd_number h0) (fun _ _ => ?_)
  exact fr_some
theorem fr_Rd_readTable_2b {P : Nat → Prop} {a : Nat} {kb2 : Int32 → Mu → Option (Unit × Mu)} {v1 : Int32} {μ : Mu} (h0 : P (a)) (h1 : P (a + 9)) (h_kb2 : ∀ (w0 : Int32) (μ : Mu), Fr P μ (kb2 w0 μ)) : Fr P μ (Rd_readTable_2b a kb2 v1 μ) := by
  unfold Rd_readTable_2b
  refine fr_ite ?_ ?_
  · skip
    exact fr_some
  · skip
    refine fr_cl (fr_Rd_begins h0) (fun _ _ => ?_)
    refine fr_ite ?_ ?_
    · skip
      exact fr_some
    · skip
      refine fr_cl (fr_Rd_number h0) (fun _ _ => ?_)
      refine fr_cl (fr_Rd_take h0) (fun _ _ => ?_)
      refine fr_cl (fr_Rd_whom h0) (fun _ _ => ?_)
      refine fr_cl (fr_Rd_ends h0 h1) (fun _ _ => ?_)
      exact h_kb2 _ _
theorem fr_Rd_readTable_2 {P : Nat → Prop} {a : Nat} (h0 : P (a)) (h1 : P (a + 9))  : ∀ (fu : Nat) (w0 : Int32) (μ : Mu), Fr P μ (Rd_readTable_2 a fu w0 μ) := by
  intro fu
  induction fu with
  | zero => intros; exact fr_none
  | succ fu ih => intros; exact fr_Rd_readTable_2b (a := a) h0 h1  ih
theorem fr_Rd_readTable {P : Nat → Prop} {a : Nat} {μ : Mu} (h0 : P (a)) (h1 : P (a + 9))  : Fr P μ (Rd_readTable a μ) := by
  unfold Rd_readTable
  exact fr_Rd_readTable_2 h0 h1 _ _ _
theorem fr_Rd_readWeather_141 {P : Nat → Prop} {a : Nat} {kb2 : Int32 → Mu → Option (Unit × Mu)} {v1 : Int32} {v2 : Int32} {v3 : Int32} {v4 : Int32} {v5 : Int32} {μ : Mu} (h0 : P (a)) (h1 : P (a + 9)) (h_kb2 : ∀ (w0 : Int32) (μ : Mu), Fr P μ (kb2 w0 μ)) : Fr P μ (Rd_readWeather_141 a kb2 v1 v2 v3 v4 v5 μ) := by
  unfold Rd_readWeather_141
  refine fr_cl (fr_Rd_ends h0 h1) (fun _ _ => ?_)
  exact h_kb2 _ _
theorem fr_Rd_readWeather_111 {P : Nat → Prop} {a : Nat} {kb2 : Int32 → Mu → Option (Unit × Mu)} {v1 : Int32} {v2 : Int32} {v3 : Int32} {v4 : Int32} {μ : Mu} (h0 : P (a)) (h1 : P (a + 9)) (h_kb2 : ∀ (w0 : Int32) (μ : Mu), Fr P μ (kb2 w0 μ)) : Fr P μ (Rd_readWeather_111 a kb2 v1 v2 v3 v4 μ) := by
  unfold Rd_readWeather_111
  refine fr_cl (fr_Rd_number h0) (fun _ _ => ?_)
  exact fr_Rd_readWeather_141 h0 h1 h_kb2
theorem fr_Rd_readWeather_99 {P : Nat → Prop} {a : Nat} {kb2 : Int32 → Mu → Option (Unit × Mu)} {v1 : Int32} {v2 : Int32} {v3 : Int32} {v4 : Int32} {v5 : Int32} {μ : Mu} (h0 : P (a)) (h1 : P (a + 9)) (h_kb2 : ∀ (w0 : Int32) (μ : Mu), Fr P μ (kb2 w0 μ)) : Fr P μ (Rd_readWeather_99 a kb2 v1 v2 v3 v4 v5 μ) := by
  unfold Rd_readWeather_99
  refine fr_ite ?_ ?_
  · skip
    exact fr_Rd_readWeather_111 h0 h1 h_kb2
  · skip
    refine fr_ite ?_ ?_
    · skip
      exact fr_Rd_readWeather_111 h0 h1 h_kb2
    · skip
      refine fr_ite ?_ ?_
      · skip
        refine fr_cl (fr_Rd_number h0) (fun _ _ => ?_)
        exact fr_Rd_readWeather_141 h0 h1 h_kb2
      · skip
        exact fr_Rd_readWeather_141 h0 h1 h_kb2
theorem fr_Rd_readWeather_92 {P : Nat → Prop} {a : Nat} {kb2 : Int32 → Mu → Option (Unit × Mu)} {v1 : Int32} {v2 : Int32} {v3 : Int32} {v5 : Int32} {μ : Mu} (h0 : P (a)) (h1 : P (a + 9)) (h_kb2 : ∀ (w0 : Int32) (μ : Mu), Fr P μ (kb2 w0 μ)) : Fr P μ (Rd_readWeather_92 a kb2 v1 v2 v3 v5 μ) := by
  unfold Rd_readWeather_92
  refine fr_cl (fr_Rd_whom h0) (fun _ _ => ?_)
  exact fr_Rd_readWeather_99 h0 h1 h_kb2
theorem fr_Rd_readWeather_80 {P : Nat → Prop} {a : Nat} {kb2 : Int32 → Mu → Option (Unit × Mu)} {v1 : Int32} {v2 : Int32} {v3 : Int32} {v4 : Int32} {v5 : Int32} {μ : Mu} (h0 : P (a)) (h1 : P (a + 9)) (h_kb2 : ∀ (w0 : Int32) (μ : Mu), Fr P μ (kb2 w0 μ)) : Fr P μ (Rd_readWeather_80 a kb2 v1 v2 v3 v4 v5 μ) := by
  unfold Rd_readWeather_80
  refine fr_ite ?_ ?_
  · skip
    exact fr_Rd_readWeather_92 h0 h1 h_kb2
  · skip
    refine fr_ite ?_ ?_
    · skip
      exact fr_Rd_readWeather_92 h0 h1 h_kb2
    · skip
      exact fr_Rd_readWeather_99 h0 h1 h_kb2
theorem fr_Rd_readWeather_68 {P : Nat → Prop} {a : Nat} {kb2 : Int32 → Mu → Option (Unit × Mu)} {v1 : Int32} {v2 : Int32} {v3 : Int32} {v4 : Int32} {v5 : Int32} {μ : Mu} (h0 : P (a)) (h1 : P (a + 9)) (h_kb2 : ∀ (w0 : Int32) (μ : Mu), Fr P μ (kb2 w0 μ)) : Fr P μ (Rd_readWeather_68 a kb2 v1 v2 v3 v4 v5 μ) := by
  unfold Rd_readWeather_68
  refine fr_cl (fr_Rd_next h0) (fun _ _ => ?_)
  exact fr_Rd_readWeather_80 h0 h1 h_kb2
theorem fr_Rd_readWeather_2b {P : Nat → Prop} {a : Nat} {kb2 : Int32 → Mu → Option (Unit × Mu)} {v1 : Int32} {μ : Mu} (h0 : P (a)) (h1 : P (a + 9)) (h_kb2 : ∀ (w0 : Int32) (μ : Mu), Fr P μ (kb2 w0 μ)) : Fr P μ (Rd_readWeather_2b a kb2 v1 μ) := by
  unfold Rd_readWeather_2b
  refine fr_ite ?_ ?_
  · skip
    exact fr_some
  · skip
    refine fr_cl (fr_Rd_begins h0) (fun _ _ => ?_)
    refine fr_ite ?_ ?_
    · skip
      exact fr_some
    · skip
      refine fr_cl (fr_Rd_number h0) (fun _ _ => ?_)
      refine fr_gF (fun _ => ?_)
      refine fr_ite ?_ ?_
      · skip
        exact fr_Rd_readWeather_68 h0 h1 h_kb2
      · skip
        refine fr_ite ?_ ?_
        · skip
          exact fr_Rd_readWeather_68 h0 h1 h_kb2
        · skip
          refine fr_ite ?_ ?_
          · skip
            exact fr_Rd_readWeather_68 h0 h1 h_kb2
          · skip
            refine fr_ite ?_ ?_
            · skip
              exact fr_Rd_readWeather_68 h0 h1 h_kb2
            · skip
              refine fr_ite ?_ ?_
              · skip
                exact fr_Rd_readWeather_68 h0 h1 h_kb2
              · skip
                refine fr_cl (fr_Rd_fail h0) (fun _ _ => ?_)
                exact fr_Rd_readWeather_80 h0 h1 h_kb2
theorem fr_Rd_readWeather_2 {P : Nat → Prop} {a : Nat} (h0 : P (a)) (h1 : P (a + 9))  : ∀ (fu : Nat) (w0 : Int32) (μ : Mu), Fr P μ (Rd_readWeather_2 a fu w0 μ) := by
  intro fu
  induction fu with
  | zero => intros; exact fr_none
  | succ fu ih => intros; exact fr_Rd_readWeather_2b (a := a) h0 h1  ih
theorem fr_Rd_readWeather {P : Nat → Prop} {a : Nat} {μ : Mu} (h0 : P (a)) (h1 : P (a + 9))  : Fr P μ (Rd_readWeather a μ) := by
  unfold Rd_readWeather
  exact fr_Rd_readWeather_2 h0 h1 _ _ _
theorem fr_Rd_readHeirs_2b {P : Nat → Prop} {a : Nat} {kb2 : Int32 → Mu → Option (Unit × Mu)} {v1 : Int32} {μ : Mu} (h0 : P (a)) (h1 : P (a + 9)) (h_kb2 : ∀ (w0 : Int32) (μ : Mu), Fr P μ (kb2 w0 μ)) : Fr P μ (Rd_readHeirs_2b a kb2 v1 μ) := by
  unfold Rd_readHeirs_2b
  refine fr_ite ?_ ?_
  · skip
    exact fr_some
  · skip
    refine fr_cl (fr_Rd_begins h0) (fun _ _ => ?_)
    refine fr_ite ?_ ?_
    · skip
      exact fr_some
    · skip
      refine fr_cl (fr_Rd_whom h0) (fun _ _ => ?_)
      refine fr_cl (fr_Rd_take h0) (fun _ _ => ?_)
      refine fr_cl (fr_Rd_whom h0) (fun _ _ => ?_)
      refine fr_cl (fr_Rd_ends h0 h1) (fun _ _ => ?_)
      exact h_kb2 _ _
theorem fr_Rd_readHeirs_2 {P : Nat → Prop} {a : Nat} (h0 : P (a)) (h1 : P (a + 9))  : ∀ (fu : Nat) (w0 : Int32) (μ : Mu), Fr P μ (Rd_readHeirs_2 a fu w0 μ) := by
  intro fu
  induction fu with
  | zero => intros; exact fr_none
  | succ fu ih => intros; exact fr_Rd_readHeirs_2b (a := a) h0 h1  ih
theorem fr_Rd_readHeirs {P : Nat → Prop} {a : Nat} {μ : Mu} (h0 : P (a)) (h1 : P (a + 9))  : Fr P μ (Rd_readHeirs a μ) := by
  unfold Rd_readHeirs
  exact fr_Rd_readHeirs_2 h0 h1 _ _ _
theorem fr_Sf_text_90 {P : Nat → Prop} {a : Nat} {v1 : Int32} {μ : Mu} (h0 : P (a + 1 + 5 + 11)) (h1 : P (a + 1 + 5 + 1)) (h2 : P (a + 1 + 5 + 1 + 1)) (h3 : P (a + 1 + 5 + 1 + 2)) (h4 : P (a + 1 + 5 + 1 + 3)) (h5 : P (a + 1 + 5 + 1 + 4)) (h6 : P (a + 1 + 5 + 1 + 5)) (h7 : P (a + 1 + 5 + 8)) (h8 : P (a + 1 + 5 + 9)) (h9 : P (a + 1 + 5 + 10)) (h10 : P (a + 1 + 1 + 2)) (h11 : P (a + 1 + 1 + 1)) (h12 : P (a))  : Fr P μ (Sf_text_90 a v1 μ) := by
  unfold Sf_text_90
  refine fr_gF (fun _ => ?_)
  refine fr_ite ?_ ?_
  · skip
    refine fr_cl (fr_Sf_accept h0 h1 h2 h3 h4 h5 h6 h7 h8 h9 h10 h11 h12) (fun _ _ => ?_)
    refine fr_gF (fun _ => ?_)
    exact fr_some
  · skip
    exact fr_some
theorem fr_Sf_text {P : Nat → Prop} {a : Nat} {v1 : Int32} {μ : Mu} (h0 : P (a + 48)) (h1 : P (a + 48 + 2)) (h2 : P (a + 48 + 2 + 1)) (h3 : P (a + 48 + 2 + 2)) (h4 : P (a + 48 + 2 + 5)) (h5 : P (a + 48 + 2 + 3)) (h6 : P (a + 48 + 2 + 4)) (h7 : P (a + 48 + 9)) (h8 : P (a + 1 + 5 + 11)) (h9 : P (a + 1 + 5 + 1)) (h10 : P (a + 1 + 5 + 1 + 1)) (h11 : P (a + 1 + 5 + 1 + 2)) (h12 : P (a + 1 + 5 + 1 + 3)) (h13 : P (a + 1 + 5 + 1 + 4)) (h14 : P (a + 1 + 5 + 1 + 5)) (h15 : P (a + 1 + 5 + 8)) (h16 : P (a + 1 + 5 + 9)) (h17 : P (a + 1 + 5 + 10)) (h18 : P (a + 1 + 1 + 2)) (h19 : P (a + 1 + 1 + 1)) (h20 : P (a))  : Fr P μ (Sf_text a v1 μ) := by
  unfold Sf_text
  refine fr_gF (fun _ => ?_)
  refine fr_cl (fr_Rd_open h0) (fun _ _ => ?_)
  refine fr_ite ?_ ?_
  · skip
    refine fr_cl (fr_Rd_readLaw h1 h0 h2 h3 h4 h5 h6 h7) (fun _ _ => ?_)
    exact fr_Sf_text_90 h8 h9 h10 h11 h12 h13 h14 h15 h16 h17 h18 h19 h20
  · skip
    refine fr_ite ?_ ?_
    · skip
      refine fr_cl (fr_Rd_readTable h0 h7) (fun _ _ => ?_)
      exact fr_Sf_text_90 h8 h9 h10 h11 h12 h13 h14 h15 h16 h17 h18 h19 h20
    · skip
      refine fr_ite ?_ ?_
      · skip
        refine fr_cl (fr_Rd_readWeather h0 h7) (fun _ _ => ?_)
        exact fr_Sf_text_90 h8 h9 h10 h11 h12 h13 h14 h15 h16 h17 h18 h19 h20
      · skip
        refine fr_ite ?_ ?_
        · skip
          refine fr_cl (fr_Rd_readHeirs h0 h7) (fun _ _ => ?_)
          exact fr_Sf_text_90 h8 h9 h10 h11 h12 h13 h14 h15 h16 h17 h18 h19 h20
        · skip
          exact fr_some
theorem fr_Th_tellShortly_107 {P : Nat → Prop} {a : Nat} {tt : Nat} {kb7 : Int32 → Int32 → Int32 → Mu → Option (Int32 × Mu)} {v1 : Int32} {v2 : Int32} {v3 : Int32} {v4 : Int32} {μ : Mu}  (h_kb7 : ∀ (w0 : Int32) (w1 : Int32) (w2 : Int32) (μ : Mu), Fr P μ (kb7 w0 w1 w2 μ)) : Fr P μ (Th_tellShortly_107 a tt kb7 v1 v2 v3 v4 μ) := by
  unfold Th_tellShortly_107
  exact h_kb7 _ _ _ _
theorem fr_Th_tellShortly_64 {P : Nat → Prop} {a : Nat} {tt : Nat} {kb7 : Int32 → Int32 → Int32 → Mu → Option (Int32 × Mu)} {v1 : Int32} {v2 : Int32} {v3 : Int32} {v4 : Int32} {s0 : Int32} {μ : Mu} (h0 : P (a + 1)) (h_kb7 : ∀ (w0 : Int32) (w1 : Int32) (w2 : Int32) (μ : Mu), Fr P μ (kb7 w0 w1 w2 μ)) : Fr P μ (Th_tellShortly_64 a tt kb7 v1 v2 v3 v4 s0 μ) := by
  unfold Th_tellShortly_64
  refine fr_ite ?_ ?_
  · skip
    exact fr_Th_tellShortly_107  h_kb7
  · skip
    refine fr_ite ?_ ?_
    · skip
      exact fr_Th_tellShortly_107  h_kb7
    · skip
      refine fr_stA h0 (fun _ => ?_)
      refine fr_ldA (fun _ => ?_)
      refine fr_stA h0 (fun _ => ?_)
      exact fr_Th_tellShortly_107  h_kb7
theorem fr_Th_tellShortly_59 {P : Nat → Prop} {a : Nat} {tt : Nat} {kb7 : Int32 → Int32 → Int32 → Mu → Option (Int32 × Mu)} {v1 : Int32} {v2 : Int32} {v3 : Int32} {v4 : Int32} {μ : Mu} (h0 : P (a + 1)) (h_kb7 : ∀ (w0 : Int32) (w1 : Int32) (w2 : Int32) (μ : Mu), Fr P μ (kb7 w0 w1 w2 μ)) : Fr P μ (Th_tellShortly_59 a tt kb7 v1 v2 v3 v4 μ) := by
  unfold Th_tellShortly_59
  exact fr_Th_tellShortly_64 h0 h_kb7
theorem fr_Th_tellShortly_7b {P : Nat → Prop} {a : Nat} {tt : Nat} {kb7 : Int32 → Int32 → Int32 → Mu → Option (Int32 × Mu)} {v1 : Int32} {v2 : Int32} {v3 : Int32} {v4 : Int32} {μ : Mu} (h0 : P (a + 1)) (h_kb7 : ∀ (w0 : Int32) (w1 : Int32) (w2 : Int32) (μ : Mu), Fr P μ (kb7 w0 w1 w2 μ)) : Fr P μ (Th_tellShortly_7b a tt kb7 v1 v2 v3 v4 μ) := by
  unfold Th_tellShortly_7b
  refine fr_ite ?_ ?_
  · skip
    exact fr_some
  · skip
    refine fr_ite ?_ ?_
    · skip
      exact fr_some
    · skip
      refine fr_ite ?_ ?_
      · skip
        exact fr_Th_tellShortly_59 h0 h_kb7
      · skip
        refine fr_ite ?_ ?_
        · skip
          exact fr_Th_tellShortly_59 h0 h_kb7
        · skip
          refine fr_ldA (fun _ => ?_)
          refine fr_ldA (fun _ => ?_)
          refine fr_ite ?_ ?_
          · skip
            exact fr_Th_tellShortly_64 h0 h_kb7
          · skip
            exact fr_Th_tellShortly_59 h0 h_kb7
theorem fr_Th_tellShortly_7 {P : Nat → Prop} {a : Nat} {tt : Nat} {v1 : Int32} (h0 : P (a + 1))  : ∀ (fu : Nat) (w0 : Int32) (w1 : Int32) (w2 : Int32) (μ : Mu), Fr P μ (Th_tellShortly_7 a tt v1 fu w0 w1 w2 μ) := by
  intro fu
  induction fu with
  | zero => intros; exact fr_none
  | succ fu ih => intros; exact fr_Th_tellShortly_7b (a := a) (tt := tt) (v1 := v1) h0  ih
theorem fr_Th_tellShortly {P : Nat → Prop} {a : Nat} {tt : Nat} {v1 : Int32} {μ : Mu} (h0 : P (a + 1))  : Fr P μ (Th_tellShortly a tt v1 μ) := by
  unfold Th_tellShortly
  exact fr_Th_tellShortly_7 h0 _ _ _ _ _
theorem fr_Th_toldAgain_11b {P : Nat → Prop} {a : Nat} {tt : Nat} {kb11 : Int32 → Int32 → Mu → Option (Int32 × Mu)} {v1 : Int32} {v2 : Int32} {v3 : Int32} {μ : Mu} (h0 : P (a + 1)) (h1 : P (a + 2)) (h_kb11 : ∀ (w0 : Int32) (w1 : Int32) (μ : Mu), Fr P μ (kb11 w0 w1 μ)) : Fr P μ (Th_toldAgain_11b a tt kb11 v1 v2 v3 μ) := by
  unfold Th_toldAgain_11b
  refine fr_ite ?_ ?_
  · skip
    exact fr_some
  · skip
    refine fr_cl (fr_Th_tellShortly h0) (fun _ _ => ?_)
    refine fr_cpA h1 (fun _ => ?_)
    exact h_kb11 _ _ _
theorem fr_Th_toldAgain_11 {P : Nat → Prop} {a : Nat} {tt : Nat} {v1 : Int32} (h0 : P (a + 1)) (h1 : P (a + 2))  : ∀ (fu : Nat) (w0 : Int32) (w1 : Int32) (μ : Mu), Fr P μ (Th_toldAgain_11 a tt v1 fu w0 w1 μ) := by
  intro fu
  induction fu with
  | zero => intros; exact fr_none
  | succ fu ih => intros; exact fr_Th_toldAgain_11b (a := a) (tt := tt) (v1 := v1) h0 h1  ih
theorem fr_Th_toldAgain {P : Nat → Prop} {a : Nat} {tt : Nat} {v1 : Int32} {μ : Mu} (h0 : P (a + 2)) (h1 : P (a + 1))  : Fr P μ (Th_toldAgain a tt v1 μ) := by
  unfold Th_toldAgain
  refine fr_stA h0 (fun _ => ?_)
  exact fr_Th_toldAgain_11 h1 h0 _ _ _ _
theorem fr_Th_tellFirst_45 {P : Nat → Prop} {a : Nat} {tt : Nat} {μ : Mu} (h0 : P (a + 1))  : Fr P μ (Th_tellFirst_45 a tt μ) := by
  unfold Th_tellFirst_45
  refine fr_gF (fun _ => ?_)
  refine fr_cl (fr_Th_tellShortly h0) (fun _ _ => ?_)
  exact fr_some
theorem fr_Th_tellFirst_2b {P : Nat → Prop} {a : Nat} {tt : Nat} {kb2 : Int32 → Mu → Option (Int32 × Mu)} {v1 : Int32} {μ : Mu} (h0 : P (a + 1)) (h1 : P (a + 2)) (h_kb2 : ∀ (w0 : Int32) (μ : Mu), Fr P μ (kb2 w0 μ)) : Fr P μ (Th_tellFirst_2b a tt kb2 v1 μ) := by
  unfold Th_tellFirst_2b
  refine fr_gF (fun _ => ?_)
  refine fr_ite ?_ ?_
  · skip
    exact fr_Th_tellFirst_45 h0
  · skip
    refine fr_ite ?_ ?_
    · skip
      exact fr_Th_tellFirst_45 h0
    · skip
      refine fr_cl (fr_Rw_at) (fun _ _ => ?_)
      refine fr_stA h1 (fun _ => ?_)
      exact h_kb2 _ _
theorem fr_Th_tellFirst_2 {P : Nat → Prop} {a : Nat} {tt : Nat} (h0 : P (a + 1)) (h1 : P (a + 2))  : ∀ (fu : Nat) (w0 : Int32) (μ : Mu), Fr P μ (Th_tellFirst_2 a tt fu w0 μ) := by
  intro fu
  induction fu with
  | zero => intros; exact fr_none
  | succ fu ih => intros; exact fr_Th_tellFirst_2b (a := a) (tt := tt) h0 h1  ih
theorem fr_Th_tellFirst {P : Nat → Prop} {a : Nat} {tt : Nat} {μ : Mu} (h0 : P (a + 1)) (h1 : P (a + 2))  : Fr P μ (Th_tellFirst a tt μ) := by
  unfold Th_tellFirst
  exact fr_Th_tellFirst_2 h0 h1 _ _ _
theorem fr_Th_tellingAt {P : Nat → Prop} {a : Nat} {tt : Nat} {v1 : Int32} {μ : Mu}   : Fr P μ (Th_tellingAt a tt v1 μ) := by
  unfold Th_tellingAt
  refine fr_ite ?_ ?_
  · skip
    exact fr_some
  · skip
    refine fr_ite ?_ ?_
    · skip
      exact fr_some
    · skip
      refine fr_ldA (fun _ => ?_)
      exact fr_some
theorem fr_Sf_told {P : Nat → Prop} {a : Nat} {v1 : Int32} {μ : Mu} (h0 : P (a + 45 + 1)) (h1 : P (a + 45 + 2))  : Fr P μ (Sf_told a v1 μ) := by
  unfold Sf_told
  refine fr_cl (fr_Sf_within) (fun _ _ => ?_)
  refine fr_ite ?_ ?_
  · skip
    refine fr_cl (fr_Th_tellFirst h0 h1) (fun _ _ => ?_)
    refine fr_ite ?_ ?_
    · skip
      exact fr_some
    · skip
      refine fr_cl (fr_Sf_within) (fun _ _ => ?_)
      refine fr_ite ?_ ?_
      · skip
        exact fr_some
      · skip
        refine fr_cl (fr_Th_tellingAt) (fun _ _ => ?_)
        exact fr_some
  · skip
    refine fr_cl (fr_Th_toldAgain h1 h0) (fun _ _ => ?_)
    exact fr_some
theorem fr_Sm_fromBehind_4b {P : Nat → Prop} {kb4 : Int32 → Int32 → Mu → Option (Int32 × Mu)} {v1 : Int32} {v2 : Int32} {μ : Mu}  (h_kb4 : ∀ (w0 : Int32) (w1 : Int32) (μ : Mu), Fr P μ (kb4 w0 w1 μ)) : Fr P μ (Sm_fromBehind_4b kb4 v1 v2 μ) := by
  unfold Sm_fromBehind_4b
  refine fr_ite ?_ ?_
  · skip
    exact fr_some
  · skip
    exact h_kb4 _ _ _
theorem fr_Sm_fromBehind_4 {P : Nat → Prop}    : ∀ (fu : Nat) (w0 : Int32) (w1 : Int32) (μ : Mu), Fr P μ (Sm_fromBehind_4  fu w0 w1 μ) := by
  intro fu
  induction fu with
  | zero => intros; exact fr_none
  | succ fu ih => intros; exact fr_Sm_fromBehind_4b    ih
theorem fr_Sm_fromBehind {P : Nat → Prop} {v0 : Int32} {μ : Mu}   : Fr P μ (Sm_fromBehind v0 μ) := by
  unfold Sm_fromBehind
  exact fr_Sm_fromBehind_4 _ _ _ _
theorem fr_Sm_turnAbout_4b {P : Nat → Prop} {kb4 : Int32 → Int32 → Mu → Option (Int32 × Mu)} {v1 : Int32} {v2 : Int32} {v3 : Int32} {μ : Mu}  (h_kb4 : ∀ (w0 : Int32) (w1 : Int32) (μ : Mu), Fr P μ (kb4 w0 w1 μ)) : Fr P μ (Sm_turnAbout_4b kb4 v1 v2 v3 μ) := by
  unfold Sm_turnAbout_4b
  refine fr_ite ?_ ?_
  · skip
    exact fr_some
  · skip
    refine fr_ite ?_ ?_
    · skip
      exact fr_some
    · skip
      refine fr_cl (fr_Sm_fromBehind) (fun _ _ => ?_)
      refine fr_ite ?_ ?_
      · skip
        refine fr_ite ?_ ?_
        · skip
          exact fr_some
        · skip
          exact fr_some
      · skip
        exact h_kb4 _ _ _
theorem fr_Sm_turnAbout_4 {P : Nat → Prop} {v1 : Int32}   : ∀ (fu : Nat) (w0 : Int32) (w1 : Int32) (μ : Mu), Fr P μ (Sm_turnAbout_4 v1 fu w0 w1 μ) := by
  intro fu
  induction fu with
  | zero => intros; exact fr_none
  | succ fu ih => intros; exact fr_Sm_turnAbout_4b (v1 := v1)   ih
theorem fr_Sm_turnAbout {P : Nat → Prop} {v0 : Int32} {v1 : Int32} {μ : Mu}   : Fr P μ (Sm_turnAbout v0 v1 μ) := by
  unfold Sm_turnAbout
  exact fr_Sm_turnAbout_4 _ _ _ _
theorem fr_Sf_turned_31 {P : Nat → Prop} {a : Nat} {s0 : Int32} {s1 : Int32} {μ : Mu}   : Fr P μ (Sf_turned_31 a s0 s1 μ) := by
  unfold Sf_turned_31
  refine fr_cl (fr_Sm_turnAbout) (fun _ _ => ?_)
  exact fr_some
theorem fr_Sf_turned {P : Nat → Prop} {a : Nat} {v1 : Int32} {v2 : Int32} {μ : Mu}   : Fr P μ (Sf_turned a v1 v2 μ) := by
  unfold Sf_turned
  refine fr_cl (fr_Sf_within) (fun _ _ => ?_)
  refine fr_ite ?_ ?_
  · skip
    exact fr_some
  · skip
    refine fr_cl (fr_Sf_within) (fun _ _ => ?_)
    refine fr_ite ?_ ?_
    · skip
      exact fr_some
    · skip
      refine fr_ite ?_ ?_
      · skip
        exact fr_Sf_turned_31
      · skip
        exact fr_Sf_turned_31
theorem fr_Th_voyageRows_100 {P : Nat → Prop} {a : Nat} {tt : Nat} {v1 : Int32} {μ : Mu}   : Fr P μ (Th_voyageRows_100 a tt v1 μ) := by
  unfold Th_voyageRows_100
  refine fr_ite ?_ ?_
  · skip
    exact fr_some
  · skip
    refine fr_ite ?_ ?_
    · skip
      exact fr_some
    · skip
      refine fr_ldA (fun _ => ?_)
      exact fr_some
theorem fr_Th_voyageRows_81 {P : Nat → Prop} {a : Nat} {tt : Nat} {kb9 : Int32 → Mu → Option (Int32 × Mu)} {kb26 : Int32 → Int32 → Mu → Option (Int32 × Mu)} {v1 : Int32} {v2 : Int32} {v3 : Int32} {v4 : Int32} {μ : Mu}  (h_kb9 : ∀ (w0 : Int32) (μ : Mu), Fr P μ (kb9 w0 μ)) (h_kb26 : ∀ (w0 : Int32) (w1 : Int32) (μ : Mu), Fr P μ (kb26 w0 w1 μ)) : Fr P μ (Th_voyageRows_81 a tt kb9 kb26 v1 v2 v3 v4 μ) := by
  unfold Th_voyageRows_81
  exact h_kb26 _ _ _
theorem fr_Th_voyageRows_26b {P : Nat → Prop} {a : Nat} {tt : Nat} {kb9 : Int32 → Mu → Option (Int32 × Mu)} {kb26 : Int32 → Int32 → Mu → Option (Int32 × Mu)} {v1 : Int32} {v2 : Int32} {v3 : Int32} {v4 : Int32} {μ : Mu} (h0 : P (a + 1)) (h_kb9 : ∀ (w0 : Int32) (μ : Mu), Fr P μ (kb9 w0 μ)) (h_kb26 : ∀ (w0 : Int32) (w1 : Int32) (μ : Mu), Fr P μ (kb26 w0 w1 μ)) : Fr P μ (Th_voyageRows_26b a tt kb9 kb26 v1 v2 v3 v4 μ) := by
  unfold Th_voyageRows_26b
  refine fr_gF (fun _ => ?_)
  refine fr_ite ?_ ?_
  · skip
    refine fr_stA h0 (fun _ => ?_)
    exact h_kb9 _ _
  · skip
    refine fr_cl (fr_Rw_at) (fun _ _ => ?_)
    refine fr_ite ?_ ?_
    · skip
      exact fr_Th_voyageRows_81  h_kb9 h_kb26
    · skip
      refine fr_ite ?_ ?_
      · skip
        exact fr_Th_voyageRows_81  h_kb9 h_kb26
      · skip
        refine fr_ldA (fun _ => ?_)
        exact fr_Th_voyageRows_81  h_kb9 h_kb26
theorem fr_Th_voyageRows_26 {P : Nat → Prop} {a : Nat} {tt : Nat} {kb9 : Int32 → Mu → Option (Int32 × Mu)} {v1 : Int32} {v2 : Int32} (h0 : P (a + 1)) (h_kb9 : ∀ (w0 : Int32) (μ : Mu), Fr P μ (kb9 w0 μ)) : ∀ (fu : Nat) (w0 : Int32) (w1 : Int32) (μ : Mu), Fr P μ (Th_voyageRows_26 a tt kb9 v1 v2 fu w0 w1 μ) := by
  intro fu
  induction fu with
  | zero => intros; exact fr_none
  | succ fu ih => intros; exact fr_Th_voyageRows_26b (a := a) (tt := tt) (kb9 := kb9) (v1 := v1) (v2 := v2) h0 h_kb9 ih
theorem fr_Th_voyageRows_9b {P : Nat → Prop} {a : Nat} {tt : Nat} {kb9 : Int32 → Mu → Option (Int32 × Mu)} {v1 : Int32} {v2 : Int32} {μ : Mu} (h0 : P (a + 1)) (h_kb9 : ∀ (w0 : Int32) (μ : Mu), Fr P μ (kb9 w0 μ)) : Fr P μ (Th_voyageRows_9b a tt kb9 v1 v2 μ) := by
  unfold Th_voyageRows_9b
  refine fr_ite ?_ ?_
  · skip
    exact fr_Th_voyageRows_100
  · skip
    refine fr_ite ?_ ?_
    · skip
      exact fr_Th_voyageRows_100
    · skip
      exact fr_Th_voyageRows_26 h0 h_kb9 _ _ _ _
theorem fr_Th_voyageRows_9 {P : Nat → Prop} {a : Nat} {tt : Nat} {v1 : Int32} (h0 : P (a + 1))  : ∀ (fu : Nat) (w0 : Int32) (μ : Mu), Fr P μ (Th_voyageRows_9 a tt v1 fu w0 μ) := by
  intro fu
  induction fu with
  | zero => intros; exact fr_none
  | succ fu ih => intros; exact fr_Th_voyageRows_9b (a := a) (tt := tt) (v1 := v1) h0  ih
theorem fr_Th_voyageRows {P : Nat → Prop} {a : Nat} {tt : Nat} {v1 : Int32} {μ : Mu} (h0 : P (a + 1))  : Fr P μ (Th_voyageRows a tt v1 μ) := by
  unfold Th_voyageRows
  refine fr_stA h0 (fun _ => ?_)
  exact fr_Th_voyageRows_9 h0 _ _ _
theorem fr_Th_fewestStages_138 {P : Nat → Prop} {a : Nat} {tt : Nat} {v1 : Int32} {μ : Mu}   : Fr P μ (Th_fewestStages_138 a tt v1 μ) := by
  unfold Th_fewestStages_138
  refine fr_ite ?_ ?_
  · skip
    exact fr_some
  · skip
    refine fr_ite ?_ ?_
    · skip
      exact fr_some
    · skip
      refine fr_ldA (fun _ => ?_)
      exact fr_some
theorem fr_Th_fewestStages_119 {P : Nat → Prop} {a : Nat} {tt : Nat} {kb9 : Int32 → Mu → Option (Int32 × Mu)} {kb26 : Int32 → Int32 → Mu → Option (Int32 × Mu)} {v1 : Int32} {v2 : Int32} {v3 : Int32} {v4 : Int32} {μ : Mu}  (h_kb9 : ∀ (w0 : Int32) (μ : Mu), Fr P μ (kb9 w0 μ)) (h_kb26 : ∀ (w0 : Int32) (w1 : Int32) (μ : Mu), Fr P μ (kb26 w0 w1 μ)) : Fr P μ (Th_fewestStages_119 a tt kb9 kb26 v1 v2 v3 v4 μ) := by
  unfold Th_fewestStages_119
  exact h_kb26 _ _ _
theorem fr_Th_fewestStages_109 {P : Nat → Prop} {a : Nat} {tt : Nat} {kb9 : Int32 → Mu → Option (Int32 × Mu)} {kb26 : Int32 → Int32 → Mu → Option (Int32 × Mu)} {v1 : Int32} {v2 : Int32} {v4 : Int32} {v5 : Int32} {μ : Mu}  (h_kb9 : ∀ (w0 : Int32) (μ : Mu), Fr P μ (kb9 w0 μ)) (h_kb26 : ∀ (w0 : Int32) (w1 : Int32) (μ : Mu), Fr P μ (kb26 w0 w1 μ)) : Fr P μ (Th_fewestStages_109 a tt kb9 kb26 v1 v2 v4 v5 μ) := by
  unfold Th_fewestStages_109
  refine fr_ldA (fun _ => ?_)
  exact fr_Th_fewestStages_119  h_kb9 h_kb26
theorem fr_Th_fewestStages_84 {P : Nat → Prop} {a : Nat} {tt : Nat} {kb9 : Int32 → Mu → Option (Int32 × Mu)} {kb26 : Int32 → Int32 → Mu → Option (Int32 × Mu)} {v1 : Int32} {v2 : Int32} {v3 : Int32} {v4 : Int32} {v5 : Int32} {s0 : Int32} {μ : Mu}  (h_kb9 : ∀ (w0 : Int32) (μ : Mu), Fr P μ (kb9 w0 μ)) (h_kb26 : ∀ (w0 : Int32) (w1 : Int32) (μ : Mu), Fr P μ (kb26 w0 w1 μ)) : Fr P μ (Th_fewestStages_84 a tt kb9 kb26 v1 v2 v3 v4 v5 s0 μ) := by
  unfold Th_fewestStages_84
  refine fr_ite ?_ ?_
  · skip
    exact fr_Th_fewestStages_119  h_kb9 h_kb26
  · skip
    refine fr_ite ?_ ?_
    · skip
      exact fr_Th_fewestStages_109  h_kb9 h_kb26
    · skip
      refine fr_ldA (fun _ => ?_)
      refine fr_ite ?_ ?_
      · skip
        exact fr_Th_fewestStages_119  h_kb9 h_kb26
      · skip
        exact fr_Th_fewestStages_109  h_kb9 h_kb26
theorem fr_Th_fewestStages_83 {P : Nat → Prop} {a : Nat} {tt : Nat} {kb9 : Int32 → Mu → Option (Int32 × Mu)} {kb26 : Int32 → Int32 → Mu → Option (Int32 × Mu)} {v1 : Int32} {v2 : Int32} {v3 : Int32} {v4 : Int32} {v5 : Int32} {μ : Mu}  (h_kb9 : ∀ (w0 : Int32) (μ : Mu), Fr P μ (kb9 w0 μ)) (h_kb26 : ∀ (w0 : Int32) (w1 : Int32) (μ : Mu), Fr P μ (kb26 w0 w1 μ)) : Fr P μ (Th_fewestStages_83 a tt kb9 kb26 v1 v2 v3 v4 v5 μ) := by
  unfold Th_fewestStages_83
  exact fr_Th_fewestStages_84  h_kb9 h_kb26
theorem fr_Th_fewestStages_26b {P : Nat → Prop} {a : Nat} {tt : Nat} {kb9 : Int32 → Mu → Option (Int32 × Mu)} {kb26 : Int32 → Int32 → Mu → Option (Int32 × Mu)} {v1 : Int32} {v2 : Int32} {v3 : Int32} {v4 : Int32} {μ : Mu} (h0 : P (a + 1)) (h_kb9 : ∀ (w0 : Int32) (μ : Mu), Fr P μ (kb9 w0 μ)) (h_kb26 : ∀ (w0 : Int32) (w1 : Int32) (μ : Mu), Fr P μ (kb26 w0 w1 μ)) : Fr P μ (Th_fewestStages_26b a tt kb9 kb26 v1 v2 v3 v4 μ) := by
  unfold Th_fewestStages_26b
  refine fr_gF (fun _ => ?_)
  refine fr_ite ?_ ?_
  · skip
    refine fr_stA h0 (fun _ => ?_)
    exact h_kb9 _ _
  · skip
    refine fr_cl (fr_Rw_at) (fun _ _ => ?_)
    refine fr_ite ?_ ?_
    · skip
      exact fr_Th_fewestStages_83  h_kb9 h_kb26
    · skip
      refine fr_ite ?_ ?_
      · skip
        exact fr_Th_fewestStages_83  h_kb9 h_kb26
      · skip
        refine fr_ldA (fun _ => ?_)
        refine fr_ite ?_ ?_
        · skip
          exact fr_Th_fewestStages_83  h_kb9 h_kb26
        · skip
          exact fr_Th_fewestStages_84  h_kb9 h_kb26
theorem fr_Th_fewestStages_26 {P : Nat → Prop} {a : Nat} {tt : Nat} {kb9 : Int32 → Mu → Option (Int32 × Mu)} {v1 : Int32} {v2 : Int32} (h0 : P (a + 1)) (h_kb9 : ∀ (w0 : Int32) (μ : Mu), Fr P μ (kb9 w0 μ)) : ∀ (fu : Nat) (w0 : Int32) (w1 : Int32) (μ : Mu), Fr P μ (Th_fewestStages_26 a tt kb9 v1 v2 fu w0 w1 μ) := by
  intro fu
  induction fu with
  | zero => intros; exact fr_none
  | succ fu ih => intros; exact fr_Th_fewestStages_26b (a := a) (tt := tt) (kb9 := kb9) (v1 := v1) (v2 := v2) h0 h_kb9 ih
theorem fr_Th_fewestStages_9b {P : Nat → Prop} {a : Nat} {tt : Nat} {kb9 : Int32 → Mu → Option (Int32 × Mu)} {v1 : Int32} {v2 : Int32} {μ : Mu} (h0 : P (a + 1)) (h_kb9 : ∀ (w0 : Int32) (μ : Mu), Fr P μ (kb9 w0 μ)) : Fr P μ (Th_fewestStages_9b a tt kb9 v1 v2 μ) := by
  unfold Th_fewestStages_9b
  refine fr_ite ?_ ?_
  · skip
    exact fr_Th_fewestStages_138
  · skip
    refine fr_ite ?_ ?_
    · skip
      exact fr_Th_fewestStages_138
    · skip
      exact fr_Th_fewestStages_26 h0 h_kb9 _ _ _ _
theorem fr_Th_fewestStages_9 {P : Nat → Prop} {a : Nat} {tt : Nat} {v1 : Int32} (h0 : P (a + 1))  : ∀ (fu : Nat) (w0 : Int32) (μ : Mu), Fr P μ (Th_fewestStages_9 a tt v1 fu w0 μ) := by
  intro fu
  induction fu with
  | zero => intros; exact fr_none
  | succ fu ih => intros; exact fr_Th_fewestStages_9b (a := a) (tt := tt) (v1 := v1) h0  ih
theorem fr_Th_fewestStages {P : Nat → Prop} {a : Nat} {tt : Nat} {v1 : Int32} {μ : Mu} (h0 : P (a + 1))  : Fr P μ (Th_fewestStages a tt v1 μ) := by
  unfold Th_fewestStages
  refine fr_stA h0 (fun _ => ?_)
  exact fr_Th_fewestStages_9 h0 _ _ _
theorem fr_Sf_voyage {P : Nat → Prop} {a : Nat} {v1 : Int32} {v2 : Int32} {μ : Mu} (h0 : P (a + 45 + 1))  : Fr P μ (Sf_voyage a v1 v2 μ) := by
  unfold Sf_voyage
  refine fr_cl (fr_Sf_within) (fun _ _ => ?_)
  refine fr_ite ?_ ?_
  · skip
    exact fr_some
  · skip
    refine fr_cl (fr_Sf_within) (fun _ _ => ?_)
    refine fr_ite ?_ ?_
    · skip
      exact fr_some
    · skip
      refine fr_ite ?_ ?_
      · skip
        refine fr_cl (fr_Th_voyageRows h0) (fun _ _ => ?_)
        exact fr_some
      · skip
        refine fr_cl (fr_Th_fewestStages h0) (fun _ _ => ?_)
        exact fr_some
theorem fr_Jm_floorMod {P : Nat → Prop} {v0 : Int32} {v1 : Int32} {μ : Mu}   : Fr P μ (Jm_floorMod v0 v1 μ) := by
  unfold Jm_floorMod
  refine fr_nz ?_
  refine fr_ite ?_ ?_
  · skip
    exact fr_some
  · skip
    refine fr_ite ?_ ?_
    · skip
      exact fr_some
    · skip
      exact fr_some
theorem fr_Sm_weekday {P : Nat → Prop} {v0 : Int32} {μ : Mu}   : Fr P μ (Sm_weekday v0 μ) := by
  unfold Sm_weekday
  refine fr_cl (fr_Jm_floorMod) (fun _ _ => ?_)
  exact fr_some
theorem fr_Sm_fridays_29 {P : Nat → Prop} {kb4 : Int32 → Int32 → Mu → Option (Int32 × Mu)} {v0 : Int32} {v1 : Int32} {v2 : Int32} {μ : Mu}  (h_kb4 : ∀ (w0 : Int32) (w1 : Int32) (μ : Mu), Fr P μ (kb4 w0 w1 μ)) : Fr P μ (Sm_fridays_29 kb4 v0 v1 v2 μ) := by
  unfold Sm_fridays_29
  exact h_kb4 _ _ _
theorem fr_Sm_fridays_4b {P : Nat → Prop} {kb4 : Int32 → Int32 → Mu → Option (Int32 × Mu)} {v0 : Int32} {v1 : Int32} {v2 : Int32} {μ : Mu}  (h_kb4 : ∀ (w0 : Int32) (w1 : Int32) (μ : Mu), Fr P μ (kb4 w0 w1 μ)) : Fr P μ (Sm_fridays_4b kb4 v0 v1 v2 μ) := by
  unfold Sm_fridays_4b
  refine fr_ite ?_ ?_
  · skip
    exact fr_some
  · skip
    refine fr_cl (fr_Sm_dayNumber) (fun _ _ => ?_)
    refine fr_cl (fr_Sm_weekday) (fun _ _ => ?_)
    refine fr_ite ?_ ?_
    · skip
      exact fr_Sm_fridays_29  h_kb4
    · skip
      exact fr_Sm_fridays_29  h_kb4
theorem fr_Sm_fridays_4 {P : Nat → Prop} {v0 : Int32}   : ∀ (fu : Nat) (w0 : Int32) (w1 : Int32) (μ : Mu), Fr P μ (Sm_fridays_4 v0 fu w0 w1 μ) := by
  intro fu
  induction fu with
  | zero => intros; exact fr_none
  | succ fu ih => intros; exact fr_Sm_fridays_4b (v0 := v0)   ih
theorem fr_Sm_fridays {P : Nat → Prop} {v0 : Int32} {μ : Mu}   : Fr P μ (Sm_fridays v0 μ) := by
  unfold Sm_fridays
  exact fr_Sm_fridays_4 _ _ _ _
theorem fr_Sf_week_19 {P : Nat → Prop} {a : Nat} {μ : Mu}   : Fr P μ (Sf_week_19 a μ) := by
  unfold Sf_week_19
  exact fr_some
theorem fr_Sf_week {P : Nat → Prop} {a : Nat} {v1 : Int32} {v2 : Int32} {v3 : Int32} {v4 : Int32} {μ : Mu}   : Fr P μ (Sf_week a v1 v2 v3 v4 μ) := by
  unfold Sf_week
  refine fr_cl (fr_Sm_isDate) (fun _ _ => ?_)
  refine fr_ite ?_ ?_
  · skip
    exact fr_Sf_week_19
  · skip
    refine fr_cl (fr_Sf_within) (fun _ _ => ?_)
    refine fr_ite ?_ ?_
    · skip
      exact fr_Sf_week_19
    · skip
      refine fr_cl (fr_Sm_dayNumber) (fun _ _ => ?_)
      refine fr_ite ?_ ?_
      · skip
        refine fr_cl (fr_Sm_weekday) (fun _ _ => ?_)
        exact fr_some
      · skip
        refine fr_ite ?_ ?_
        · skip
          refine fr_cl (fr_Sm_fridays) (fun _ _ => ?_)
          exact fr_some
        · skip
          refine fr_gF (fun _ => ?_)
          exact fr_some
theorem fr_Th_laidWays_4b {P : Nat → Prop} {a : Nat} {tt : Nat} {kb4 : Int32 → Int32 → Mu → Option (Int32 × Mu)} {v1 : Int32} {v2 : Int32} {μ : Mu}  (h_kb4 : ∀ (w0 : Int32) (w1 : Int32) (μ : Mu), Fr P μ (kb4 w0 w1 μ)) : Fr P μ (Th_laidWays_4b a tt kb4 v1 v2 μ) := by
  unfold Th_laidWays_4b
  refine fr_gF (fun _ => ?_)
  refine fr_ite ?_ ?_
  · skip
    exact fr_some
  · skip
    exact h_kb4 _ _ _
theorem fr_Th_laidWays_4 {P : Nat → Prop} {a : Nat} {tt : Nat}   : ∀ (fu : Nat) (w0 : Int32) (w1 : Int32) (μ : Mu), Fr P μ (Th_laidWays_4 a tt fu w0 w1 μ) := by
  intro fu
  induction fu with
  | zero => intros; exact fr_none
  | succ fu ih => intros; exact fr_Th_laidWays_4b (a := a) (tt := tt)   ih
theorem fr_Th_laidWays {P : Nat → Prop} {a : Nat} {tt : Nat} {μ : Mu}   : Fr P μ (Th_laidWays a tt μ) := by
  unfold Th_laidWays
  exact fr_Th_laidWays_4 _ _ _ _
theorem fr_Th_weighed_7b {P : Nat → Prop} {a : Nat} {tt : Nat} {kb7 : Int32 → Int32 → Int32 → Mu → Option (Int32 × Mu)} {v2 : Int32} {v3 : Int32} {v4 : Int32} {μ : Mu}  (h_kb7 : ∀ (w0 : Int32) (w1 : Int32) (w2 : Int32) (μ : Mu), Fr P μ (kb7 w0 w1 w2 μ)) : Fr P μ (Th_weighed_7b a tt kb7 v2 v3 v4 μ) := by
  unfold Th_weighed_7b
  refine fr_gF (fun _ => ?_)
  refine fr_ite ?_ ?_
  · skip
    exact fr_some
  · skip
    refine fr_cl (fr_Rw_at) (fun _ _ => ?_)
    exact h_kb7 _ _ _ _
theorem fr_Th_weighed_7 {P : Nat → Prop} {a : Nat} {tt : Nat}   : ∀ (fu : Nat) (w0 : Int32) (w1 : Int32) (w2 : Int32) (μ : Mu), Fr P μ (Th_weighed_7 a tt fu w0 w1 w2 μ) := by
  intro fu
  induction fu with
  | zero => intros; exact fr_none
  | succ fu ih => intros; exact fr_Th_weighed_7b (a := a) (tt := tt)   ih
theorem fr_Th_weighed {P : Nat → Prop} {a : Nat} {tt : Nat} {v1 : Int32} {μ : Mu}   : Fr P μ (Th_weighed a tt v1 μ) := by
  unfold Th_weighed
  exact fr_Th_weighed_7 _ _ _ _ _
theorem fr_Th_balancedNumbers_63 {P : Nat → Prop} {a : Nat} {tt : Nat} {kb17 : Int32 → Int32 → Mu → Option (Int32 × Mu)} {v1 : Int32} {v2 : Int32} {v3 : Int32} {μ : Mu}  (h_kb17 : ∀ (w0 : Int32) (w1 : Int32) (μ : Mu), Fr P μ (kb17 w0 w1 μ)) : Fr P μ (Th_balancedNumbers_63 a tt kb17 v1 v2 v3 μ) := by
  unfold Th_balancedNumbers_63
  exact h_kb17 _ _ _
theorem fr_Th_balancedNumbers_17b {P : Nat → Prop} {a : Nat} {tt : Nat} {kb17 : Int32 → Int32 → Mu → Option (Int32 × Mu)} {v2 : Int32} {v1 : Int32} {v3 : Int32} {μ : Mu} (h0 : P (a + 1)) (h_kb17 : ∀ (w0 : Int32) (w1 : Int32) (μ : Mu), Fr P μ (kb17 w0 w1 μ)) : Fr P μ (Th_balancedNumbers_17b a tt kb17 v2 v1 v3 μ) := by
  unfold Th_balancedNumbers_17b
  refine fr_ite ?_ ?_
  · skip
    exact fr_some
  · skip
    refine fr_cl (fr_Th_weighed) (fun _ _ => ?_)
    refine fr_ite ?_ ?_
    · skip
      exact fr_Th_balancedNumbers_63  h_kb17
    · skip
      refine fr_ite ?_ ?_
      · skip
        exact fr_Th_balancedNumbers_63  h_kb17
      · skip
        refine fr_ldA (fun _ => ?_)
        refine fr_ite ?_ ?_
        · skip
          refine fr_stA h0 (fun _ => ?_)
          exact fr_Th_balancedNumbers_63  h_kb17
        · skip
          exact fr_Th_balancedNumbers_63  h_kb17
theorem fr_Th_balancedNumbers_17 {P : Nat → Prop} {a : Nat} {tt : Nat} {v2 : Int32} (h0 : P (a + 1))  : ∀ (fu : Nat) (w0 : Int32) (w1 : Int32) (μ : Mu), Fr P μ (Th_balancedNumbers_17 a tt v2 fu w0 w1 μ) := by
  intro fu
  induction fu with
  | zero => intros; exact fr_none
  | succ fu ih => intros; exact fr_Th_balancedNumbers_17b (a := a) (tt := tt) (v2 := v2) h0  ih
theorem fr_Th_balancedNumbers {P : Nat → Prop} {a : Nat} {tt : Nat} {μ : Mu} (h0 : P (a + 1))  : Fr P μ (Th_balancedNumbers a tt μ) := by
  unfold Th_balancedNumbers
  refine fr_cl (fr_Ja_fill h0) (fun _ _ => ?_)
  refine fr_cl (fr_Th_laidWays) (fun _ _ => ?_)
  exact fr_Th_balancedNumbers_17 h0 _ _ _ _
theorem fr_Th_weighings_29 {P : Nat → Prop} {a : Nat} {tt : Nat} {kb10 : Int32 → Int32 → Mu → Option (Int32 × Mu)} {v1 : Int32} {v2 : Int32} {v3 : Int32} {v4 : Int32} {μ : Mu}  (h_kb10 : ∀ (w0 : Int32) (w1 : Int32) (μ : Mu), Fr P μ (kb10 w0 w1 μ)) : Fr P μ (Th_weighings_29 a tt kb10 v1 v2 v3 v4 μ) := by
  unfold Th_weighings_29
  exact h_kb10 _ _ _
theorem fr_Th_weighings_10b {P : Nat → Prop} {a : Nat} {tt : Nat} {kb10 : Int32 → Int32 → Mu → Option (Int32 × Mu)} {v1 : Int32} {v3 : Int32} {v2 : Int32} {v4 : Int32} {μ : Mu}  (h_kb10 : ∀ (w0 : Int32) (w1 : Int32) (μ : Mu), Fr P μ (kb10 w0 w1 μ)) : Fr P μ (Th_weighings_10b a tt kb10 v1 v3 v2 v4 μ) := by
  unfold Th_weighings_10b
  refine fr_ite ?_ ?_
  · skip
    exact fr_some
  · skip
    refine fr_cl (fr_Th_weighed) (fun _ _ => ?_)
    refine fr_ite ?_ ?_
    · skip
      exact fr_Th_weighings_29  h_kb10
    · skip
      exact fr_Th_weighings_29  h_kb10
theorem fr_Th_weighings_10 {P : Nat → Prop} {a : Nat} {tt : Nat} {v1 : Int32} {v3 : Int32}   : ∀ (fu : Nat) (w0 : Int32) (w1 : Int32) (μ : Mu), Fr P μ (Th_weighings_10 a tt v1 v3 fu w0 w1 μ) := by
  intro fu
  induction fu with
  | zero => intros; exact fr_none
  | succ fu ih => intros; exact fr_Th_weighings_10b (a := a) (tt := tt) (v1 := v1) (v3 := v3)   ih
theorem fr_Th_weighings {P : Nat → Prop} {a : Nat} {tt : Nat} {v1 : Int32} {μ : Mu}   : Fr P μ (Th_weighings a tt v1 μ) := by
  unfold Th_weighings
  refine fr_cl (fr_Th_laidWays) (fun _ _ => ?_)
  exact fr_Th_weighings_10 _ _ _ _
theorem fr_Sf_weighs {P : Nat → Prop} {a : Nat} {v1 : Int32} {μ : Mu} (h0 : P (a + 45 + 1))  : Fr P μ (Sf_weighs a v1 μ) := by
  unfold Sf_weighs
  refine fr_ite ?_ ?_
  · skip
    refine fr_cl (fr_Th_balancedNumbers h0) (fun _ _ => ?_)
    exact fr_some
  · skip
    refine fr_cl (fr_Sf_within) (fun _ _ => ?_)
    refine fr_ite ?_ ?_
    · skip
      exact fr_some
    · skip
      refine fr_cl (fr_Th_weighings) (fun _ _ => ?_)
      exact fr_some
theorem fr_Sf_weight {P : Nat → Prop} {a : Nat} {v1 : Int32} {μ : Mu} (h0 : P (a + 1 + 17 + 5)) (h1 : P (a + 1 + 17 + 5 + 1))  : Fr P μ (Sf_weight a v1 μ) := by
  unfold Sf_weight
  refine fr_cl (fr_Rw_tell h0 h1) (fun _ _ => ?_)
  exact fr_some
