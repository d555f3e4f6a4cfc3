/-! L3: THE IMAGE, the reference: the loops -/
theorem prT {E l T : List (Nat × Nat)} (m : Nat) (h : E ++ l <+: T) : E ++ l.take m <+: T := ((List.prefix_append_right_inj E).mpr (List.take_prefix m l)).trans h
theorem kj_lp {ρ : Type} {F : (Int32 → Mu → Option (ρ × Mu)) → Int32 → Mu → Option (ρ × Mu)} {T D : List (Nat × Nat)} {w ν0 : Mu} {md : Int32} (g : Nat → List (Nat × Nat)) (n : Nat) {ν : Mu} {Q : ρ → Mu → Prop} (hn : n ≤ 100000) (hp : D ++ (List.range n).flatMap g <+: T) (h : KJ T D w ν0 md ν) (hx : ∀ A ν', KJ T (D ++ (List.range n).flatMap g) w ν0 md ν' → Ev (F A (nI n) ν') Q) (hs : ∀ k A ν' E, k < n → E ++ g k <+: T → KJ T E w ν0 md ν' → (∀ ν2, KJ T (E ++ g k) w ν0 md ν2 → Ev (A (nI (k + 1)) ν2) Q) → Ev (F A (nI k) ν') Q) : Ev (lp F (fun _ _ => none) FU 0 ν) Q :=
  kj_loop hn h hx (fun k A ν' hk h1 h2 => hs k A ν' _ hk (flat_step hp hk) h1 h2)
theorem kt382 {T D : List (Nat × Nat)} {w ν0 : Mu} {md : Int32} {ν : Mu} (hmd : md = 0 ∨ md = 1) (hG : GoT T) (hp : D ++ (List.range 20).flatMap (fun k => [(86, k)]) <+: T) (h : KJ T D w ν0 md ν) : Ev (Mo_keepsTold_382 59 FU 0 ν) (fun _ ν' => KJ T (D ++ (List.range 20).flatMap (fun k => [(86, k)])) w ν0 md ν') := by
  unfold Mo_keepsTold_382
  refine kj_lp (F := fun kb => Mo_keepsTold_382b 59 kb) (fun k => [(86, k)]) 20 (by omega) hp h (fun A ν' hν => ?_) (fun k A ν' E hk hE hν ih => ?_)
  · show Ev (Mo_keepsTold_382b 59 A _ ν') _
    unfold Mo_keepsTold_382b
    rw [if_pos (show (20 : Int32) ≤ nI 20 from nI_le (a := 20) (Nat.le_refl _) (by omega))]
    exact ev_some hν
  · show Ev (Mo_keepsTold_382b 59 A _ ν') _
    unfold Mo_keepsTold_382b
    simp only [Nat.reduceAdd]
    rw [if_neg (show ¬ (20 : Int32) ≤ nI k from nI_ge (b := 20) hk (by omega)), nI_1]
    refine kj_arr hmd hG hν (by
      have := prT 1 hE
      simpa only [List.append_assoc, List.cons_append, List.nil_append, List.take_succ_cons, List.take_zero] using this) hk (by omega) (fun ν2 h2 => ?_)
    refine ih _ ?_
    simpa only [List.append_assoc, List.cons_append, List.nil_append, List.take_succ_cons, List.take_zero] using h2
theorem kt320 {T D : List (Nat × Nat)} {w ν0 : Mu} {md : Int32} {ν : Mu} (hmd : md = 0 ∨ md = 1) (hG : GoT T) (hp : D ++ (List.range 6).flatMap (fun k => [(83, k), (88, k), (91, k)]) <+: T) (h : KJ T D w ν0 md ν) (hp2 : D ++ (List.range 6).flatMap (fun k => [(83, k), (88, k), (91, k)]) ++ (List.range 20).flatMap (fun k => [(86, k)]) <+: T) : Ev (Mo_keepsTold_320 59 FU 0 ν) (fun _ ν' => KJ T (D ++ (List.range 6).flatMap (fun k => [(83, k), (88, k), (91, k)]) ++ (List.range 20).flatMap (fun k => [(86, k)])) w ν0 md ν') := by
  unfold Mo_keepsTold_320
  refine kj_lp (F := fun kb => Mo_keepsTold_320b 59 kb) (fun k => [(83, k), (88, k), (91, k)]) 6 (by omega) hp h (fun A ν' hν => ?_) (fun k A ν' E hk hE hν ih => ?_)
  · show Ev (Mo_keepsTold_320b 59 A _ ν') _
    unfold Mo_keepsTold_320b
    rw [if_pos (show (6 : Int32) ≤ nI 6 from nI_le (a := 6) (Nat.le_refl _) (by omega))]
    exact kt382 hmd hG hp2 hν
  · show Ev (Mo_keepsTold_320b 59 A _ ν') _
    unfold Mo_keepsTold_320b
    simp only [Nat.reduceAdd]
    rw [if_neg (show ¬ (6 : Int32) ≤ nI k from nI_ge (b := 6) hk (by omega)), nI_1]
    refine kj_arr hmd hG hν (by
      have := prT 1 hE
      simpa only [List.append_assoc, List.cons_append, List.nil_append, List.take_succ_cons, List.take_zero] using this) hk (by omega) (fun ν2 h2 => ?_)
    refine kj_arr hmd hG h2 (by
      have := prT 2 hE
      simpa only [List.append_assoc, List.cons_append, List.nil_append, List.take_succ_cons, List.take_zero] using this) hk (by omega) (fun ν3 h3 => ?_)
    refine kj_arr hmd hG h3 (by
      have := prT 3 hE
      simpa only [List.append_assoc, List.cons_append, List.nil_append, List.take_succ_cons, List.take_zero] using this) hk (by omega) (fun ν4 h4 => ?_)
    refine ih _ ?_
    simpa only [List.append_assoc, List.cons_append, List.nil_append, List.take_succ_cons, List.take_zero] using h4
theorem kt226 {T D : List (Nat × Nat)} {w ν0 : Mu} {md : Int32} {ν : Mu} (hmd : md = 0 ∨ md = 1) (hG : GoT T) (hp : D ++ (List.range 8).flatMap (fun k => [(81, k), (82, k), (93, k), (94, k), (95, k)]) <+: T) (h : KJ T D w ν0 md ν) (hp2 : D ++ (List.range 8).flatMap (fun k => [(81, k), (82, k), (93, k), (94, k), (95, k)]) ++ (List.range 6).flatMap (fun k => [(83, k), (88, k), (91, k)]) ++ (List.range 20).flatMap (fun k => [(86, k)]) <+: T) : Ev (Mo_keepsTold_226 59 FU 0 ν) (fun _ ν' => KJ T (D ++ (List.range 8).flatMap (fun k => [(81, k), (82, k), (93, k), (94, k), (95, k)]) ++ (List.range 6).flatMap (fun k => [(83, k), (88, k), (91, k)]) ++ (List.range 20).flatMap (fun k => [(86, k)])) w ν0 md ν') := by
  unfold Mo_keepsTold_226
  refine kj_lp (F := fun kb => Mo_keepsTold_226b 59 kb) (fun k => [(81, k), (82, k), (93, k), (94, k), (95, k)]) 8 (by omega) hp h (fun A ν' hν => ?_) (fun k A ν' E hk hE hν ih => ?_)
  · show Ev (Mo_keepsTold_226b 59 A _ ν') _
    unfold Mo_keepsTold_226b
    rw [if_pos (show (8 : Int32) ≤ nI 8 from nI_le (a := 8) (Nat.le_refl _) (by omega))]
    exact kt320 hmd hG ((List.prefix_append _ _).trans hp2) hν hp2
  · show Ev (Mo_keepsTold_226b 59 A _ ν') _
    unfold Mo_keepsTold_226b
    simp only [Nat.reduceAdd]
    rw [if_neg (show ¬ (8 : Int32) ≤ nI k from nI_ge (b := 8) hk (by omega)), nI_1]
    refine kj_arr hmd hG hν (by
      have := prT 1 hE
      simpa only [List.append_assoc, List.cons_append, List.nil_append, List.take_succ_cons, List.take_zero] using this) hk (by omega) (fun ν2 h2 => ?_)
    refine kj_arr hmd hG h2 (by
      have := prT 2 hE
      simpa only [List.append_assoc, List.cons_append, List.nil_append, List.take_succ_cons, List.take_zero] using this) hk (by omega) (fun ν3 h3 => ?_)
    refine kj_arr hmd hG h3 (by
      have := prT 3 hE
      simpa only [List.append_assoc, List.cons_append, List.nil_append, List.take_succ_cons, List.take_zero] using this) hk (by omega) (fun ν4 h4 => ?_)
    refine kj_arr hmd hG h4 (by
      have := prT 4 hE
      simpa only [List.append_assoc, List.cons_append, List.nil_append, List.take_succ_cons, List.take_zero] using this) hk (by omega) (fun ν5 h5 => ?_)
    refine kj_arr hmd hG h5 (by
      have := prT 5 hE
      simpa only [List.append_assoc, List.cons_append, List.nil_append, List.take_succ_cons, List.take_zero] using this) hk (by omega) (fun ν6 h6 => ?_)
    refine ih _ ?_
    simpa only [List.append_assoc, List.cons_append, List.nil_append, List.take_succ_cons, List.take_zero] using h6
theorem kt196 {T D : List (Nat × Nat)} {w ν0 : Mu} {md : Int32} {ν : Mu} (hmd : md = 0 ∨ md = 1) (hG : GoT T) (hp : D ++ (List.range 64).flatMap (fun k => [(76, k)]) <+: T) (h : KJ T D w ν0 md ν) (hp2 : D ++ (List.range 64).flatMap (fun k => [(76, k)]) ++ (List.range 8).flatMap (fun k => [(81, k), (82, k), (93, k), (94, k), (95, k)]) ++ (List.range 6).flatMap (fun k => [(83, k), (88, k), (91, k)]) ++ (List.range 20).flatMap (fun k => [(86, k)]) <+: T) : Ev (Mo_keepsTold_196 59 FU 0 ν) (fun _ ν' => KJ T (D ++ (List.range 64).flatMap (fun k => [(76, k)]) ++ (List.range 8).flatMap (fun k => [(81, k), (82, k), (93, k), (94, k), (95, k)]) ++ (List.range 6).flatMap (fun k => [(83, k), (88, k), (91, k)]) ++ (List.range 20).flatMap (fun k => [(86, k)])) w ν0 md ν') := by
  unfold Mo_keepsTold_196
  refine kj_lp (F := fun kb => Mo_keepsTold_196b 59 kb) (fun k => [(76, k)]) 64 (by omega) hp h (fun A ν' hν => ?_) (fun k A ν' E hk hE hν ih => ?_)
  · show Ev (Mo_keepsTold_196b 59 A _ ν') _
    unfold Mo_keepsTold_196b
    rw [if_pos (show (64 : Int32) ≤ nI 64 from nI_le (a := 64) (Nat.le_refl _) (by omega))]
    exact kt226 hmd hG ((List.prefix_append _ _).trans ((List.prefix_append _ _).trans hp2)) hν hp2
  · show Ev (Mo_keepsTold_196b 59 A _ ν') _
    unfold Mo_keepsTold_196b
    simp only [Nat.reduceAdd]
    rw [if_neg (show ¬ (64 : Int32) ≤ nI k from nI_ge (b := 64) hk (by omega)), nI_1]
    refine kj_arr hmd hG hν (by
      have := prT 1 hE
      simpa only [List.append_assoc, List.cons_append, List.nil_append, List.take_succ_cons, List.take_zero] using this) (by omega) (by omega) (fun ν2 h2 => ?_)
    refine ih _ ?_
    simpa only [List.append_assoc, List.cons_append, List.nil_append, List.take_succ_cons, List.take_zero] using h2
theorem kt166 {T D : List (Nat × Nat)} {w ν0 : Mu} {md : Int32} {ν : Mu} (hmd : md = 0 ∨ md = 1) (hG : GoT T) (hp : D ++ (List.range 16).flatMap (fun k => [(77, k)]) <+: T) (h : KJ T D w ν0 md ν) (hp2 : D ++ (List.range 16).flatMap (fun k => [(77, k)]) ++ (List.range 64).flatMap (fun k => [(76, k)]) ++ (List.range 8).flatMap (fun k => [(81, k), (82, k), (93, k), (94, k), (95, k)]) ++ (List.range 6).flatMap (fun k => [(83, k), (88, k), (91, k)]) ++ (List.range 20).flatMap (fun k => [(86, k)]) <+: T) : Ev (Mo_keepsTold_166 59 FU 0 ν) (fun _ ν' => KJ T (D ++ (List.range 16).flatMap (fun k => [(77, k)]) ++ (List.range 64).flatMap (fun k => [(76, k)]) ++ (List.range 8).flatMap (fun k => [(81, k), (82, k), (93, k), (94, k), (95, k)]) ++ (List.range 6).flatMap (fun k => [(83, k), (88, k), (91, k)]) ++ (List.range 20).flatMap (fun k => [(86, k)])) w ν0 md ν') := by
  unfold Mo_keepsTold_166
  refine kj_lp (F := fun kb => Mo_keepsTold_166b 59 kb) (fun k => [(77, k)]) 16 (by omega) hp h (fun A ν' hν => ?_) (fun k A ν' E hk hE hν ih => ?_)
  · show Ev (Mo_keepsTold_166b 59 A _ ν') _
    unfold Mo_keepsTold_166b
    rw [if_pos (show (16 : Int32) ≤ nI 16 from nI_le (a := 16) (Nat.le_refl _) (by omega))]
    exact kt196 hmd hG ((List.prefix_append _ _).trans ((List.prefix_append _ _).trans ((List.prefix_append _ _).trans hp2))) hν hp2
  · show Ev (Mo_keepsTold_166b 59 A _ ν') _
    unfold Mo_keepsTold_166b
    simp only [Nat.reduceAdd]
    rw [if_neg (show ¬ (16 : Int32) ≤ nI k from nI_ge (b := 16) hk (by omega)), nI_1]
    refine kj_arr hmd hG hν (by
      have := prT 1 hE
      simpa only [List.append_assoc, List.cons_append, List.nil_append, List.take_succ_cons, List.take_zero] using this) (by omega) (by omega) (fun ν2 h2 => ?_)
    refine ih _ ?_
    simpa only [List.append_assoc, List.cons_append, List.nil_append, List.take_succ_cons, List.take_zero] using h2
theorem k_told {T D : List (Nat × Nat)} {w ν0 : Mu} {md : Int32} {ν : Mu} (hmd : md = 0 ∨ md = 1) (hG : GoT T) (h : KJ T D w ν0 md ν) (hp2 : D ++ [(59, 6), (59, 31), (59, 34), (59, 36), (59, 41), (59, 42), (59, 45), (59, 51), (59, 55), (59, 58), (59, 61), (85, 0), (85, 1)] ++ (List.range 16).flatMap (fun k => [(77, k)]) ++ (List.range 64).flatMap (fun k => [(76, k)]) ++ (List.range 8).flatMap (fun k => [(81, k), (82, k), (93, k), (94, k), (95, k)]) ++ (List.range 6).flatMap (fun k => [(83, k), (88, k), (91, k)]) ++ (List.range 20).flatMap (fun k => [(86, k)]) <+: T) : Ev (Mo_keepsTold 59 ν) (fun _ ν' => KJ T (D ++ [(59, 6), (59, 31), (59, 34), (59, 36), (59, 41), (59, 42), (59, 45), (59, 51), (59, 55), (59, 58), (59, 61), (85, 0), (85, 1)] ++ (List.range 16).flatMap (fun k => [(77, k)]) ++ (List.range 64).flatMap (fun k => [(76, k)]) ++ (List.range 8).flatMap (fun k => [(81, k), (82, k), (93, k), (94, k), (95, k)]) ++ (List.range 6).flatMap (fun k => [(83, k), (88, k), (91, k)]) ++ (List.range 20).flatMap (fun k => [(86, k)])) w ν0 md ν') := by
  have hE : D ++ [(59, 6), (59, 31), (59, 34), (59, 36), (59, 41), (59, 42), (59, 45), (59, 51), (59, 55), (59, 58), (59, 61), (85, 0), (85, 1)] <+: T := (List.prefix_append _ _).trans ((List.prefix_append _ _).trans ((List.prefix_append _ _).trans ((List.prefix_append _ _).trans ((List.prefix_append _ _).trans hp2))))
  unfold Mo_keepsTold
  simp only [Nat.reduceAdd]
  refine kj_fld (i := 6) hmd hG h (by
    have := prT 1 hE
    simpa only [List.append_assoc, List.cons_append, List.nil_append, List.take_succ_cons, List.take_zero] using this) (fun ν2 h2 => ?_)
  refine kj_fld (i := 31) hmd hG h2 (by
    have := prT 2 hE
    simpa only [List.append_assoc, List.cons_append, List.nil_append, List.take_succ_cons, List.take_zero] using this) (fun ν3 h3 => ?_)
  refine kj_fld (i := 34) hmd hG h3 (by
    have := prT 3 hE
    simpa only [List.append_assoc, List.cons_append, List.nil_append, List.take_succ_cons, List.take_zero] using this) (fun ν4 h4 => ?_)
  refine kj_fld (i := 36) hmd hG h4 (by
    have := prT 4 hE
    simpa only [List.append_assoc, List.cons_append, List.nil_append, List.take_succ_cons, List.take_zero] using this) (fun ν5 h5 => ?_)
  refine kj_fld (i := 41) hmd hG h5 (by
    have := prT 5 hE
    simpa only [List.append_assoc, List.cons_append, List.nil_append, List.take_succ_cons, List.take_zero] using this) (fun ν6 h6 => ?_)
  refine kj_fld (i := 42) hmd hG h6 (by
    have := prT 6 hE
    simpa only [List.append_assoc, List.cons_append, List.nil_append, List.take_succ_cons, List.take_zero] using this) (fun ν7 h7 => ?_)
  refine kj_fld (i := 45) hmd hG h7 (by
    have := prT 7 hE
    simpa only [List.append_assoc, List.cons_append, List.nil_append, List.take_succ_cons, List.take_zero] using this) (fun ν8 h8 => ?_)
  refine kj_fld (i := 51) hmd hG h8 (by
    have := prT 8 hE
    simpa only [List.append_assoc, List.cons_append, List.nil_append, List.take_succ_cons, List.take_zero] using this) (fun ν9 h9 => ?_)
  refine kj_fld (i := 55) hmd hG h9 (by
    have := prT 9 hE
    simpa only [List.append_assoc, List.cons_append, List.nil_append, List.take_succ_cons, List.take_zero] using this) (fun ν10 h10 => ?_)
  refine kj_fld (i := 58) hmd hG h10 (by
    have := prT 10 hE
    simpa only [List.append_assoc, List.cons_append, List.nil_append, List.take_succ_cons, List.take_zero] using this) (fun ν11 h11 => ?_)
  refine kj_fld (i := 61) hmd hG h11 (by
    have := prT 11 hE
    simpa only [List.append_assoc, List.cons_append, List.nil_append, List.take_succ_cons, List.take_zero] using this) (fun ν12 h12 => ?_)
  refine kj_arr (i := 0) hmd hG h12 (by
    have := prT 12 hE
    simpa only [List.append_assoc, List.cons_append, List.nil_append, List.take_succ_cons, List.take_zero] using this) (by omega) (by omega) (fun ν13 h13 => ?_)
  refine kj_arr (i := 1) hmd hG h13 (by
    have := prT 13 hE
    simpa only [List.append_assoc, List.cons_append, List.nil_append, List.take_succ_cons, List.take_zero] using this) (by omega) (by omega) (fun ν14 h14 => ?_)
  have hc : KJ T (D ++ [(59, 6), (59, 31), (59, 34), (59, 36), (59, 41), (59, 42), (59, 45), (59, 51), (59, 55), (59, 58), (59, 61), (85, 0), (85, 1)]) w ν0 md ν14 := by simpa only [List.append_assoc, List.cons_append, List.nil_append, List.take_succ_cons, List.take_zero] using h14
  exact kt166 hmd hG ((List.prefix_append _ _).trans ((List.prefix_append _ _).trans ((List.prefix_append _ _).trans ((List.prefix_append _ _).trans hp2)))) hc hp2
theorem kl96 {T D : List (Nat × Nat)} {w ν0 : Mu} {md : Int32} {ν : Mu} (hmd : md = 0 ∨ md = 1) (hG : GoT T) (hp : D ++ (List.range 400).flatMap (fun k => [(71, k), (72, k)]) <+: T) (h : KJ T D w ν0 md ν) : Ev (Mo_keepsLaw_96 59 FU 0 ν) (fun _ ν' => KJ T (D ++ (List.range 400).flatMap (fun k => [(71, k), (72, k)])) w ν0 md ν') := by
  unfold Mo_keepsLaw_96
  refine kj_lp (F := fun kb => Mo_keepsLaw_96b 59 kb) (fun k => [(71, k), (72, k)]) 400 (by omega) hp h (fun A ν' hν => ?_) (fun k A ν' E hk hE hν ih => ?_)
  · show Ev (Mo_keepsLaw_96b 59 A _ ν') _
    unfold Mo_keepsLaw_96b
    rw [if_pos (show (400 : Int32) ≤ nI 400 from nI_le (a := 400) (Nat.le_refl _) (by omega))]
    exact ev_some hν
  · show Ev (Mo_keepsLaw_96b 59 A _ ν') _
    unfold Mo_keepsLaw_96b
    simp only [Nat.reduceAdd]
    rw [if_neg (show ¬ (400 : Int32) ≤ nI k from nI_ge (b := 400) hk (by omega)), nI_1]
    refine kj_arr hmd hG hν (by
      have := prT 1 hE
      simpa only [List.append_assoc, List.cons_append, List.nil_append, List.take_succ_cons, List.take_zero] using this) (by omega) (by omega) (fun ν2 h2 => ?_)
    refine kj_arr hmd hG h2 (by
      have := prT 2 hE
      simpa only [List.append_assoc, List.cons_append, List.nil_append, List.take_succ_cons, List.take_zero] using this) (by omega) (by omega) (fun ν3 h3 => ?_)
    refine ih _ ?_
    simpa only [List.append_assoc, List.cons_append, List.nil_append, List.take_succ_cons, List.take_zero] using h3
theorem kl18 {T D : List (Nat × Nat)} {w ν0 : Mu} {md : Int32} {ν : Mu} (hmd : md = 0 ∨ md = 1) (hG : GoT T) (hp : D ++ (List.range 16).flatMap (fun k => [(67, k), (68, k), (69, k), (70, k)]) <+: T) (h : KJ T D w ν0 md ν) (hp2 : D ++ (List.range 16).flatMap (fun k => [(67, k), (68, k), (69, k), (70, k)]) ++ (List.range 400).flatMap (fun k => [(71, k), (72, k)]) <+: T) : Ev (Mo_keepsLaw_18 59 FU 0 ν) (fun _ ν' => KJ T (D ++ (List.range 16).flatMap (fun k => [(67, k), (68, k), (69, k), (70, k)]) ++ (List.range 400).flatMap (fun k => [(71, k), (72, k)])) w ν0 md ν') := by
  unfold Mo_keepsLaw_18
  refine kj_lp (F := fun kb => Mo_keepsLaw_18b 59 kb) (fun k => [(67, k), (68, k), (69, k), (70, k)]) 16 (by omega) hp h (fun A ν' hν => ?_) (fun k A ν' E hk hE hν ih => ?_)
  · show Ev (Mo_keepsLaw_18b 59 A _ ν') _
    unfold Mo_keepsLaw_18b
    rw [if_pos (show (16 : Int32) ≤ nI 16 from nI_le (a := 16) (Nat.le_refl _) (by omega))]
    exact kl96 hmd hG hp2 hν
  · show Ev (Mo_keepsLaw_18b 59 A _ ν') _
    unfold Mo_keepsLaw_18b
    simp only [Nat.reduceAdd]
    rw [if_neg (show ¬ (16 : Int32) ≤ nI k from nI_ge (b := 16) hk (by omega)), nI_1]
    refine kj_arr hmd hG hν (by
      have := prT 1 hE
      simpa only [List.append_assoc, List.cons_append, List.nil_append, List.take_succ_cons, List.take_zero] using this) (by omega) (by omega) (fun ν2 h2 => ?_)
    refine kj_arr hmd hG h2 (by
      have := prT 2 hE
      simpa only [List.append_assoc, List.cons_append, List.nil_append, List.take_succ_cons, List.take_zero] using this) (by omega) (by omega) (fun ν3 h3 => ?_)
    refine kj_arr hmd hG h3 (by
      have := prT 3 hE
      simpa only [List.append_assoc, List.cons_append, List.nil_append, List.take_succ_cons, List.take_zero] using this) (by omega) (by omega) (fun ν4 h4 => ?_)
    refine kj_arr hmd hG h4 (by
      have := prT 4 hE
      simpa only [List.append_assoc, List.cons_append, List.nil_append, List.take_succ_cons, List.take_zero] using this) (by omega) (by omega) (fun ν5 h5 => ?_)
    refine ih _ ?_
    simpa only [List.append_assoc, List.cons_append, List.nil_append, List.take_succ_cons, List.take_zero] using h5
theorem k_law {T D : List (Nat × Nat)} {w ν0 : Mu} {md : Int32} {ν : Mu} (hmd : md = 0 ∨ md = 1) (hG : GoT T) (h : KJ T D w ν0 md ν) (hp2 : D ++ [(66, 0)] ++ (List.range 16).flatMap (fun k => [(67, k), (68, k), (69, k), (70, k)]) ++ (List.range 400).flatMap (fun k => [(71, k), (72, k)]) <+: T) : Ev (Mo_keepsLaw 59 ν) (fun _ ν' => KJ T (D ++ [(66, 0)] ++ (List.range 16).flatMap (fun k => [(67, k), (68, k), (69, k), (70, k)]) ++ (List.range 400).flatMap (fun k => [(71, k), (72, k)])) w ν0 md ν') := by
  unfold Mo_keepsLaw
  simp only [Nat.reduceAdd]
  refine kj_arr (i := 0) hmd hG h ((List.prefix_append _ _).trans ((List.prefix_append _ _).trans hp2)) (by omega) (by omega) (fun ν2 h2 => ?_)
  exact kl18 hmd hG ((List.prefix_append _ _).trans hp2) h2 hp2
theorem ki69 {T D : List (Nat × Nat)} {w ν0 : Mu} {md : Int32} {ν : Mu} {v : Int32} (hmd : md = 0 ∨ md = 1) (hG : GoT T) (hp : D ++ (List.range 600).flatMap (fun k => [(63, k)]) <+: T) (h : KJ T D w ν0 md ν) (hp2 : D ++ (List.range 600).flatMap (fun k => [(63, k)]) ++ [(66, 0)] ++ (List.range 16).flatMap (fun k => [(67, k), (68, k), (69, k), (70, k)]) ++ (List.range 400).flatMap (fun k => [(71, k), (72, k)]) <+: T) : Ev (Mo_image_69 59 v FU 0 ν) (fun x ν' => x = (1 : Int32) ∧ ∃ ν2, KJ T (D ++ (List.range 600).flatMap (fun k => [(63, k)]) ++ [(66, 0)] ++ (List.range 16).flatMap (fun k => [(67, k), (68, k), (69, k), (70, k)]) ++ (List.range 400).flatMap (fun k => [(71, k), (72, k)])) w ν0 md ν2 ∧ ν' = if v = 0 then up2 ν2 59 3 0 else ν2) := by
  unfold Mo_image_69
  refine kj_lp (F := fun kb => Mo_image_69b 59 kb v) (fun k => [(63, k)]) 600 (by omega) hp h (fun A ν' hν => ?_) (fun k A ν' E hk hE hν ih => ?_)
  · show Ev (Mo_image_69b 59 A v _ ν') _
    unfold Mo_image_69b
    rw [if_pos (show (600 : Int32) ≤ nI 600 from nI_le (a := 600) (Nat.le_refl _) (by omega))]
    refine ev_cl (ev_mono (k_law hmd hG hν hp2) (fun _ ν2 g => ?_))
    by_cases c : v = 0
    · rw [if_pos c, pF_eq]; exact ev_some ⟨rfl, ν2, g, by rw [if_pos c]⟩
    · rw [if_neg c]; exact ev_some ⟨rfl, ν2, g, by rw [if_neg c]⟩
  · show Ev (Mo_image_69b 59 A v _ ν') _
    unfold Mo_image_69b
    simp only [Nat.reduceAdd]
    rw [if_neg (show ¬ (600 : Int32) ≤ nI k from nI_ge (b := 600) hk (by omega)), nI_1]
    refine kj_arr hmd hG hν (by
      have := prT 1 hE
      simpa only [List.append_assoc, List.cons_append, List.nil_append, List.take_succ_cons, List.take_zero] using this) hk (by omega) (fun ν2 h2 => ?_)
    refine ih _ ?_
    simpa only [List.append_assoc, List.cons_append, List.nil_append, List.take_succ_cons, List.take_zero] using h2
theorem ki35x {T D : List (Nat × Nat)} {w ν0 : Mu} {md : Int32} {ν : Mu} {v : Int32} (hmd : md = 0 ∨ md = 1) (hG : GoT T) (hp : D ++ (List.range 118).flatMap (fun k => [(60, k)]) <+: T) (h : KJ T D w ν0 md ν) (hp2 : D ++ (List.range 118).flatMap (fun k => [(60, k)]) ++ [(59, 6), (59, 31), (59, 34), (59, 36), (59, 41), (59, 42), (59, 45), (59, 51), (59, 55), (59, 58), (59, 61), (85, 0), (85, 1)] ++ (List.range 16).flatMap (fun k => [(77, k)]) ++ (List.range 64).flatMap (fun k => [(76, k)]) ++ (List.range 8).flatMap (fun k => [(81, k), (82, k), (93, k), (94, k), (95, k)]) ++ (List.range 6).flatMap (fun k => [(83, k), (88, k), (91, k)]) ++ (List.range 20).flatMap (fun k => [(86, k)]) ++ (List.range 600).flatMap (fun k => [(63, k)]) ++ [(66, 0)] ++ (List.range 16).flatMap (fun k => [(67, k), (68, k), (69, k), (70, k)]) ++ (List.range 400).flatMap (fun k => [(71, k), (72, k)]) <+: T) : Ev (Mo_image_35 59 v FU 0 ν) (fun x ν' => x = (1 : Int32) ∧ ∃ ν2, KJ T (D ++ (List.range 118).flatMap (fun k => [(60, k)]) ++ [(59, 6), (59, 31), (59, 34), (59, 36), (59, 41), (59, 42), (59, 45), (59, 51), (59, 55), (59, 58), (59, 61), (85, 0), (85, 1)] ++ (List.range 16).flatMap (fun k => [(77, k)]) ++ (List.range 64).flatMap (fun k => [(76, k)]) ++ (List.range 8).flatMap (fun k => [(81, k), (82, k), (93, k), (94, k), (95, k)]) ++ (List.range 6).flatMap (fun k => [(83, k), (88, k), (91, k)]) ++ (List.range 20).flatMap (fun k => [(86, k)]) ++ (List.range 600).flatMap (fun k => [(63, k)]) ++ [(66, 0)] ++ (List.range 16).flatMap (fun k => [(67, k), (68, k), (69, k), (70, k)]) ++ (List.range 400).flatMap (fun k => [(71, k), (72, k)])) w ν0 md ν2 ∧ ν' = if v = 0 then up2 ν2 59 3 0 else ν2) := by
  unfold Mo_image_35
  refine kj_lp (F := fun kb => Mo_image_35b 59 kb v) (fun k => [(60, k)]) 118 (by omega) hp h (fun A ν' hν => ?_) (fun k A ν' E hk hE hν ih => ?_)
  · show Ev (Mo_image_35b 59 A v _ ν') _
    unfold Mo_image_35b
    rw [if_pos (show (118 : Int32) ≤ nI 118 from nI_le (a := 118) (Nat.le_refl _) (by omega))]
    refine ev_cl (ev_mono (k_told hmd hG hν ((List.prefix_append _ _).trans ((List.prefix_append _ _).trans ((List.prefix_append _ _).trans ((List.prefix_append _ _).trans hp2))))) (fun _ ν2 g => ?_))
    exact ki69 hmd hG ((List.prefix_append _ _).trans ((List.prefix_append _ _).trans ((List.prefix_append _ _).trans hp2))) g hp2
  · show Ev (Mo_image_35b 59 A v _ ν') _
    unfold Mo_image_35b
    simp only [Nat.reduceAdd]
    rw [if_neg (show ¬ (118 : Int32) ≤ nI k from nI_ge (b := 118) hk (by omega)), nI_1]
    refine kj_arr hmd hG hν (by
      have := prT 1 hE
      simpa only [List.append_assoc, List.cons_append, List.nil_append, List.take_succ_cons, List.take_zero] using this) hk (by omega) (fun ν2 h2 => ?_)
    refine ih _ ?_
    simpa only [List.append_assoc, List.cons_append, List.nil_append, List.take_succ_cons, List.take_zero] using h2
