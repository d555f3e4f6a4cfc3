/-! L3: THE REFERENCE READS A CONDITION -/
def cmS (T : Nat → Nat) (n p : Nat) : PR := pbd (suS T n p) (fun c p1 => if tK T n p1 = 60 ∨ tK T n p1 = 61 ∨ tK T n p1 = 62 then pbd (suS T n (tE T n p1)) (fun c2 p2 => .ok (c ++ c2 ++ [(tK T n p1, 0)], p2)) else .error (1, tF T n p1))
theorem cm_sz {T : Nat → Nat} {n p : Nat} {c : Cds} {p' : Nat} (hp : p ≤ n) (h : cmS T n p = .ok (c, p')) : p < p' ∧ p' ≤ n ∧ xl c + p ≤ p' := by
  obtain ⟨c1, p1, h1, h2⟩ := pbd_ok h
  obtain ⟨a1, a2, a3, a4⟩ := su_sz hp h1
  split at h2
  · rename_i e1
    have hg := tE_gt (T := T) a2 (by omega)
    obtain ⟨c2, p2, h3, h4⟩ := pbd_ok h2
    obtain ⟨b1, b2, b3, b4⟩ := su_sz (tE_le (T := T) a2) h3
    cases h4
    refine ⟨by omega, b2, ?_⟩
    rw [xl_app, xl_app, xl_one (by show tK T n p1 ≠ 47; omega)]; omega
  · cases h2
theorem gm_cmp {ν0 : Mu} {T : Nat → Nat} {n p : Nat} {os : Cds} {ν : Mu} (h : GdM ν0 T n p os ν) (hl : os.length ≤ p) (hl4 : os.length < 400) : Ev (Mo_readCompared 59 ν) (fun r ν' => StM ν0 T n os (cmS T n p) r ν') := by
  have hp := h.2.2.1
  have hn := gm_n h.2
  unfold Mo_readCompared cmS
  refine ev_cl (ev_mono (gm_sum h hl hl4) (fun r ν1 h1 => ?_))
  cases hu : suS T n p with
  | error er =>
    rw [hu] at h1
    rw [if_pos h1.1]
    exact ev_some ⟨rfl, h1.2⟩
  | ok q =>
    rw [hu] at h1
    obtain ⟨a1, a2, a3, a4⟩ := su_sz (c := q.1) (p' := q.2) hp hu
    have hl2 : (os ++ expL q.1).length = os.length + xl q.1 := List.length_append
    have ht := h1.2.2.2.2.1
    have hE2 := tE_le (T := T) a2
    show Ev _ (fun r ν' => StM ν0 T n os (if tK T n q.2 = 60 ∨ tK T n q.2 = 61 ∨ tK T n q.2 = 62 then pbd (suS T n (tE T n q.2)) (fun c2 p2 => .ok (q.1 ++ c2 ++ [(tK T n q.2, 0)], p2)) else .error (1, tF T n q.2)) r ν')
    rw [h1.1, if_neg (show ¬ (0 : Int32) = -1 by decide), mo_isSign (v := 60) ht a2 60 rfl (by decide), cl_eq]
    by_cases d : tK T n q.2 = 60 ∨ tK T n q.2 = 61 ∨ tK T n q.2 = 62
    · have hg := tE_gt (T := T) a2 (by omega)
      rw [if_pos d]
      have hval : ν1 59 13 = nI (tK T n q.2) := ht.2.2.2.1 (by
        show tkM (tK T n q.2) = 4
        rcases d with d | d | d <;> rw [d] <;> rfl)
      have go : ∀ (o : Nat) (v : Int32), v = nI o → exp1 (tK T n q.2, 0) = [(o, 0)] → Ev (Mo_readCompared_73 59 v ν1) (fun r ν' => StM ν0 T n os (pbd (suS T n (tE T n q.2)) (fun c2 p2 => .ok (q.1 ++ c2 ++ [(tK T n q.2, 0)], p2))) r ν') := by
        intro o v hv ho
        unfold Mo_readCompared_73
        refine ev_cl (ev_mono (gm_reads h1.2) (fun _ ν2 h2 => ev_cl (ev_mono (gm_sum h2 (by omega) (by omega)) (fun r ν3 h3 => ?_))))
        cases hv2 : suS T n (tE T n q.2) with
        | error er =>
          rw [hv2] at h3
          rw [if_pos h3.1]
          exact ev_some ⟨rfl, h3.2⟩
        | ok q2 =>
          rw [hv2] at h3
          obtain ⟨b1, b2, b3, b4⟩ := su_sz (c := q2.1) (p' := q2.2) hE2 hv2
          have hl3 : (os ++ expL q.1 ++ expL q2.1).length = os.length + xl q.1 + xl q2.1 := by rw [List.length_append, hl2]; rfl
          rw [h3.1, if_neg (show ¬ (0 : Int32) = -1 by decide)]
          refine ev_cl (ev_mono (gm_emits h3.2 (by omega) o 0 hv rfl) (fun _ ν4 h4 => ev_some ⟨rfl, ?_⟩))
          show GdM ν0 T n q2.2 (os ++ expL (q.1 ++ q2.1 ++ [(tK T n q.2, 0)])) ν4
          have hx : expL (q.1 ++ q2.1 ++ [(tK T n q.2, 0)]) = expL q.1 ++ expL q2.1 ++ [(o, 0)] := by
            rw [expL_app, expL_app]
            show expL q.1 ++ expL q2.1 ++ (exp1 (tK T n q.2, 0) ++ []) = _
            rw [ho, List.append_nil]
          rw [hx, ← List.append_assoc, ← List.append_assoc]; exact h4
      have m43 : Ev (Mo_readCompared_43 59 ν1) (fun r ν' => StM ν0 T n os (pbd (suS T n (tE T n q.2)) (fun c2 p2 => .ok (q.1 ++ c2 ++ [(tK T n q.2, 0)], p2))) r ν') := by
        unfold Mo_readCompared_43
        rw [gF_eq, hval]
        by_cases c60 : tK T n q.2 = 60
        · rw [if_pos (show nI (tK T n q.2) = 60 by rw [c60]; rfl)]
          exact go 6 6 rfl (by rw [c60]; rfl)
        rw [if_neg (fun z : nI (tK T n q.2) = 60 => c60 ((tK_is a2 60 (by omega)).mp z)), gF_eq, hval]
        by_cases c61 : tK T n q.2 = 61
        · rw [if_pos (show nI (tK T n q.2) = 61 by rw [c61]; rfl)]
          exact go 7 7 rfl (by rw [c61]; rfl)
        · rw [if_neg (fun z : nI (tK T n q.2) = 61 => c61 ((tK_is a2 61 (by omega)).mp z))]
          have c62 : tK T n q.2 = 62 := by omega
          exact go 8 8 rfl (by rw [c62]; rfl)
      by_cases c60 : tK T n q.2 = 60
      · rw [if_pos c60, if_neg (show ¬ (1 : Int32) = 0 by decide)]; exact m43
      rw [if_neg c60, if_pos rfl, mo_isSign (v := 61) ht a2 61 rfl (by decide), cl_eq]
      by_cases c61 : tK T n q.2 = 61
      · rw [if_pos c61, if_neg (show ¬ (1 : Int32) = 0 by decide)]; exact m43
      have c62 : tK T n q.2 = 62 := by omega
      rw [if_neg c61, if_pos rfl, mo_isSign (v := 62) ht a2 62 rfl (by decide), cl_eq, if_pos c62, if_neg (show ¬ (1 : Int32) = 0 by decide)]; exact m43
    · rw [if_neg d, if_neg (fun z => d (Or.inl z)), if_pos rfl, mo_isSign (v := 61) ht a2 61 rfl (by decide), cl_eq, if_neg (fun z => d (Or.inr (Or.inl z))), if_pos rfl, mo_isSign (v := 62) ht a2 62 rfl (by decide), cl_eq, if_neg (fun z => d (Or.inr (Or.inr z))), if_pos rfl]
      exact ev_cl (ev_mono (gm_errs h1.2 1 rfl) (fun r ν2 h2 => ev_some h2))
/-! the stack of what waits -/
def FrA (μ μ' : Mu) : Prop := (∀ k, k ∉ [59, 71, 72, 73] → μ' k = μ k) ∧ (∀ i, i < 800 → μ' 71 i = μ 71 i ∧ μ' 72 i = μ 72 i) ∧ ∀ j, j ∉ [10, 11, 12, 13, 23, 24, 26, 27, 28] → μ' 59 j = μ 59 j
theorem frA_refl (μ : Mu) : FrA μ μ := ⟨fun _ _ => rfl, fun _ _ => ⟨rfl, rfl⟩, fun _ _ => rfl⟩
theorem frA_Q {a b c : Mu} (h1 : FrA a b) (h2 : FrQ b c) : FrA a c := ⟨fun k h => (h2.1 k (fun z => h (by
  simp only [List.mem_cons, List.not_mem_nil, or_false] at z ⊢
  omega))).trans (h1.1 k h), fun i h => ⟨(h2.2.1 i h).1.trans (h1.2.1 i h).1, (h2.2.1 i h).2.trans (h1.2.1 i h).2⟩, fun j h => (h2.2.2 j (fun z => h (by
  simp only [List.mem_cons, List.not_mem_nil, or_false] at z ⊢
  omega))).trans (h1.2.2 j h)⟩
theorem frA_59 {a b : Mu} {j : Nat} {v : Int32} (h1 : FrA a b) (h : j ∈ [24, 26]) : FrA a (up2 b 59 j v) := ⟨fun k hk => (up2_ne (fun z => hk (by rw [z]; decide))).trans (h1.1 k hk), fun i hi => ⟨(up2_off (Or.inl (by decide))).trans (h1.2.1 i hi).1, (up2_off (Or.inl (by decide))).trans (h1.2.1 i hi).2⟩, fun i hi => (up2_off (Or.inr (fun z => hi (by
  rw [z]
  simp only [List.mem_cons, List.not_mem_nil, or_false] at h ⊢
  omega)))).trans (h1.2.2 i hi)⟩
theorem frA_73 {a b : Mu} {j : Nat} {v : Int32} (h1 : FrA a b) : FrA a (up2 b 73 j v) := ⟨fun k hk => (up2_ne (fun z => hk (by rw [z]; decide))).trans (h1.1 k hk), fun i hi => ⟨(up2_off (Or.inl (by decide))).trans (h1.2.1 i hi).1, (up2_off (Or.inl (by decide))).trans (h1.2.1 i hi).2⟩, fun i hi => (up2_off (Or.inl (by decide))).trans (h1.2.2 i hi)⟩
def PnM : List Nat → Mu → Prop
  | [], _ => True
  | a :: r, ν => (ν 73 r.length = nI a ∧ a < 13) ∧ PnM r ν
theorem pnM_of {μ μ' : Mu} (h : μ' 73 = μ 73) : ∀ {σ : List Nat}, PnM σ μ → PnM σ μ'
  | [], _ => trivial
  | _ :: r, hp => ⟨⟨by rw [h]; exact hp.1.1, hp.1.2⟩, pnM_of h (σ := r) hp.2⟩
theorem pnM_up {μ : Mu} {i : Nat} {v : Int32} : ∀ {σ : List Nat}, σ.length ≤ i → PnM σ μ → PnM σ (up2 μ 73 i v)
  | [], _, _ => trivial
  | _ :: r, hl, hp => by
    have hl2 : r.length + 1 ≤ i := hl
    exact ⟨⟨by rw [up2_off (Or.inr (by omega))]; exact hp.1.1, hp.1.2⟩, pnM_up (σ := r) (by omega) hp.2⟩
def AnM (ν0 : Mu) (T : Nat → Nat) (n p : Nat) (os : Cds) (σ : List Nat) (o : Nat) (ν : Mu) : Prop := FrA ν0 ν ∧ CoM T n p os ν ∧ ν 59 24 = nI o ∧ ν 59 26 = nI σ.length ∧ PnM σ ν
def ErA (ν0 : Mu) (e : Nat × Nat) (ν : Mu) : Prop := FrA ν0 ν ∧ ν 59 27 = nI e.1 ∧ ν 59 28 = nI e.2
section Stack
variable {ν0 : Mu} {T : Nat → Nat} {n p : Nat} {os : Cds} {σ : List Nat} {o : Nat} {ν : Mu}
theorem am_g (h : AnM ν0 T n p os σ o ν) : GdM ν T n p os ν := ⟨frQ_refl ν, h.2.1⟩
theorem am_Q {p' : Nat} {os' : Cds} {ν' : Mu} (h : AnM ν0 T n p os σ o ν) (g : GdM ν T n p' os' ν') : AnM ν0 T n p' os' σ o ν' := ⟨frA_Q h.1 g.1, g.2, (g.1.2.2 24 (by decide)).trans h.2.2.1, (g.1.2.2 26 (by decide)).trans h.2.2.2.1, pnM_of (g.1.1 73 (by decide)) h.2.2.2.2⟩
theorem am_E {e : Nat × Nat} {ν' : Mu} (h : AnM ν0 T n p os σ o ν) (g : ErM ν e ν') : ErA ν0 e ν' := ⟨frA_Q h.1 g.1, g.2⟩
theorem coM_of {μ μ' : Mu} (h1 : ∀ j, j ∈ [9, 10, 11, 12, 13, 23] → μ' 59 j = μ 59 j) (h2 : ∀ k, k ∈ [64, 65, 71, 72] → μ' k = μ k) (h : CoM T n p os μ) : CoM T n p os μ' := by
  obtain ⟨hI, hp, ht, h23, hl, hc⟩ := h
  refine ⟨moI_of hI (h1 9 (by decide)) (h2 64 (by decide)) (h2 65 (by decide)), hp, tokM_of (fun j hj => h1 j ?_) ht, (h1 23 (by decide)).trans h23, hl, fun i hi => ?_⟩
  · simp only [List.mem_cons, List.not_mem_nil, or_false] at hj ⊢; omega
  · rw [h2 71 (by decide), h2 72 (by decide)]; exact hc i hi
theorem am_waits (h : AnM ν0 T n p os σ o ν) (hs : σ.length < 40) {v : Int32} (a : Nat) (hv : v = nI a) (ha : a < 13) : Ev (Mo_waits 59 v ν) (fun _ ν' => AnM ν0 T n p os (a :: σ) o ν') := by
  obtain ⟨hF, hC, h24, h26, hP⟩ := h
  unfold Mo_waits
  simp only [Nat.reduceAdd]
  rw [gF_eq, h26, stA_nI hs (by omega), gF_eq, up2_off (Or.inl (by decide)), h26, pF_eq, nI_1, hv]
  refine ev_some ⟨frA_59 (frA_73 hF) (by decide), coM_of (fun j hj => ?_) (fun k hk => ?_) hC, ?_, ?_, ⟨?_, ha⟩, ?_⟩
  · rw [up2_off (Or.inr (fun z => by rw [z] at hj; exact absurd hj (by decide))), up2_off (Or.inl (by decide))]
  · rw [up2_ne (fun z => by rw [z] at hk; exact absurd hk (by decide)), up2_ne (fun z => by rw [z] at hk; exact absurd hk (by decide))]
  · rw [up2_off (Or.inr (by decide)), up2_off (Or.inl (by decide))]; exact h24
  · rw [up2_same]; rfl
  · rw [up2_off (Or.inl (by decide)), up2_same]
  · exact pnM_of (up2_ne (by decide)) (pnM_up (Nat.le_refl _) hP)
end Stack
theorem am_settles {ν0 : Mu} {T : Nat → Nat} {n p : Nat} {σ : List Nat} {a : Nat} (ha : a < 13) (hσ : σ.head? ≠ some a) {v : Int32} (hv : v = nI a) : ∀ (j fuel o : Nat) (os : Cds) (ν : Mu), j < fuel → (a = 9 → j ≤ o) → o ≤ 8 → os.length + j ≤ 400 → σ.length + j ≤ 40 → AnM ν0 T n p os (List.replicate j a ++ σ) o ν → Ev (Mo_settles_0 59 v fuel ν) (fun _ ν' => AnM ν0 T n p (os ++ List.replicate j (a, 0)) σ (if a = 9 then o - j else o) ν') := by
  subst hv
  intro j
  induction j with
  | zero =>
    intro fuel o os ν hf ho ho8 hl hs h
    obtain ⟨f, rfl⟩ : ∃ k, fuel = k + 1 := ⟨fuel - 1, by omega⟩
    have h' : AnM ν0 T n p os σ o ν := h
    have fin : AnM ν0 T n p (os ++ List.replicate 0 (a, 0)) σ (if a = 9 then o - 0 else o) ν := by
      have e1 : os ++ List.replicate 0 (a, 0) = os := List.append_nil os
      have e2 : (if a = 9 then o - 0 else o) = o := by split <;> rfl
      rw [e1, e2]; exact h'
    show Ev (Mo_settles_0b 59 (Mo_settles_0 59 (nI a) f) (nI a) ν) _
    unfold Mo_settles_0b
    simp only [Nat.reduceAdd]
    rw [gF_eq, h'.2.2.2.1]
    cases σ with
    | nil => rw [if_pos (show nI ([] : List Nat).length ≤ 0 by decide)]; exact ev_some fin
    | cons b r =>
      have hb := h'.2.2.2.2.1
      have hs2 : r.length + 1 ≤ 40 := hs
      have hne : b ≠ a := fun z => hσ (by rw [z]; rfl)
      rw [if_neg (show ¬ nI (b :: r).length ≤ 0 from nI_nle (by show 0 < r.length + 1; omega) (by show r.length + 1 < _; omega)), gF_eq, h'.2.2.2.1, show (b :: r).length = r.length + 1 from rfl, nI_pred, ldA_nI (by omega) (by omega), hb.1, if_neg (fun z => hne ((nI_eq (by have := hb.2; omega) (by omega)).mp z))]
      exact ev_some fin
  | succ j ih =>
    intro fuel o os ν hf ho ho8 hl hs h
    obtain ⟨f, rfl⟩ : ∃ k, fuel = k + 1 := ⟨fuel - 1, by omega⟩
    have h' : AnM ν0 T n p os (a :: (List.replicate j a ++ σ)) o ν := h
    have hlen : (List.replicate j a ++ σ).length = j + σ.length := by rw [List.length_append, List.length_replicate]
    have hb := h'.2.2.2.2.1
    rw [hlen] at hb
    obtain ⟨hF, hC, h24, h26, hP⟩ := h'
    have h26' : ν 59 26 = nI (j + σ.length + 1) := by rw [h26]; show nI ((List.replicate j a ++ σ).length + 1) = _; rw [hlen]
    show Ev (Mo_settles_0b 59 (Mo_settles_0 59 (nI a) f) (nI a) ν) _
    unfold Mo_settles_0b
    simp only [Nat.reduceAdd]
    rw [gF_eq, h26', if_neg (nI_nle (by omega) (by omega)), gF_eq, h26', nI_pred, ldA_nI (by omega) (by omega), hb.1, if_pos rfl, gF_eq, h26', nI_pred, pF_eq]
    have h1 : AnM ν0 T n p os (List.replicate j a ++ σ) o (up2 ν 59 26 (nI (j + σ.length))) := by
      refine ⟨frA_59 hF (by decide), coM_of (fun i hi => ?_) (fun k hk => ?_) hC, ?_, ?_, ?_⟩
      · rw [up2_off (Or.inr (fun z => by rw [z] at hi; exact absurd hi (by decide)))]
      · rw [up2_ne (fun z => by rw [z] at hk; exact absurd hk (by decide))]
      · rw [up2_off (Or.inr (by decide))]; exact h24
      · rw [up2_same, hlen]
      · exact pnM_of (up2_ne (by decide)) hP.2
    refine ev_cl (ev_mono (gm_emits (am_g h1) (by omega) a 0 rfl rfl) (fun _ ν2 g2 => ?_))
    have h2 := am_Q h1 g2
    have e1 : os ++ List.replicate (j + 1) (a, 0) = os ++ [(a, 0)] ++ List.replicate j (a, 0) := by
      rw [List.append_assoc]; rfl
    have hl2 : (os ++ [(a, 0)]).length = os.length + 1 := List.length_append
    by_cases c9 : a = 9
    · subst c9
      have hjo := ho rfl
      obtain ⟨o', rfl⟩ : ∃ k, o = k + 1 := ⟨o - 1, by omega⟩
      obtain ⟨kF, kC, k24, k26, kP⟩ := h2
      rw [if_pos (show nI 9 = (9 : Int32) from rfl), gF_eq, k24, pF_eq, nI_pred]
      have h3 : AnM ν0 T n p (os ++ [(9, 0)]) (List.replicate j 9 ++ σ) o' (up2 ν2 59 24 (nI o')) := by
        refine ⟨frA_59 kF (by decide), coM_of (fun i hi => ?_) (fun k hk => ?_) kC, up2_same _ _ _ _, ?_, ?_⟩
        · rw [up2_off (Or.inr (fun z => by rw [z] at hi; exact absurd hi (by decide)))]
        · rw [up2_ne (fun z => by rw [z] at hk; exact absurd hk (by decide))]
        · rw [up2_off (Or.inr (by decide))]; exact k26
        · exact pnM_of (up2_ne (by decide)) kP
      refine ev_mono (ih f o' _ _ (by omega) (fun _ => by omega) (by omega) (by omega) (by omega) h3) (fun _ ν3 h4 => ?_)
      rw [e1]
      have e2 : (if (9 : Nat) = 9 then o' + 1 - (j + 1) else o' + 1) = (if (9 : Nat) = 9 then o' - j else o') := by
        rw [if_pos rfl, if_pos rfl]; omega
      rw [e2]; exact h4
    · rw [if_neg (fun z : nI a = 9 => c9 ((nI_eq (b := 9) (by omega) (by omega)).mp z))]
      refine ev_mono (ih f o _ _ (by omega) (fun z => absurd z c9) ho8 (by omega) (by omega) h2) (fun _ ν3 h4 => ?_)
      rw [if_neg c9] at h4 ⊢
      rw [e1]; exact h4
/-- at most one of what is no not -/
theorem am_set1 {ν0 : Mu} {T : Nat → Nat} {n p : Nat} {σ : List Nat} {a o : Nat} {os : Cds} {ν : Mu} (ha : a < 13) (h9 : a ≠ 9) (hσ : σ.head? ≠ some a) {v : Int32} (hv : v = nI a) (b : Bool) (ho8 : o ≤ 8) (hl : os.length + 1 ≤ 400) (hs : σ.length + 1 ≤ 40) (h : AnM ν0 T n p os ((if b = true then [a] else []) ++ σ) o ν) : Ev (Mo_settles 59 v ν) (fun _ ν' => AnM ν0 T n p (os ++ (if b = true then [(a, 0)] else [])) σ o ν') := by
  unfold Mo_settles
  cases b with
  | true =>
    refine ev_mono (am_settles ha hσ hv 1 FU o os ν (by unfold FU; omega) (fun z => absurd z h9) ho8 hl hs h) (fun _ ν' h' => ?_)
    rw [if_neg h9] at h'; exact h'
  | false =>
    refine ev_mono (am_settles ha hσ hv 0 FU o os ν (by unfold FU; omega) (fun z => absurd z h9) ho8 (by omega) (by omega) h) (fun _ ν' h' => ?_)
    rw [if_neg h9] at h'; exact h'
