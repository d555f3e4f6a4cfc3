/-! L3: THE REFERENCE READS A WHOLE CONDITION -/
def anB (b : Bool) (a : Nat) : List Nat := if b = true then [a] else []
def anC (b : Bool) (a : Nat) : Cds := if b = true then [(a, 0)] else []
theorem anB_len (b : Bool) (a : Nat) : (anB b a).length = if b = true then 1 else 0 := by cases b <;> rfl
theorem anC_len (b : Bool) (a : Nat) : (anC b a).length = if b = true then 1 else 0 := by cases b <;> rfl
theorem anB_le (b : Bool) (a : Nat) : (anB b a).length ≤ 1 := by
  cases b with
  | false => exact Nat.zero_le _
  | true => exact Nat.le_refl _
theorem orL_x (w : Bool) : expL (orL w) = anC w 11 := by cases w <;> rfl
theorem expL_1 (k o : Nat) (h : exp1 (k, 0) = [(o, 0)]) : expL [(k, 0)] = [(o, 0)] := by show exp1 (k, 0) ++ [] = _; rw [h]; rfl
theorem rep_succ {α : Type} (j : Nat) (a : α) : List.replicate (j + 1) a = a :: List.replicate j a := rfl
theorem rep_back {α : Type} (a : α) : ∀ j, [a] ++ List.replicate j a = List.replicate j a ++ [a]
  | 0 => rfl
  | j + 1 => by
    show a :: ([a] ++ List.replicate j a) = a :: (List.replicate j a ++ [a])
    rw [rep_back a j]
/-- what no not, and, or lies on -/
def bas (σ : List Nat) : Prop := σ = [] ∨ ∃ r, σ = 12 :: r
theorem bas_no {σ : List Nat} (h : bas σ) {a : Nat} (ha : a ≠ 12) : σ.head? ≠ some a := by
  rcases h with h | ⟨r, h⟩
  · rw [h]; intro z; cases z
  · rw [h]; intro z
    injection z with z
    exact ha z.symm
theorem anB_head {b : Bool} {a c : Nat} {σ : List Nat} (h : a ≠ c) (hσ : σ.head? ≠ some c) : (anB b a ++ σ).head? ≠ some c := by
  cases b with
  | false => exact hσ
  | true =>
    intro z
    have z2 : some a = some c := z
    injection z2 with z2
    exact h z2
/-- and, then or, come out -/
theorem am_set2 {ν0 : Mu} {T : Nat → Nat} {n p : Nat} {σ : List Nat} {o : Nat} {os : Cds} {ν : Mu} {a w : Bool} (hσ : bas σ) (ho8 : o ≤ 8) (hl : os.length + 2 ≤ 400 ∨ (os.length + (anB a 10).length + (anB w 11).length ≤ 400)) (hs : σ.length + 2 ≤ 40) (h : AnM ν0 T n p os (anB a 10 ++ (anB w 11 ++ σ)) o ν) : Ev (Mo_settles 59 10 ν) (fun _ ν1 => Ev (Mo_settles 59 11 ν1) (fun _ ν2 => AnM ν0 T n p (os ++ anC a 10 ++ anC w 11) σ o ν2)) := by
  have q1 := anB_len a 10
  have q2 := anB_len w 11
  have q3 := anC_len a 10
  have hh1 : (anB w 11 ++ σ).head? ≠ some 10 := anB_head (by decide) (bas_no hσ (by decide))
  have hl1 : (anB w 11 ++ σ).length ≤ σ.length + 1 := by rw [List.length_append, q2]; split <;> omega
  cases a with
  | true =>
    have q1' : (anB true 10).length = 1 := rfl
    refine ev_mono (am_set1 (v := 10) (by decide) (by decide) hh1 rfl true ho8 (by omega) (by omega) h) (fun _ ν1 h1 => ?_)
    have hl2 : (os ++ (if true = true then [((10 : Nat), 0)] else [])).length = os.length + 1 := List.length_append
    cases w with
    | true =>
      have q2' : (anB true 11).length = 1 := rfl
      exact ev_mono (am_set1 (v := 11) (by decide) (by decide) (bas_no hσ (by decide)) rfl true ho8 (by omega) (by omega) h1) (fun _ ν2 h2 => h2)
    | false => 
      unfold Mo_settles
      refine ev_mono (am_settles (v := 11) (a := 11) (by decide) (bas_no hσ (by decide)) rfl 0 FU o _ ν1 (by unfold FU; omega) (fun z => by cases z) ho8 (by omega) (by omega) h1) (fun _ ν2 h2 => ?_)
      rw [if_neg (show ¬ (11 : Nat) = 9 by decide)] at h2
      have h2' : AnM ν0 T n p (os ++ [(10, 0)] ++ []) σ o ν2 := h2
      exact h2'
  | false =>
    unfold Mo_settles
    have q2'' : (anB w 11).length ≤ 1 := anB_le w 11
    have hol : os.length ≤ 400 := h.2.1.2.2.2.2.1
    refine ev_mono (am_settles (v := 10) (a := 10) (by decide) hh1 rfl 0 FU o os ν (by unfold FU; omega) (fun z => by cases z) ho8 (by omega) (by omega) h) (fun _ ν1 h1 => ?_)
    rw [if_neg (by decide)] at h1
    have h1' : AnM ν0 T n p (os ++ []) (anB w 11 ++ σ) o ν1 := h1
    rw [List.append_nil] at h1'
    cases w with
    | true =>
      have q2' : (anB true 11).length = 1 := rfl
      refine ev_mono (am_settles (v := 11) (a := 11) (by decide) (bas_no hσ (by decide)) rfl 1 FU o os ν1 (by unfold FU; omega) (fun z => by cases z) ho8 (by omega) (by omega) h1') (fun _ ν2 h2 => ?_)
      rw [if_neg (by decide)] at h2
      show AnM ν0 T n p (os ++ [] ++ [(11, 0)]) σ o ν2
      rw [List.append_nil]; exact h2
    | false =>
      refine ev_mono (am_settles (v := 11) (a := 11) (by decide) (bas_no hσ (by decide)) rfl 0 FU o os ν1 (by unfold FU; omega) (fun z => by cases z) ho8 (by omega) (by omega) h1') (fun _ ν2 h2 => ?_)
      rw [if_neg (by decide)] at h2
      show AnM ν0 T n p (os ++ [] ++ []) σ o ν2
      rw [List.append_nil]; exact h2
theorem pbd_eq (c : Cds) (p : Nat) (f : Cds → Nat → PR) : pbd (.ok (c, p)) f = f c p := rfl
def mAny (fu : Nat) (b : Nat) (due : Bool) (ν : Mu) : Option (Int32 × Mu) := Mo_readAny_9 59 fu (nI b) (if due = true then 1 else 0) ν
theorem any_cc {ν0 : Mu} {T : Nat → Nat} {n : Nat} : ∀ (m : Nat),
    (∀ (p o j b : Nat) (w : Bool) (os : Cds) (σ : List Nat) (ν : Mu), n - p < m → o ≤ 8 → b ≤ o → j ≤ o → σ.head? ≠ some 9 → j + σ.length ≤ 3 * o + 2 → os.length + (j + σ.length) ≤ p → os.length < 400 → AnM ν0 T n p os (List.replicate j 9 ++ σ) o ν →
      (∃ e, cdF T n m true o w p = .error e ∧ ∀ fu, n - p < fu → Ev (mAny fu b true ν) (fun r ν' => r = -1 ∧ ErA ν0 e ν')) ∨
      (∃ c p1 s ν', cdF T n m true o w p = .ok (c, p1) ∧ s + p ≤ p1 ∧ (∀ fu, mAny (fu + s) b true ν = mAny fu b false ν') ∧ AnM ν0 T n p1 (os ++ expL c ++ List.replicate j (9, 0)) σ (o - j) ν'))
    ∧ (∀ (p o b : Nat) (a w : Bool) (os : Cds) (σ : List Nat) (ν : Mu), n - p < m → o ≤ 8 → b ≤ o → bas σ → σ.length ≤ 3 * o → os.length + ((anB a 10).length + ((anB w 11).length + σ.length)) ≤ p → AnM ν0 T n p os (anB a 10 ++ (anB w 11 ++ σ)) o ν →
      (∃ e, cdF T n m false o w p = .error e ∧ ∀ fu, n - p < fu → Ev (mAny fu b false ν) (fun r ν' => r = -1 ∧ ErA ν0 e ν')) ∨
      (∃ c p1 s ν' a' w' os', cdF T n m false o w p = .ok (c, p1) ∧ s + p ≤ p1 ∧ (∀ fu, mAny (fu + s) b false ν = mAny fu b false ν') ∧ (tK T n p1 ≠ 5 ∧ tK T n p1 ≠ 6) ∧ AnM ν0 T n p1 os' (anB a' 10 ++ (anB w' 11 ++ σ)) o ν' ∧ os'.length + ((anB a' 10).length + ((anB w' 11).length + σ.length)) ≤ p1 ∧ os' ++ anC a' 10 ++ anC w' 11 = os ++ anC a 10 ++ expL c)) := by
  intro m
  induction m with
  | zero => exact ⟨fun p o j b w os σ ν hm => by omega, fun p o b a w os σ ν hm => by omega⟩
  | succ m ih =>
    obtain ⟨ihA, ihB⟩ := ih
    constructor
    · intro p o j b w os σ ν hm ho hbo hj hσ hs3 hlp hl4 h
      have hp := h.2.1.2.1
      have ht := h.2.1.2.2.1
      have hn := gm_n h.2.1
      have hE := tE_le (T := T) hp
      have hrl : (List.replicate j 9 ++ σ).length = j + σ.length := by rw [List.length_append, List.length_replicate]
      have st : ∀ fu, mAny (fu + 1) b true ν = cl (Mo_isWord 59 6 ν) (fun x25 μ24 => (if x25 = 0 then cl (Mo_isSign 59 40 μ24) (fun x27 μ26 => (if x27 = 0 then cl (Mo_readCompared 59 μ26) (fun x29 μ28 => (if x29 = ((-1)) then some ((-1), μ28) else cl (Mo_settles 59 9 μ28) (fun _ μ30 => Mo_readAny_9 59 fu (nI b) 0 μ30))) else Mo_readAny_33 59 (Mo_readAny_9 59 fu) (nI b) 1 x25 μ26)) else Mo_readAny_33 59 (Mo_readAny_9 59 fu) (nI b) 1 x25 μ24)) := by
        intro fu
        show Mo_readAny_9b 59 (Mo_readAny_9 59 fu) (nI b) 1 ν = _
        unfold Mo_readAny_9b
        rw [if_neg (show ¬ (1 : Int32) = 0 by decide)]
      rw [cdF_t]
      by_cases c : tK T n p = 7 ∨ tK T n p = 40
      · have hg := tE_gt (T := T) hp (by omega)
        rw [if_pos c]
        have st2 : ∀ fu, mAny (fu + 1) b true ν = Mo_readAny_33 59 (Mo_readAny_9 59 fu) (nI b) 1 (if tK T n p = 7 then 1 else 0) ν := by
          intro fu
          rw [st, mo_isWord (v := 6) ht 7 rfl (by omega), cl_eq]
          by_cases c7 : tK T n p = 7
          · rw [if_pos c7, if_neg (show ¬ (1 : Int32) = 0 by decide)]
          · rw [if_neg c7, if_pos rfl, mo_isSign (v := 40) ht hp 40 rfl (by decide), cl_eq, if_pos (show tK T n p = 40 by omega), if_neg (show ¬ (1 : Int32) = 0 by decide)]
        by_cases c8 : 8 ≤ o
        · have e8 : o = 8 := by omega
          rw [if_pos c8]
          refine Or.inl ⟨_, rfl, fun fu hfu => ?_⟩
          obtain ⟨f, rfl⟩ : ∃ k, fu = k + 1 := ⟨fu - 1, by omega⟩
          rw [st2]
          unfold Mo_readAny_33
          rw [gF_eq, h.2.2.1, if_pos (by rw [e8]; rfl)]
          exact ev_cl (ev_mono (gm_errs (am_g h) 3 rfl) (fun r ν1 h1 => ev_some ⟨h1.1, am_E h h1.2⟩))
        rw [if_neg c8]
        have h2 : AnM ν0 T n p os (List.replicate j 9 ++ σ) (o + 1) (up2 ν 59 24 (nI (o + 1))) := by
          obtain ⟨kF, kC, k24, k26, kP⟩ := h
          refine ⟨frA_59 kF (by decide), coM_of (fun i hi => ?_) (fun k hk => ?_) kC, up2_same _ _ _ _, ?_, ?_⟩
          · rw [up2_off (Or.inr (fun z => by rw [z] at hi; exact absurd hi (by decide)))]
          · rw [up2_ne (fun z => by rw [z] at hk; exact absurd hk (by decide))]
          · rw [up2_off (Or.inr (by decide))]; exact k26
          · exact pnM_of (up2_ne (by decide)) kP
        by_cases c7 : tK T n p = 7
        · rw [if_pos c7]
          obtain ⟨_, ν3, e3, h3⟩ := am_waits h2 (by omega) (v := 9) 9 rfl (by decide)
          obtain ⟨_, ν4, e4, g4⟩ := gm_reads (am_g h3)
          have h4 := am_Q h3 g4
          have st3 : ∀ fu, mAny (fu + 1) b true ν = mAny fu b true ν4 := by
            intro fu
            rw [st2, if_pos c7]
            unfold Mo_readAny_33
            rw [gF_eq, h.2.2.1, if_neg (fun z : nI o = 8 => c8 (by have := (nI_eq (b := 8) (by omega) (by omega)).mp z; omega)), gF_eq, h.2.2.1, pF_eq, nI_1 o, if_neg (show ¬ (1 : Int32) = 0 by decide)]
            unfold Mo_readAny_66 Mo_readAny_78
            rw [if_neg (show ¬ (1 : Int32) = 0 by decide), e3, cl_eq, e4, cl_eq]
            rfl
          rcases ihA (tE T n p) (o + 1) (j + 1) b false os σ ν4 (by omega) (by omega) (by omega) (by omega) hσ (by omega) (by omega) hl4 h4 with ⟨er, he, hr⟩ | ⟨c1, p1, s, ν', he, hs, hr, h5⟩
          · refine Or.inl ⟨er, by rw [he]; rfl, fun fu hfu => ?_⟩
            obtain ⟨f, rfl⟩ : ∃ k, fu = k + 1 := ⟨fu - 1, by omega⟩
            rw [st3]; exact hr f (by omega)
          · refine Or.inr ⟨c1 ++ [(7, 0)], p1, s + 1, ν', by rw [he]; rfl, by omega, fun fu => ?_, ?_⟩
            · rw [show fu + (s + 1) = fu + s + 1 by omega, st3, hr]
            · rw [show o - j = o + 1 - (j + 1) by omega, expL_app, expL_1 7 9 rfl]
              rw [rep_succ] at h5
              have e : os ++ (expL c1 ++ [(9, 0)]) ++ List.replicate j (9, 0) = os ++ expL c1 ++ (9, 0) :: List.replicate j (9, 0) := by
                rw [← List.append_assoc, List.append_assoc (os ++ expL c1)]; rfl
              rw [e]; exact h5
        · have c40 : tK T n p = 40 := by omega
          rw [if_neg c7]
          obtain ⟨_, ν3, e3, h3⟩ := am_waits h2 (by omega) (v := 12) 12 rfl (by decide)
          obtain ⟨_, ν4, e4, g4⟩ := gm_reads (am_g h3)
          have h4 := am_Q h3 g4
          have st3 : ∀ fu, mAny (fu + 1) b true ν = mAny fu (b + 1) true ν4 := by
            intro fu
            rw [st2, if_neg c7]
            unfold Mo_readAny_33
            rw [gF_eq, h.2.2.1, if_neg (fun z : nI o = 8 => c8 (by have := (nI_eq (b := 8) (by omega) (by omega)).mp z; omega)), gF_eq, h.2.2.1, pF_eq, nI_1 o, if_pos rfl, nI_1 b]
            unfold Mo_readAny_66 Mo_readAny_78
            rw [if_pos rfl, e3, cl_eq, e4, cl_eq]
            rfl
          have hlen12 : (12 :: (List.replicate j 9 ++ σ)).length = j + σ.length + 1 := by show (List.replicate j 9 ++ σ).length + 1 = _; rw [hrl]
          rcases ihA (tE T n p) (o + 1) 0 (b + 1) false os (12 :: (List.replicate j 9 ++ σ)) ν4 (by omega) (by omega) (by omega) (by omega) (fun z => by injection z with z; cases z) (by omega) (by omega) hl4 h4 with ⟨er, he, hr⟩ | ⟨c1, p1, s, ν5, he, hs, hr, h5⟩
          · refine Or.inl ⟨er, by rw [he]; rfl, fun fu hfu => ?_⟩
            obtain ⟨f, rfl⟩ : ∃ k, fu = k + 1 := ⟨fu - 1, by omega⟩
            rw [st3]; exact hr f (by omega)
          obtain ⟨a1, a2, a3, a4⟩ := (cdF_sz m true (o + 1) false (tE T n p) c1 p1 hE (by omega) he).1 rfl
          have h5' : AnM ν0 T n p1 (os ++ expL c1 ++ []) (12 :: (List.replicate j 9 ++ σ)) (o + 1) ν5 := h5
          rw [List.append_nil] at h5'
          have hl5 : (os ++ expL c1).length = os.length + xl c1 := List.length_append
          rcases ihB p1 (o + 1) (b + 1) false false (os ++ expL c1) (12 :: (List.replicate j 9 ++ σ)) ν5 (by omega) (by omega) (by omega) (Or.inr ⟨_, rfl⟩) (by omega) (by rw [hl5, hlen12]; show os.length + xl c1 + (0 + (0 + (j + σ.length + 1))) ≤ p1; omega) h5' with ⟨er, he2, hr2⟩ | ⟨c2, p2, s2, ν6, a', w', os', he2, hs2, hr2, hk2, h6, hl6, ho6⟩
          · refine Or.inl ⟨er, by rw [he, pbd_eq, he2]; rfl, fun fu hfu => ?_⟩
            obtain ⟨f, rfl⟩ : ∃ k, fu = k + s + 1 := ⟨fu - s - 1, by omega⟩
            rw [st3, hr]; exact hr2 f (by omega)
          obtain ⟨b1, b2, b3, b4⟩ := (cdF_sz m false (o + 1) false p1 c2 p2 a2 (by omega) he2).2 rfl
          have ht6 := h6.2.1.2.2.1
          have hp6 := h6.2.1.2.1
          rw [hlen12] at hl6
          have hq1 := anB_le a' 10
          have hq2 := anB_le w' 11
          obtain ⟨_, ν7, e7, _, ν8, e8, h8⟩ := am_set2 (Or.inr ⟨_, rfl⟩) (by omega) (Or.inr (by omega)) (by rw [hlen12]; omega) h6
          have ho6' : os' ++ anC a' 10 ++ anC w' 11 = os ++ expL c1 ++ expL c2 := by
            rw [ho6]
            show os ++ expL c1 ++ [] ++ expL c2 = _
            rw [List.append_nil]
          rw [ho6'] at h8
          have ht8 := h8.2.1.2.2.1
          have st4 : ∀ fu, mAny (fu + 1) (b + 1) false ν6 = cl (Mo_isSign 59 41 ν8) (fun x8 μ7 => (if x8 = 0 then cl (Mo_errs 59 1 μ7) (fun x16 μ15 => some (x16, μ15)) else gF μ7 59 26 (fun x9 => pF μ7 59 26 (x9 - 1) (fun μ10 => gF μ10 59 24 (fun x11 => pF μ10 59 24 (x11 - 1) (fun μ12 => cl (Mo_settles 59 9 μ12) (fun _ μ13 => cl (Mo_reads 59 μ13) (fun _ μ14 => Mo_readAny_9 59 fu (nI (b + 1) - 1) 0 μ14)))))))) := by
            intro fu
            show Mo_readAny_9b 59 (Mo_readAny_9 59 fu) (nI (b + 1)) 0 ν6 = _
            unfold Mo_readAny_9b
            rw [if_pos rfl, mo_isWord (v := 5) ht6 6 rfl (by omega), cl_eq, if_neg hk2.2, if_pos rfl, mo_isWord (v := 4) ht6 5 rfl (by omega), cl_eq, if_neg hk2.1, if_pos rfl, e7, cl_eq, e8, cl_eq, if_neg]
            exact nI_ne0 (by omega) (by omega)
          by_cases c41 : tK T n p2 = 41
          · have hg2 := tE_gt (T := T) b2 (by omega)
            have hE3 := tE_le (T := T) b2
            obtain ⟨kF, kC, k24, k26, kP⟩ := h8
            have k26' : ν8 59 26 = nI (j + σ.length + 1) := by rw [k26, hlen12]
            have h9 : AnM ν0 T n p2 (os ++ expL c1 ++ expL c2) (List.replicate j 9 ++ σ) o (up2 (up2 ν8 59 26 (nI (j + σ.length))) 59 24 (nI o)) := by
              refine ⟨frA_59 (frA_59 kF (by decide)) (by decide), coM_of (fun i hi => ?_) (fun k hk => ?_) kC, up2_same _ _ _ _, ?_, ?_⟩
              · rw [up2_off (Or.inr (fun z => by rw [z] at hi; exact absurd hi (by decide))), up2_off (Or.inr (fun z => by rw [z] at hi; exact absurd hi (by decide)))]
              · rw [up2_ne (fun z => by rw [z] at hk; exact absurd hk (by decide)), up2_ne (fun z => by rw [z] at hk; exact absurd hk (by decide))]
              · rw [up2_off (Or.inr (by decide)), up2_same, hrl]
              · exact pnM_of (by rw [up2_ne (by decide), up2_ne (by decide)]) kP.2
            have hl9 : (os ++ expL c1 ++ expL c2).length = os.length + xl c1 + xl c2 := by rw [List.length_append, hl5]; rfl
            have b3' : xl c2 + p1 ≤ p2 := b3
            obtain ⟨_, ν10, e10, h10⟩ := am_settles (v := 9) (a := 9) (by decide) hσ rfl j FU o _ _ (by unfold FU; omega) (fun _ => hj) ho (by omega) (by omega) h9
            rw [if_pos rfl] at h10
            obtain ⟨_, ν11, e11, g11⟩ := gm_reads (am_g h10)
            have h11 := am_Q h10 g11
            refine Or.inr ⟨c1 ++ c2, tE T n p2, s + s2 + 2, ν11, by rw [he, pbd_eq, he2, pbd_eq, if_pos c41], by omega, fun fu => ?_, ?_⟩
            · rw [show fu + (s + s2 + 2) = fu + 1 + s2 + s + 1 by omega, st3, hr, hr2, st4, mo_isSign (v := 41) ht8 b2 41 rfl (by decide), cl_eq, if_pos c41, if_neg (show ¬ (1 : Int32) = 0 by decide), gF_eq, k26', nI_pred, pF_eq, gF_eq, up2_off (Or.inr (by decide)), k24, nI_pred, pF_eq]
              show cl (Mo_settles_0 59 9 FU (up2 (up2 ν8 59 26 (nI (j + σ.length))) 59 24 (nI o))) _ = _
              rw [e10, cl_eq, e11, cl_eq, nI_pred]
              rfl
            · rw [expL_app, ← List.append_assoc]; exact h11
          · refine Or.inl ⟨_, by rw [he, pbd_eq, he2, pbd_eq, if_neg c41], fun fu hfu => ?_⟩
            obtain ⟨f, rfl⟩ : ∃ k, fu = k + 1 + s2 + s + 1 := ⟨fu - s2 - s - 2, by omega⟩
            rw [st3, hr, hr2, st4, mo_isSign (v := 41) ht8 b2 41 rfl (by decide), cl_eq, if_neg c41, if_pos rfl]
            exact ev_cl (ev_mono (gm_errs (am_g h8) 1 rfl) (fun r ν1 h1 => ev_some ⟨h1.1, am_E h8 h1.2⟩))
      · rw [if_neg c]
        have st2 : ∀ fu, mAny (fu + 1) b true ν = cl (Mo_readCompared 59 ν) (fun x29 μ28 => (if x29 = ((-1)) then some ((-1), μ28) else cl (Mo_settles 59 9 μ28) (fun _ μ30 => Mo_readAny_9 59 fu (nI b) 0 μ30))) := by
          intro fu
          rw [st, mo_isWord (v := 6) ht 7 rfl (by omega), cl_eq, if_neg (fun z => c (Or.inl z)), if_pos rfl, mo_isSign (v := 40) ht hp 40 rfl (by decide), cl_eq, if_neg (fun z => c (Or.inr z)), if_pos rfl]
        obtain ⟨r, ν1, e1, h1⟩ := gm_cmp (am_g h) (by omega) hl4
        show (∃ e, cmS T n p = .error e ∧ _) ∨ (∃ c p1 s ν', cmS T n p = .ok (c, p1) ∧ _)
        cases hu : cmS T n p with
        | error er =>
          rw [hu] at h1
          refine Or.inl ⟨er, rfl, fun fu hfu => ?_⟩
          obtain ⟨f, rfl⟩ : ∃ k, fu = k + 1 := ⟨fu - 1, by omega⟩
          rw [st2, e1, cl_eq, if_pos h1.1]
          exact ev_some ⟨rfl, am_E h h1.2⟩
        | ok q =>
          rw [hu] at h1
          obtain ⟨a1, a2, a3⟩ := cm_sz (c := q.1) (p' := q.2) hp hu
          have h2 := am_Q h h1.2
          have hl2 : (os ++ expL q.1).length = os.length + xl q.1 := List.length_append
          obtain ⟨_, ν3, e3, h3⟩ := am_settles (v := 9) (a := 9) (by decide) hσ rfl j FU o _ _ (by unfold FU; omega) (fun _ => hj) ho (by omega) (by omega) h2
          rw [if_pos rfl] at h3
          refine Or.inr ⟨q.1, q.2, 1, ν3, rfl, by omega, fun fu => ?_, h3⟩
          rw [st2, e1, cl_eq, h1.1, if_neg (show ¬ (0 : Int32) = -1 by decide)]
          show cl (Mo_settles_0 59 9 FU ν1) _ = _
          rw [e3, cl_eq]; rfl
    · intro p o b a w os σ ν hm ho hbo hσ hs3 hlp h
      have hp := h.2.1.2.1
      have ht := h.2.1.2.2.1
      have hn := gm_n h.2.1
      have hE := tE_le (T := T) hp
      have qa := anB_le a 10
      have qw := anB_le w 11
      have la := anB_len a 10
      have lw := anB_len w 11
      have ca := anC_len a 10
      have cw := anC_len w 11
      rw [cdF_f]
      by_cases c6 : tK T n p = 6
      · have hg := tE_gt (T := T) hp (by omega)
        rw [if_pos c6]
        have hh1 : (anB w 11 ++ σ).head? ≠ some 10 := anB_head (by decide) (bas_no hσ (by decide))
        have hl1 : (anB w 11 ++ σ).length = (anB w 11).length + σ.length := List.length_append
        obtain ⟨_, ν2, e2, h2⟩ : Ev (Mo_settles 59 10 ν) (fun _ ν' => AnM ν0 T n p (os ++ anC a 10) (anB w 11 ++ σ) o ν') := by
          cases a with
          | true =>
            have q1' : (anB true 10).length = 1 := rfl
            exact am_set1 (v := 10) (by decide) (by decide) hh1 rfl true ho (by omega) (by omega) h
          | false =>
            have hol : os.length ≤ 400 := h.2.1.2.2.2.2.1
            unfold Mo_settles
            refine ev_mono (am_settles (v := 10) (a := 10) (by decide) hh1 rfl 0 FU o os ν (by unfold FU; omega) (fun z => by cases z) ho (by omega) (by omega) h) (fun _ ν1 h1 => ?_)
            rw [if_neg (by decide)] at h1; exact h1
        have hl2 : (os ++ anC a 10).length = os.length + (anB a 10).length := by rw [List.length_append, ca, la]
        obtain ⟨_, ν3, e3, h3⟩ := am_waits h2 (by omega) (v := 10) 10 rfl (by decide)
        obtain ⟨_, ν4, e4, g4⟩ := gm_reads (am_g h3)
        have h4 := am_Q h3 g4
        have st : ∀ fu, mAny (fu + 1) b false ν = mAny fu b true ν4 := by
          intro fu
          show Mo_readAny_9b 59 (Mo_readAny_9 59 fu) (nI b) 0 ν = _
          unfold Mo_readAny_9b
          rw [if_pos rfl, mo_isWord (v := 5) ht 6 rfl (by omega), cl_eq, if_pos c6, if_neg (show ¬ (1 : Int32) = 0 by decide), e2, cl_eq, e3, cl_eq, e4, cl_eq]
          rfl
        have hl3 : (10 :: (anB w 11 ++ σ)).length = (anB w 11).length + σ.length + 1 := by show (anB w 11 ++ σ).length + 1 = _; rw [hl1]
        rcases ihA (tE T n p) o 0 b false (os ++ anC a 10) (10 :: (anB w 11 ++ σ)) ν4 (by omega) ho hbo (by omega) (fun z => by injection z with z; cases z) (by omega) (by omega) (by omega) h4 with ⟨er, he, hr⟩ | ⟨c1, p1, s, ν5, he, hs, hr, h5⟩
        · refine Or.inl ⟨er, by rw [he]; rfl, fun fu hfu => ?_⟩
          obtain ⟨f, rfl⟩ : ∃ k, fu = k + 1 := ⟨fu - 1, by omega⟩
          rw [st]; exact hr f (by omega)
        obtain ⟨a1, a2, a3, a4⟩ := (cdF_sz m true o false (tE T n p) c1 p1 hE ho he).1 rfl
        have h5' : AnM ν0 T n p1 (os ++ anC a 10 ++ expL c1 ++ []) (anB true 10 ++ (anB w 11 ++ σ)) o ν5 := h5
        rw [List.append_nil] at h5'
        have hl5 : (os ++ anC a 10 ++ expL c1).length = os.length + (anB a 10).length + xl c1 := by rw [List.length_append, hl2]; rfl
        rcases ihB p1 o b true w (os ++ anC a 10 ++ expL c1) σ ν5 (by omega) ho hbo hσ hs3 (by rw [hl5]; show os.length + (anB a 10).length + xl c1 + (1 + ((anB w 11).length + σ.length)) ≤ p1; omega) h5' with ⟨er, he2, hr2⟩ | ⟨c2, p2, s2, ν6, a', w', os', he2, hs2, hr2, hk2, h6, hl6, ho6⟩
        · refine Or.inl ⟨er, by rw [he]; show prp _ (cdF T n m false o w p1) = _; rw [he2]; rfl, fun fu hfu => ?_⟩
          obtain ⟨f, rfl⟩ : ∃ k, fu = k + s + 1 := ⟨fu - s - 1, by omega⟩
          rw [st, hr]; exact hr2 f (by omega)
        · refine Or.inr ⟨c1 ++ [(6, 0)] ++ c2, p2, s + s2 + 1, ν6, a', w', os', by rw [he]; show prp _ (cdF T n m false o w p1) = _; rw [he2]; rfl, by omega, fun fu => ?_, hk2, h6, hl6, ?_⟩
          · rw [show fu + (s + s2 + 1) = fu + s2 + s + 1 by omega, st, hr, hr2]
          · rw [ho6, expL_app, expL_app, expL_1 6 10 rfl]
            show os ++ anC a 10 ++ expL c1 ++ [(10, 0)] ++ expL c2 = os ++ anC a 10 ++ (expL c1 ++ [(10, 0)] ++ expL c2)
            rw [List.append_assoc (expL c1), ← List.append_assoc (os ++ anC a 10), List.append_assoc (os ++ anC a 10 ++ expL c1)]
      rw [if_neg c6]
      by_cases c5 : tK T n p = 5
      · have hg := tE_gt (T := T) hp (by omega)
        rw [if_pos c5]
        obtain ⟨_, ν1, e1, _, ν2, e2, h2⟩ := am_set2 hσ ho (Or.inr (by omega)) (by omega) h
        have hl2 : (os ++ anC a 10 ++ anC w 11).length = os.length + (anB a 10).length + (anB w 11).length := by rw [List.length_append, List.length_append, ca, la, cw, lw]
        obtain ⟨_, ν3, e3, h3⟩ := am_waits h2 (by omega) (v := 11) 11 rfl (by decide)
        obtain ⟨_, ν4, e4, g4⟩ := gm_reads (am_g h3)
        have h4 := am_Q h3 g4
        have st : ∀ fu, mAny (fu + 1) b false ν = mAny fu b true ν4 := by
          intro fu
          show Mo_readAny_9b 59 (Mo_readAny_9 59 fu) (nI b) 0 ν = _
          unfold Mo_readAny_9b
          rw [if_pos rfl, mo_isWord (v := 5) ht 6 rfl (by omega), cl_eq, if_neg c6, if_pos rfl, mo_isWord (v := 4) ht 5 rfl (by omega), cl_eq, if_pos c5, if_neg (show ¬ (1 : Int32) = 0 by decide), e1, cl_eq, e2, cl_eq, e3, cl_eq, e4, cl_eq]
          rfl
        have hl3 : (11 :: σ).length = σ.length + 1 := rfl
        rcases ihA (tE T n p) o 0 b false (os ++ anC a 10 ++ anC w 11) (11 :: σ) ν4 (by omega) ho hbo (by omega) (fun z => by injection z with z; cases z) (by omega) (by omega) (by omega) h4 with ⟨er, he, hr⟩ | ⟨c1, p1, s, ν5, he, hs, hr, h5⟩
        · refine Or.inl ⟨er, by rw [he]; rfl, fun fu hfu => ?_⟩
          obtain ⟨f, rfl⟩ : ∃ k, fu = k + 1 := ⟨fu - 1, by omega⟩
          rw [st]; exact hr f (by omega)
        obtain ⟨a1, a2, a3, a4⟩ := (cdF_sz m true o false (tE T n p) c1 p1 hE ho he).1 rfl
        have h5' : AnM ν0 T n p1 (os ++ anC a 10 ++ anC w 11 ++ expL c1 ++ []) (anB false 10 ++ (anB true 11 ++ σ)) o ν5 := h5
        rw [List.append_nil] at h5'
        have hl5 : (os ++ anC a 10 ++ anC w 11 ++ expL c1).length = os.length + (anB a 10).length + (anB w 11).length + xl c1 := by rw [List.length_append, hl2]; rfl
        rcases ihB p1 o b false true (os ++ anC a 10 ++ anC w 11 ++ expL c1) σ ν5 (by omega) ho hbo hσ hs3 (by rw [hl5]; show os.length + (anB a 10).length + (anB w 11).length + xl c1 + (0 + (1 + σ.length)) ≤ p1; omega) h5' with ⟨er, he2, hr2⟩ | ⟨c2, p2, s2, ν6, a', w', os', he2, hs2, hr2, hk2, h6, hl6, ho6⟩
        · refine Or.inl ⟨er, by rw [he]; show prp _ (cdF T n m false o true p1) = _; rw [he2]; rfl, fun fu hfu => ?_⟩
          obtain ⟨f, rfl⟩ : ∃ k, fu = k + s + 1 := ⟨fu - s - 1, by omega⟩
          rw [st, hr]; exact hr2 f (by omega)
        · refine Or.inr ⟨orL w ++ c1 ++ c2, p2, s + s2 + 1, ν6, a', w', os', by rw [he]; show prp _ (cdF T n m false o true p1) = _; rw [he2]; rfl, by omega, fun fu => ?_, hk2, h6, hl6, ?_⟩
          · rw [show fu + (s + s2 + 1) = fu + s2 + s + 1 by omega, st, hr, hr2]
          · rw [ho6, expL_app, expL_app, orL_x]
            show os ++ anC a 10 ++ anC w 11 ++ expL c1 ++ [] ++ expL c2 = os ++ anC a 10 ++ (anC w 11 ++ expL c1 ++ expL c2)
            rw [List.append_nil, List.append_assoc (anC w 11), ← List.append_assoc (os ++ anC a 10), List.append_assoc (os ++ anC a 10 ++ anC w 11)]
      · rw [if_neg c5]
        refine Or.inr ⟨orL w, p, 0, ν, a, w, os, rfl, by omega, fun fu => rfl, ⟨c5, c6⟩, h, hlp, ?_⟩
        rw [orL_x]
/-- the whole condition behind when -/
def AnyR (ν : Mu) (T : Nat → Nat) (n : Nat) (os : Cds) (x : PR) (r : Int32) (ν' : Mu) : Prop := match x with
  | .error e => r = -1 ∧ ErA ν e ν'
  | .ok q => r = 0 ∧ FrA ν ν' ∧ CoM T n q.2 (os ++ expL q.1) ν' ∧ ν' 59 24 = 0
theorem gm_any {ν0 : Mu} {T : Nat → Nat} {n p : Nat} {os : Cds} {ν : Mu} (h : GdM ν0 T n p os ν) (h24 : ν 59 24 = 0) (hl : os.length ≤ p) (hl4 : os.length < 400) : Ev (Mo_readAny 59 ν) (fun r ν' => AnyR ν T n os (cnS T n p) r ν') := by
  have hp := h.2.2.1
  have hn := gm_n h.2
  have h0 : AnM ν T n p os [] 0 (up2 ν 59 26 (nI 0)) := by
    refine ⟨frA_59 (frA_refl ν) (by decide), coM_of (fun i hi => ?_) (fun k hk => ?_) h.2, ?_, up2_same _ _ _ _, trivial⟩
    · rw [up2_off (Or.inr (fun z => by rw [z] at hi; exact absurd hi (by decide)))]
    · rw [up2_ne (fun z => by rw [z] at hk; exact absurd hk (by decide))]
    · rw [up2_off (Or.inr (by decide))]; exact h24
  have hrun : Mo_readAny 59 ν = mAny FU 0 true (up2 ν 59 26 (nI 0)) := rfl
  rw [hrun]
  unfold cnS
  rcases (any_cc 402).1 p 0 0 0 false os [] _ (by omega) (by omega) (by omega) (by omega) (fun z => by cases z) (by show 0 + 0 ≤ 2; omega) (by show os.length + (0 + 0) ≤ p; omega) hl4 h0 with ⟨er, he, hr⟩ | ⟨c1, p1, s, ν5, he, hs, hr, h5⟩
  · rw [he]; exact hr FU (by unfold FU; omega)
  obtain ⟨a1, a2, a3, a4⟩ := (cdF_sz 402 true 0 false p c1 p1 hp (by omega) he).1 rfl
  have h5' : AnM ν T n p1 (os ++ expL c1 ++ []) [] 0 ν5 := h5
  rw [List.append_nil] at h5'
  have hl5 : (os ++ expL c1).length = os.length + xl c1 := List.length_append
  rw [he]
  show Ev _ (fun r ν' => AnyR ν T n os (prp c1 (cdF T n 402 false 0 false p1)) r ν')
  rcases (any_cc 402).2 p1 0 0 false false (os ++ expL c1) [] ν5 (by omega) (by omega) (by omega) (Or.inl rfl) (by show 0 ≤ 0; omega) (by rw [hl5]; show os.length + xl c1 + (0 + (0 + 0)) ≤ p1; omega) h5' with ⟨er, he2, hr2⟩ | ⟨c2, p2, s2, ν6, a', w', os', he2, hs2, hr2, hk2, h6, hl6, ho6⟩
  · rw [he2]
    obtain ⟨f, hf, hf2⟩ : ∃ k, FU = k + s ∧ n - p1 < k := ⟨FU - s, by unfold FU; omega, by unfold FU; omega⟩
    rw [hf, hr]; exact hr2 f hf2
  · rw [he2]
    obtain ⟨b1, b2, b3, b4⟩ := (cdF_sz 402 false 0 false p1 c2 p2 a2 (by omega) he2).2 rfl
    have ht6 := h6.2.1.2.2.1
    have hq1 := anB_le a' 10
    have hq2 := anB_le w' 11
    have hl6' : os'.length + ((anB a' 10).length + ((anB w' 11).length + 0)) ≤ p2 := hl6
    obtain ⟨_, ν7, e7, _, ν8, e8, h8⟩ := am_set2 (Or.inl rfl) (by omega) (Or.inr (by omega)) (by decide) h6
    have ho6' : os' ++ anC a' 10 ++ anC w' 11 = os ++ expL (c1 ++ c2) := by
      rw [ho6, expL_app]
      show os ++ expL c1 ++ [] ++ expL c2 = _
      rw [List.append_nil, List.append_assoc]
    rw [ho6'] at h8
    obtain ⟨f, hf⟩ : ∃ k, FU = k + 1 + s2 + s := ⟨FU - s2 - s - 1, by unfold FU; omega⟩
    rw [hf, hr, hr2]
    show Ev (Mo_readAny_9b 59 (Mo_readAny_9 59 f) (nI 0) 0 ν6) _
    unfold Mo_readAny_9b
    rw [if_pos rfl, mo_isWord (v := 5) ht6 6 rfl (by omega), cl_eq, if_neg hk2.2, if_pos rfl, mo_isWord (v := 4) ht6 5 rfl (by omega), cl_eq, if_neg hk2.1, if_pos rfl, e7, cl_eq, e8, cl_eq, if_pos nI_0]
    exact ev_some ⟨rfl, h8.1, h8.2.1, h8.2.2.1⟩
