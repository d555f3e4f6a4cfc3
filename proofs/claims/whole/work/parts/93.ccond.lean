/-! L3: THE CLASS READS A CONDITION -/
theorem bd_cmp {μ0 : Mu} {T : Nat → Nat} {n : Nat} {e : Nat × Nat} {μ : Mu} (h : BdC μ0 T n e μ) {kc kd : Int32 → Mu → Option (Unit × Mu)} (v : Int32) : Ev (Rd_comparisonB 48 kc kd v μ) (fun _ μ' => BdC μ0 T n e μ') := by
  unfold Rd_comparisonB
  rw [gF_eq, bd_k h, if_neg (by decide), if_neg (by decide)]
  refine ev_cl (ev_mono (bd_sum h) (fun _ μ1 h1 => ?_))
  rw [gF_eq, bd_k h1, if_neg (by decide), if_neg (by decide), if_neg (by decide)]
  exact ev_cl (ev_mono (bd_fail h1 1) (fun _ μ2 h2 => ev_some h2))
theorem bd_112 {μ0 : Mu} {T : Nat → Nat} {n : Nat} {e : Nat × Nat} {μ : Mu} (h : BdC μ0 T n e μ) {kc kd : Int32 → Mu → Option (Unit × Mu)} (v : Int32) : Ev (Rd_conditionB_112 48 kc kd v μ) (fun _ μ' => BdC μ0 T n e μ') := by
  unfold Rd_conditionB_112
  by_cases c : v = 0
  · rw [if_pos c]; exact ev_some h
  · rw [if_neg c]
    exact ev_cl (ev_mono (bd_emit h 5 0) (fun _ μ1 h1 => ev_some h1))
theorem bd_condL {μ0 : Mu} {T : Nat → Nat} {n : Nat} {e : Nat × Nat} {μ : Mu} (h : BdC μ0 T n e μ) {kc kd : Int32 → Mu → Option (Unit × Mu)} (v w i : Int32) {fuel : Nat} (hf : 0 < fuel) : Ev (Rd_conditionB_9 48 kc kd v fuel w i μ) (fun _ μ' => BdC μ0 T n e μ') := by
  obtain ⟨m, rfl⟩ : ∃ m, fuel = m + 1 := ⟨fuel - 1, by omega⟩
  show Ev (Rd_conditionB_9b 48 kc kd (Rd_conditionB_9 48 kc kd v m) v w i μ) _
  unfold Rd_conditionB_9b
  by_cases c : 400 ≤ i
  · rw [if_pos c]; exact bd_112 h w
  · rw [if_neg c, gF_eq, bd_k h, if_neg (by decide), gF_eq, bd_k h, if_neg (by decide)]
    exact bd_112 h w
theorem gd_112 {μ0 : Mu} {T : Nat → Nat} {n p : Nat} {cs : Cds} {μ : Mu} (h : GdC μ0 T n p cs μ) {kc kd : Int32 → Mu → Option (Unit × Mu)} (w : Bool) (hx : xl cs + (if w = true then 1 else 0) ≤ p) : Ev (Rd_conditionB_112 48 kc kd (if w = true then 1 else 0) μ) (fun _ μ' => GdC μ0 T n p (cs ++ orL w) μ') := by
  have hn := gd_n h
  have hp := h.2.2.1
  have hl := xl_len cs
  unfold Rd_conditionB_112
  cases w with
  | false =>
    rw [if_pos (show (if false = true then (1 : Int32) else 0) = 0 from rfl)]
    refine ev_some ?_
    show GdC μ0 T n p (cs ++ []) μ
    rw [List.append_nil]; exact h
  | true =>
    have hx2 : xl cs + 1 ≤ p := hx
    rw [if_neg (show ¬ (if true = true then (1 : Int32) else 0) = 0 by decide)]
    exact ev_cl (ev_mono (gd_emit h (by omega) 5 0 rfl rfl) (fun _ μ1 h1 => ev_some h1))
theorem stC_pbd {μ0 : Mu} {T : Nat → Nat} {n : Nat} {cs : Cds} {x : PR} {f : Cds → Nat → PR} {μ : Mu} {er : Nat × Nat} (hx : x = .error er) (h : BdC μ0 T n er μ) : StC μ0 T n cs (pbd x f) μ := by
  rw [hx]; exact h
theorem stC_pok {μ0 : Mu} {T : Nat → Nat} {n : Nat} {cs : Cds} {x : PR} {f : Cds → Nat → PR} {μ : Mu} {q : Cds × Nat} (hx : x = .ok q) (h : StC μ0 T n cs (f q.1 q.2) μ) : StC μ0 T n cs (pbd x f) μ := by
  rw [hx]; exact h
theorem gd_cc {μ0 : Mu} {T : Nat → Nat} {n : Nat} : ∀ (m : Nat),
    (∀ (nf o p : Nat) (w : Bool) (cs : Cds) (μ : Mu), n - p < m → 2 * (8 - o) + 1 ≤ nf → o ≤ 8 → xl cs ≤ p → xl cs < 400 → GdC μ0 T n p cs μ → Ev (Rd_cc 48 nf true (nI o) μ) (fun _ μ' => StC μ0 T n cs (cdF T n m true o w p) μ'))
    ∧ (∀ (nf o p i fuel : Nat) (w : Bool) (cs : Cds) (kd : Int32 → Mu → Option (Unit × Mu)) (μ : Mu), n - p < m → 2 * (8 - o) + 1 ≤ nf → o ≤ 8 → xl cs + (if w = true then 1 else 0) ≤ p → i ≤ p → n - p < fuel → GdC μ0 T n p cs μ → Ev (Rd_conditionB_9 48 (Rd_cc 48 nf true) kd (nI o) fuel (if w = true then 1 else 0) (nI i) μ) (fun _ μ' => StC μ0 T n cs (cdF T n m false o w p) μ')) := by
  intro m
  induction m with
  | zero => exact ⟨fun nf o p w cs μ hm => by omega, fun nf o p i fuel w cs kd μ hm => by omega⟩
  | succ m ih =>
    obtain ⟨ihA, ihB⟩ := ih
    constructor
    · intro nf o p w cs μ hm hnf ho hx hx4 h
      obtain ⟨nf, rfl⟩ : ∃ k, nf = k + 1 := ⟨nf - 1, by omega⟩
      have hn := gd_n h
      have hp := h.2.2.1
      have hE := tE_le (T := T) hp
      show Ev (Rd_comparisonB 48 (Rd_cc 48 nf true) (Rd_cc 48 nf false) (nI o) μ) _
      rw [cdF_t]
      unfold Rd_comparisonB
      rw [gF_eq, gd_k h]
      by_cases c : tK T n p = 7 ∨ tK T n p = 40
      · have hg := tE_gt (T := T) hp (by omega)
        rw [if_pos c]
        have main : Ev (Rd_comparisonB_72 48 (Rd_cc 48 nf true) (Rd_cc 48 nf false) (nI o) (nI (tK T n p)) μ) (fun _ μ' => StC μ0 T n cs (if 8 ≤ o then .error (3, tF T n p)
            else if tK T n p = 7 then pbd (cdF T n m true (o + 1) false (tE T n p)) (fun c p1 => .ok (c ++ [(7, 0)], p1))
            else pbd (cdF T n m true (o + 1) false (tE T n p)) (fun c p1 => pbd (cdF T n m false (o + 1) false p1) (fun c2 p2 => if tK T n p2 = 41 then .ok (c ++ c2, tE T n p2) else .error (1, tF T n p2)))) μ') := by
          unfold Rd_comparisonB_72
          simp only [Nat.reduceAdd]
          by_cases c8 : 8 ≤ o
          · rw [if_neg (show ¬ nI o < (8 : Int32) from nI_nlt (b := 8) c8 (by omega)), if_pos c8]
            exact ev_cl (ev_mono (gd_fail h 3 rfl (by omega)) (fun _ μ1 h1 => ev_some h1))
          rw [if_pos (show nI o < (8 : Int32) from nI_lt (b := 8) (by omega) (by omega)), if_neg c8, nI_1]
          by_cases c7 : tK T n p = 7
          · rw [if_pos (show nI (tK T n p) = 7 by rw [c7]; rfl), if_pos c7]
            refine ev_cl (ev_mono (gd_next h) (fun _ μ1 h1 => ev_cl (ev_mono (ihA nf (o + 1) _ false cs μ1 (by omega) (by omega) (by omega) (by omega) (by omega) h1) (fun _ μ2 h2 => ?_))))
            cases hu : cdF T n m true (o + 1) false (tE T n p) with
            | error er =>
              rw [hu] at h2
              exact ev_cl (ev_mono (bd_emit h2 _ _) (fun _ μ3 h3 => ev_some h3))
            | ok q =>
              rw [hu] at h2
              obtain ⟨a1, a2, a3, a4⟩ := (cdF_sz m true (o + 1) false (tE T n p) q.1 q.2 hE (by omega) hu).1 rfl
              have hl := xl_len (cs ++ q.1)
              rw [xl_app] at hl
              refine ev_cl (ev_mono (gd_emit h2 (by omega) 7 0 rfl rfl) (fun _ μ3 h3 => ev_some ?_))
              show GdC μ0 T n q.2 (cs ++ (q.1 ++ [(7, 0)])) μ3
              rw [← List.append_assoc]; exact h3
          · have c40 : tK T n p = 40 := by omega
            rw [if_neg (fun z : nI (tK T n p) = 7 => c7 ((tK_is hp 7 (by omega)).mp z)), if_neg c7]
            refine ev_cl (ev_mono (gd_next h) (fun _ μ1 h1 => ?_))
            obtain ⟨nf2, rfl⟩ : ∃ k, nf = k + 1 := ⟨nf - 1, by omega⟩
            show Ev (cl (cl (Rd_cc 48 nf2 true (nI (o + 1)) μ1) (fun _ μ2 => Rd_conditionB_9 48 (Rd_cc 48 nf2 true) (Rd_cc 48 nf2 false) (nI (o + 1)) FU 0 0 μ2)) (fun _ μ3 => cl (Rd_take 48 41 μ3) (fun _ μ4 => some ((), μ4)))) _
            refine ev_cl (ev_cl (ev_mono (ihA nf2 (o + 1) _ false cs μ1 (by omega) (by omega) (by omega) (by omega) (by omega) h1) (fun _ μ2 h2 => ?_)))
            cases hu : cdF T n m true (o + 1) false (tE T n p) with
            | error er =>
              rw [hu] at h2
              refine ev_mono (bd_condL h2 _ _ _ (by unfold FU; omega)) (fun _ μ3 h3 => ev_cl (ev_mono (bd_take h3 41 (by decide)) (fun _ μ4 h4 => ev_some h4)))
            | ok q =>
              rw [hu] at h2
              obtain ⟨a1, a2, a3, a4⟩ := (cdF_sz m true (o + 1) false (tE T n p) q.1 q.2 hE (by omega) hu).1 rfl
              refine ev_mono (ihB nf2 (o + 1) q.2 0 FU false (cs ++ q.1) _ μ2 (by omega) (by omega) (by omega) (by rw [xl_app]; show xl cs + xl q.1 + 0 ≤ q.2; omega) (by omega) (by unfold FU; omega) h2) (fun _ μ3 h3 => ?_)
              show Ev _ (fun _ μ' => StC μ0 T n cs (pbd (cdF T n m false (o + 1) false q.2) (fun c2 p2 => if tK T n p2 = 41 then .ok (q.1 ++ c2, tE T n p2) else .error (1, tF T n p2))) μ')
              cases hv : cdF T n m false (o + 1) false q.2 with
              | error er =>
                rw [hv] at h3
                exact ev_cl (ev_mono (bd_take h3 41 (by decide)) (fun _ μ4 h4 => ev_some h4))
              | ok q2 =>
                rw [hv] at h3
                refine ev_cl (ev_mono (gd_take h3 41 rfl (by omega)) (fun _ μ4 h4 => ev_some ?_))
                show StC μ0 T n cs (if tK T n q2.2 = 41 then .ok (q.1 ++ q2.1, tE T n q2.2) else .error (1, tF T n q2.2)) μ4
                by_cases c41 : tK T n q2.2 = 41
                · rw [if_pos c41] at h4
                  rw [if_pos c41]
                  show GdC μ0 T n (tE T n q2.2) (cs ++ (q.1 ++ q2.1)) μ4
                  rw [← List.append_assoc]; exact h4
                · rw [if_neg c41] at h4
                  rw [if_neg c41]; exact h4
        rcases c with c | c
        · rw [if_pos (show nI (tK T n p) = 7 by rw [c]; rfl)]; exact main
        · rw [if_neg (fun z : nI (tK T n p) = 7 => by have := (tK_is hp 7 (by omega)).mp z; omega), if_pos (show nI (tK T n p) = 40 by rw [c]; rfl)]; exact main
      · rw [if_neg (fun z : nI (tK T n p) = 7 => c (Or.inl ((tK_is hp 7 (by omega)).mp z))), if_neg (fun z : nI (tK T n p) = 40 => c (Or.inr ((tK_is hp 40 (by omega)).mp z))), if_neg c]
        refine ev_cl (ev_mono (gd_sum h hx hx4) (fun _ μ1 h1 => ?_))
        cases hu : suS T n p with
        | error er =>
          rw [hu] at h1
          rw [gF_eq, bd_k h1, if_neg (by decide), if_neg (by decide), if_neg (by decide)]
          exact ev_cl (ev_mono (bd_fail h1 1) (fun _ μ2 h2 => ev_some h2))
        | ok q =>
          rw [hu] at h1
          obtain ⟨a1, a2, a3, a4⟩ := su_sz (c := q.1) (p' := q.2) hp hu
          show Ev _ (fun _ μ' => StC μ0 T n cs (if tK T n q.2 = 60 ∨ tK T n q.2 = 61 ∨ tK T n q.2 = 62 then pbd (suS T n (tE T n q.2)) (fun c2 p2 => .ok (q.1 ++ c2 ++ [(tK T n q.2, 0)], p2)) else .error (1, tF T n q.2)) μ')
          rw [gF_eq, gd_k h1]
          have hE2 := tE_le (T := T) a2
          by_cases d : tK T n q.2 = 60 ∨ tK T n q.2 = 61 ∨ tK T n q.2 = 62
          · have hg := tE_gt (T := T) a2 (by omega)
            rw [if_pos d]
            have main : Ev (Rd_comparisonB_44 48 (Rd_cc 48 nf true) (Rd_cc 48 nf false) (nI (tK T n q.2)) μ1) (fun _ μ' => StC μ0 T n cs (pbd (suS T n (tE T n q.2)) (fun c2 p2 => .ok (q.1 ++ c2 ++ [(tK T n q.2, 0)], p2))) μ') := by
              unfold Rd_comparisonB_44
              simp only [Nat.reduceAdd]
              refine ev_cl (ev_mono (gd_next h1) (fun _ μ2 h2 => ev_cl (ev_mono (gd_sum h2 (by rw [xl_app]; omega) (by rw [xl_app]; omega)) (fun _ μ3 h3 => ?_))))
              cases hv : suS T n (tE T n q.2) with
              | error er =>
                rw [hv] at h3
                exact ev_cl (ev_mono (bd_emit h3 _ _) (fun _ μ4 h4 => ev_some h4))
              | ok q2 =>
                rw [hv] at h3
                obtain ⟨b1, b2, b3, b4⟩ := su_sz (c := q2.1) (p' := q2.2) hE2 hv
                have hl := xl_len (cs ++ q.1 ++ q2.1)
                rw [xl_app, xl_app] at hl
                refine ev_cl (ev_mono (gd_emit h3 (by omega) (tK T n q.2) 0 rfl rfl) (fun _ μ4 h4 => ev_some ?_))
                show GdC μ0 T n q2.2 (cs ++ (q.1 ++ q2.1 ++ [(tK T n q.2, 0)])) μ4
                rw [← List.append_assoc, ← List.append_assoc]; exact h4
            rcases d with d | d | d
            · rw [if_pos (show nI (tK T n q.2) = 60 by rw [d]; rfl)]; exact main
            · rw [if_neg (fun z : nI (tK T n q.2) = 60 => by have := (tK_is a2 60 (by omega)).mp z; omega), if_pos (show nI (tK T n q.2) = 61 by rw [d]; rfl)]; exact main
            · rw [if_neg (fun z : nI (tK T n q.2) = 60 => by have := (tK_is a2 60 (by omega)).mp z; omega), if_neg (fun z : nI (tK T n q.2) = 61 => by have := (tK_is a2 61 (by omega)).mp z; omega), if_pos (show nI (tK T n q.2) = 62 by rw [d]; rfl)]; exact main
          · rw [if_neg d, if_neg (fun z : nI (tK T n q.2) = 60 => d (Or.inl ((tK_is a2 60 (by omega)).mp z))), if_neg (fun z : nI (tK T n q.2) = 61 => d (Or.inr (Or.inl ((tK_is a2 61 (by omega)).mp z)))), if_neg (fun z : nI (tK T n q.2) = 62 => d (Or.inr (Or.inr ((tK_is a2 62 (by omega)).mp z))))]
            exact ev_cl (ev_mono (gd_fail h1 1 rfl (by omega)) (fun _ μ2 h2 => ev_some h2))
    · intro nf o p i fuel w cs kd μ hm hnf ho hx hi hfu h
      obtain ⟨f, rfl⟩ : ∃ k, fuel = k + 1 := ⟨fuel - 1, by omega⟩
      have hn := gd_n h
      have hp := h.2.2.1
      have hE := tE_le (T := T) hp
      show Ev (Rd_conditionB_9b 48 (Rd_cc 48 nf true) kd (Rd_conditionB_9 48 (Rd_cc 48 nf true) kd (nI o) f) (nI o) (if w = true then 1 else 0) (nI i) μ) _
      rw [cdF_f]
      unfold Rd_conditionB_9b
      by_cases c0 : 400 ≤ i
      · have hk : tK T n p = 0 := tK_n (by omega)
        rw [if_pos (show (400 : Int32) ≤ nI i from nI_le (a := 400) c0 (by omega)), if_neg (show ¬ tK T n p = 6 by omega), if_neg (show ¬ tK T n p = 5 by omega)]
        exact gd_112 h w hx
      rw [if_neg (show ¬ (400 : Int32) ≤ nI i from nI_ge (b := 400) (by omega) (by omega)), gF_eq, gd_k h]
      by_cases c6 : tK T n p = 6
      · have hg := tE_gt (T := T) hp (by omega)
        rw [if_pos (show nI (tK T n p) = 6 by rw [c6]; rfl), if_pos c6]
        unfold Rd_conditionB_33 Rd_conditionB_47
        rw [gF_eq, gd_k h, if_pos (show nI (tK T n p) = 6 by rw [c6]; rfl)]
        refine ev_cl (ev_mono (gd_next h) (fun _ μ1 h1 => ?_))
        rw [if_neg (show ¬ (1 : Int32) = 0 by decide)]
        have hxp : xl cs ≤ p := by
          cases w with
          | true => have : xl cs + 1 ≤ p := hx
                    omega
          | false => exact hx
        have main : Ev (Rd_conditionB_85 48 (Rd_cc 48 nf true) kd (Rd_conditionB_9 48 (Rd_cc 48 nf true) kd (nI o) f) (nI o) (nI i) 1 (if w = true then 1 else 0) μ1) (fun _ μ' => StC μ0 T n cs (pbd (cdF T n m true o false (tE T n p)) (fun c p1 => prp (c ++ [(6, 0)]) (cdF T n m false o w p1))) μ') := by
          unfold Rd_conditionB_85 Rd_conditionB_106
          simp only [Nat.reduceAdd]
          refine ev_cl (ev_mono (ihA nf o _ false cs μ1 (by omega) hnf ho (by omega) (by omega) h1) (fun _ μ2 h2 => ?_))
          rw [if_neg (show ¬ (1 : Int32) = 0 by decide)]
          cases hu : cdF T n m true o false (tE T n p) with
          | error er =>
            rw [hu] at h2
            exact ev_cl (ev_mono (bd_emit h2 _ _) (fun _ μ3 h3 => bd_condL h3 _ _ _ (by omega)))
          | ok q =>
            rw [hu] at h2
            obtain ⟨a1, a2, a3, a4⟩ := (cdF_sz m true o false (tE T n p) q.1 q.2 hE ho hu).1 rfl
            have hl := xl_len (cs ++ q.1)
            rw [xl_app] at hl
            refine ev_cl (ev_mono (gd_emit h2 (by omega) 6 0 rfl rfl) (fun _ μ3 h3 => ?_))
            rw [nI_1]
            refine ev_mono (ihB nf o q.2 (i + 1) f w _ kd μ3 (by omega) hnf ho ?_ (by omega) (by omega) h3) (fun _ μ4 h4 => ?_)
            · rw [xl_app, xl_app, xl_one (c := (6, 0)) (by decide)]; omega
            · refine stC_prp (d := q.1 ++ [(6, 0)]) ?_
              rw [← List.append_assoc]; exact h4
        unfold Rd_conditionB_71 Rd_conditionB_80
        cases w with
        | false =>
          rw [if_pos (show (if false = true then (1 : Int32) else 0) = 0 from rfl), if_neg (show ¬ (1 : Int32) = 0 by decide)]
          exact main
        | true =>
          rw [if_neg (show ¬ (if true = true then (1 : Int32) else 0) = 0 by decide)]
          exact main
      rw [if_neg (fun z : nI (tK T n p) = 6 => c6 ((tK_is hp 6 (by omega)).mp z)), if_neg c6, gF_eq, gd_k h]
      by_cases c5 : tK T n p = 5
      · have hg := tE_gt (T := T) hp (by omega)
        rw [if_pos (show nI (tK T n p) = 5 by rw [c5]; rfl), if_pos c5]
        unfold Rd_conditionB_33 Rd_conditionB_47
        simp only [Nat.reduceAdd]
        rw [gF_eq, gd_k h, if_neg (fun z : nI (tK T n p) = 6 => c6 ((tK_is hp 6 (by omega)).mp z))]
        refine ev_cl (ev_mono (gd_next h) (fun _ μ1 h1 => ?_))
        rw [if_pos trivial]
        have hxo : xl (orL w) = if w = true then 1 else 0 := by cases w <;> rfl
        have main : ∀ μ2, GdC μ0 T n (tE T n p) (cs ++ orL w) μ2 → Ev (Rd_conditionB_85 48 (Rd_cc 48 nf true) kd (Rd_conditionB_9 48 (Rd_cc 48 nf true) kd (nI o) f) (nI o) (nI i) 0 1 μ2) (fun _ μ' => StC μ0 T n cs (pbd (cdF T n m true o false (tE T n p)) (fun c p1 => prp (orL w ++ c) (cdF T n m false o true p1))) μ') := by
          intro μ2 h2
          unfold Rd_conditionB_85 Rd_conditionB_106
          refine ev_cl (ev_mono (ihA nf o _ false (cs ++ orL w) μ2 (by omega) hnf ho (by rw [xl_app, hxo]; omega) (by rw [xl_app, hxo]; omega) h2) (fun _ μ3 h3 => ?_))
          rw [if_pos rfl]
          cases hu : cdF T n m true o false (tE T n p) with
          | error er =>
            rw [hu] at h3
            exact bd_condL h3 _ _ _ (by omega)
          | ok q =>
            rw [hu] at h3
            obtain ⟨a1, a2, a3, a4⟩ := (cdF_sz m true o false (tE T n p) q.1 q.2 hE ho hu).1 rfl
            rw [nI_1]
            refine ev_mono (ihB nf o q.2 (i + 1) f true _ kd μ3 (by omega) hnf ho ?_ (by omega) (by omega) h3) (fun _ μ4 h4 => ?_)
            · rw [xl_app, xl_app, hxo]; show xl cs + (if w = true then 1 else 0) + xl q.1 + 1 ≤ q.2; omega
            · refine stC_prp (d := orL w ++ q.1) ?_
              rw [← List.append_assoc]; exact h4
        unfold Rd_conditionB_71 Rd_conditionB_80
        cases w with
        | false =>
          rw [if_pos (show (if false = true then (1 : Int32) else 0) = 0 from rfl), if_pos (show (if false = true then (1 : Int32) else 0) = 0 from rfl), if_pos rfl]
          refine main μ1 ?_
          show GdC μ0 T n (tE T n p) (cs ++ []) μ1
          rw [List.append_nil]; exact h1
        | true =>
          have hx2 : xl cs + 1 ≤ p := hx
          have hl := xl_len cs
          rw [if_neg (show ¬ (if true = true then (1 : Int32) else 0) = 0 by decide)]
          refine ev_cl (ev_mono (gd_emit h1 (by omega) 5 0 rfl rfl) (fun _ μ2 h2 => ?_))
          rw [if_neg (show ¬ (if true = true then (1 : Int32) else 0) = 0 by decide)]
          exact main μ2 h2
      rw [if_neg (fun z : nI (tK T n p) = 5 => c5 ((tK_is hp 5 (by omega)).mp z)), if_neg c5]
      exact gd_112 h w hx
/-- the whole condition behind when -/
theorem gd_cond {μ0 : Mu} {T : Nat → Nat} {n p : Nat} {cs : Cds} {μ : Mu} (h : GdC μ0 T n p cs μ) (hx : xl cs ≤ p) (hx4 : xl cs < 400) : Ev (Rd_condition 48 0 μ) (fun _ μ' => StC μ0 T n cs (cnS T n p) μ') := by
  have hn := gd_n h
  have hp := h.2.2.1
  show Ev (cl (Rd_cc 48 59 true (nI 0) μ) (fun _ μ1 => Rd_conditionB_9 48 (Rd_cc 48 59 true) (Rd_cc 48 59 false) (nI 0) FU 0 0 μ1)) _
  unfold cnS
  refine ev_cl (ev_mono ((gd_cc 402).1 59 0 p false cs μ (by omega) (by omega) (by omega) hx hx4 h) (fun _ μ1 h1 => ?_))
  cases hu : cdF T n 402 true 0 false p with
  | error er =>
    rw [hu] at h1
    exact bd_condL h1 _ _ _ (by unfold FU; omega)
  | ok q =>
    rw [hu] at h1
    obtain ⟨a1, a2, a3, a4⟩ := (cdF_sz 402 true 0 false p q.1 q.2 hp (by omega) hu).1 rfl
    exact ev_mono ((gd_cc 402).2 59 0 q.2 0 FU false (cs ++ q.1) _ μ1 (by omega) (by omega) (by omega) (by rw [xl_app]; show xl cs + xl q.1 + 0 ≤ q.2; omega) (by omega) (by unfold FU; omega) h1) (fun _ μ2 h2 => stC_prp h2)
theorem bd_cond {μ0 : Mu} {T : Nat → Nat} {n : Nat} {e : Nat × Nat} {μ : Mu} (h : BdC μ0 T n e μ) : Ev (Rd_condition 48 0 μ) (fun _ μ' => BdC μ0 T n e μ') := by
  show Ev (cl (Rd_comparisonB 48 (Rd_cc 48 58 true) (Rd_cc 48 58 false) 0 μ) (fun _ μ1 => Rd_conditionB_9 48 (Rd_cc 48 59 true) (Rd_cc 48 59 false) 0 FU 0 0 μ1)) _
  exact ev_cl (ev_mono (bd_cmp h 0) (fun _ μ1 h1 => bd_condL h1 _ _ _ (by unfold FU; omega)))
