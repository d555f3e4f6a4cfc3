/-! L3: THE REFERENCE READS A LAW -/
def McI (bl bc : Nat) (ν : Mu) (L : LawL) (sz : Nat) : Prop := ∃ f : Nat → Nat, ∀ l, l < L.length → ν 67 (bl + l) = nI (L.getD l d0L).1 ∧ ν 68 (bl + l) = nI (f l) ∧ ν 69 (bl + l) = nI (f l + (expL (L.getD l d0L).2.1).length) ∧ ν 70 (bl + l) = nI (f l + (expL (L.getD l d0L).2.1).length + (expL (L.getD l d0L).2.2).length) ∧ f l + (expL (L.getD l d0L).2.1).length + (expL (L.getD l d0L).2.2).length ≤ sz ∧ (∀ i, i < (expL (L.getD l d0L).2.1).length → ν 71 (bc + (f l + i)) = nI ((expL (L.getD l d0L).2.1).getD i (0, 0)).1 ∧ ν 72 (bc + (f l + i)) = nI ((expL (L.getD l d0L).2.1).getD i (0, 0)).2) ∧ ∀ i, i < (expL (L.getD l d0L).2.2).length → ν 71 (bc + (f l + (expL (L.getD l d0L).2.1).length + i)) = nI ((expL (L.getD l d0L).2.2).getD i (0, 0)).1 ∧ ν 72 (bc + (f l + (expL (L.getD l d0L).2.1).length + i)) = nI ((expL (L.getD l d0L).2.2).getD i (0, 0)).2
theorem mcI_move {bl bc bl' bc' : Nat} {μ μ' : Mu} {L : LawL} {sz sz' : Nat} (h1 : ∀ r j, r ∈ [67, 68, 69, 70] → j < L.length → μ' r (bl' + j) = μ r (bl + j)) (h2 : ∀ r i, r ∈ [71, 72] → i < sz → μ' r (bc' + i) = μ r (bc + i)) (hs : sz ≤ sz') (h : McI bl bc μ L sz) : McI bl' bc' μ' L sz' := by
  obtain ⟨f, h⟩ := h
  refine ⟨f, fun l hl => ?_⟩
  obtain ⟨g1, g2, g3, g4, g5, g6, g7⟩ := h l hl
  refine ⟨(h1 67 l (by decide) hl).trans g1, (h1 68 l (by decide) hl).trans g2, (h1 69 l (by decide) hl).trans g3, (h1 70 l (by decide) hl).trans g4, by omega, fun i hi => ?_, fun i hi => ?_⟩
  · rw [h2 71 _ (by decide) (by omega), h2 72 _ (by decide) (by omega)]; exact g6 i hi
  · rw [h2 71 _ (by decide) (by omega), h2 72 _ (by decide) (by omega)]; exact g7 i hi
theorem lawM_I {ν : Mu} {L : LawL} {sz : Nat} (h : McI 0 0 ν L sz) (hs : sz ≤ 400) (h0 : ν 66 0 = nI L.length) : LawM ν L := by
  obtain ⟨f, h⟩ := h
  refine ⟨f, h0, fun l hl => ?_⟩
  obtain ⟨g1, g2, g3, g4, g5, g6, g7⟩ := h l hl
  rw [Nat.zero_add] at g1 g2 g3 g4
  refine ⟨g1, g2, g3, g4, by omega, fun i hi => ?_, fun i hi => ?_⟩
  · have := g6 i hi; rw [Nat.zero_add] at this; exact this
  · have := g7 i hi; rw [Nat.zero_add] at this; exact this
theorem mcI_push {bl bc : Nat} {ν : Mu} {L : LawL} {sz : Nat} (x : Nat × Cds × Cds) (h : McI bl bc ν L sz) (h1 : ν 67 (bl + L.length) = nI x.1) (h2 : ν 68 (bl + L.length) = nI sz) (h3 : ν 69 (bl + L.length) = nI (sz + (expL x.2.1).length)) (h4 : ν 70 (bl + L.length) = nI (sz + (expL x.2.1).length + (expL x.2.2).length)) (h5 : ∀ i, i < (expL x.2.1).length → ν 71 (bc + (sz + i)) = nI ((expL x.2.1).getD i (0, 0)).1 ∧ ν 72 (bc + (sz + i)) = nI ((expL x.2.1).getD i (0, 0)).2) (h6 : ∀ i, i < (expL x.2.2).length → ν 71 (bc + (sz + (expL x.2.1).length + i)) = nI ((expL x.2.2).getD i (0, 0)).1 ∧ ν 72 (bc + (sz + (expL x.2.1).length + i)) = nI ((expL x.2.2).getD i (0, 0)).2) : McI bl bc ν (L ++ [x]) (sz + (expL x.2.1).length + (expL x.2.2).length) := by
  obtain ⟨f, h⟩ := h
  refine ⟨kfL f L.length sz, fun l hl => ?_⟩
  rw [List.length_append] at hl
  have hl2 : l < L.length + 1 := hl
  by_cases z : l = L.length
  · subst z
    rw [getD_last, show kfL f L.length sz L.length = sz from if_pos rfl]
    exact ⟨h1, h2, h3, h4, Nat.le_refl _, h5, h6⟩
  · rw [getD_front (by omega), show kfL f L.length sz l = f l from if_neg z]
    obtain ⟨g1, g2, g3, g4, g5, g6, g7⟩ := h l (by omega)
    exact ⟨g1, g2, g3, g4, by omega, g6, g7⟩
def FrLM (μ μ' : Mu) : Prop := (∀ k, k ∉ [59, 67, 68, 69, 70, 71, 72, 73] → μ' k = μ k) ∧ (∀ k i, k ∈ [67, 68, 69, 70] → i < 32 → μ' k i = μ k i) ∧ (∀ i, i < 800 → μ' 71 i = μ 71 i ∧ μ' 72 i = μ 72 i) ∧ ∀ j, j ∉ [10, 11, 12, 13, 23, 24, 26, 27, 28] → μ' 59 j = μ 59 j
theorem frLM_refl (μ : Mu) : FrLM μ μ := ⟨fun _ _ => rfl, fun _ _ _ _ => rfl, fun _ _ => ⟨rfl, rfl⟩, fun _ _ => rfl⟩
theorem frLM_A {a b c : Mu} (h1 : FrLM a b) (h2 : FrA b c) : FrLM a c := by
  refine ⟨fun k h => (h2.1 k (fun z => h ?_)).trans (h1.1 k h), fun k i hk hi => ?_, fun i h => ⟨(h2.2.1 i h).1.trans (h1.2.2.1 i h).1, (h2.2.1 i h).2.trans (h1.2.2.1 i h).2⟩, fun j h => (h2.2.2 j h).trans (h1.2.2.2 j h)⟩
  · simp only [List.mem_cons, List.not_mem_nil, or_false] at z ⊢; omega
  · rw [h2.1 k (by simp only [List.mem_cons, List.not_mem_nil, or_false] at hk ⊢; omega)]; exact h1.2.1 k i hk hi
theorem frLM_Q {a b c : Mu} (h1 : FrLM a b) (h2 : FrQ b c) : FrLM a c := frLM_A h1 (frA_Q (frA_refl b) h2)
theorem frLM_up {a b : Mu} {k i : Nat} {v : Int32} (h1 : FrLM a b) (h : k ∈ [67, 68, 69, 70]) (hi : 32 ≤ i) : FrLM a (up2 b k i v) := by
  have h2 : k = 67 ∨ k = 68 ∨ k = 69 ∨ k = 70 := by
    simp only [List.mem_cons, List.not_mem_nil, or_false] at h; exact h
  refine ⟨fun j hj => (up2_ne (fun z => hj ?_)).trans (h1.1 j hj), fun j x hj hx => (up2_off (Or.inr (by omega))).trans (h1.2.1 j x hj hx), fun x hx => ⟨(up2_off (Or.inl (by omega))).trans (h1.2.2.1 x hx).1, (up2_off (Or.inl (by omega))).trans (h1.2.2.1 x hx).2⟩, fun j hj => (up2_off (Or.inl (by omega))).trans (h1.2.2.2 j hj)⟩
  rw [z]
  rcases h2 with z | z | z | z <;> rw [z] <;> decide
def LnM (ν0 : Mu) (T : Nat → Nat) (n p : Nat) (L : LawL) (os : Cds) (ν : Mu) : Prop := FrLM ν0 ν ∧ CoM T n p os ν ∧ ν 59 24 = 0 ∧ McI 32 800 ν L os.length ∧ os.length ≤ p ∧ L.length ≤ 16
def LwM (ν0 : Mu) (L : LawL) (x : Except (Nat × Nat) LawL) (r : Int32) (ν : Mu) : Prop := match x with
  | .error e => r = -1 ∧ FrLM ν0 ν ∧ ν 59 27 = nI e.1 ∧ ν 59 28 = nI e.2
  | .ok y => r = nI (L ++ y).length ∧ FrLM ν0 ν ∧ (L ++ y).length ≤ 16 ∧ ∃ sz, sz ≤ 400 ∧ ν 59 23 = nI sz ∧ McI 32 800 ν (L ++ y) sz
theorem coM_up {T : Nat → Nat} {n p : Nat} {os : Cds} {ν : Mu} {k i : Nat} {v : Int32} (h : CoM T n p os ν) (hk : k ∈ [67, 68, 69, 70]) : CoM T n p os (up2 ν k i v) := by
  have h2 : k = 67 ∨ k = 68 ∨ k = 69 ∨ k = 70 := by
    simp only [List.mem_cons, List.not_mem_nil, or_false] at hk; exact hk
  refine coM_of (fun j _ => up2_off (Or.inl (by omega))) (fun j hj => up2_ne ?_) h
  simp only [List.mem_cons, List.not_mem_nil, or_false] at hj
  omega
theorem line_word : ∀ k, k < 25 → 1 ≤ k → ((rwn k ≤ 2) ↔ k ≤ 3) ∧ (k ≤ 3 → rwn k = k - 1) := by decide +kernel
theorem gm_law {ν0 : Mu} {T : Nat → Nat} {n : Nat} : ∀ (m p fuel : Nat) (L : LawL) (os : Cds) (ν : Mu), n - p < m → n - p < fuel → LnM ν0 T n p L os ν → Ev (Mo_readLaw_2 59 fuel (nI L.length) ν) (fun r ν' => LwM ν0 L (lwS T n m L.length p) r ν') := by
  intro m
  induction m with
  | zero => intro p fuel L os ν hm; omega
  | succ m ih =>
    intro p fuel L os ν hm hfu h
    obtain ⟨f, rfl⟩ : ∃ k, fuel = k + 1 := ⟨fuel - 1, by omega⟩
    obtain ⟨hF, hC, h24, hL, hlp, hk16⟩ := h
    have hn := gm_n hC
    have hp := hC.2.1
    have ht := hC.2.2.1
    have hE := tE_le (T := T) hp
    have hk63 := tK_lt (T := T) hp
    have h4 := tkM_rng (tK T n p)
    have hol : os.length ≤ 400 := hC.2.2.2.2.1
    have g0 : GdM ν T n p os ν := ⟨frQ_refl ν, hC⟩
    show Ev (Mo_readLaw_2b 59 (Mo_readLaw_2 59 f) (nI L.length) ν) _
    unfold Mo_readLaw_2b
    rw [lwS_succ]
    have isl : Mo_isLineWord 59 ν = some (if 1 ≤ tK T n p ∧ tK T n p ≤ 3 then 1 else 0, ν) := by
      unfold Mo_isLineWord
      rw [gF_eq, ht.1]
      by_cases q : tkM (tK T n p) = 2
      · have h13 : ν 59 13 = nI (rwn (tK T n p)) := ht.2.1 q
        have hw := tkM_2 q
        have r2 := rwn_lt (tK T n p) (by omega)
        have lw := (line_word (tK T n p) (by omega) hw.1).1
        rw [if_pos (show nI (tkM (tk T n p).1) = 2 by rw [show tkM (tk T n p).1 = 2 from q]; rfl), gF_eq, h13, isIn_eq, cl_eq]
        by_cases c : tK T n p ≤ 3
        · have := lw.mpr c
          rw [if_neg (show ¬ (nI (rwn (tK T n p)) < 0 ∨ 2 < nI (rwn (tK T n p))) by
            rintro (z | z)
            · exact nI_pos (by omega) z
            · exact nI_nlt (a := 2) this (by omega) z), if_neg (show ¬ (1 : Int32) = 0 by decide), if_pos ⟨hw.1, c⟩]
        · rw [if_pos (show nI (rwn (tK T n p)) < 0 ∨ 2 < nI (rwn (tK T n p)) from Or.inr (nI_lt (a := 2) (by
            by_cases z : rwn (tK T n p) ≤ 2
            · exact absurd (lw.mp z) c
            · omega) (by omega))), if_pos rfl, if_neg (fun z => c z.2)]
      · rw [if_neg (fun z : nI (tkM (tk T n p).1) = 2 => q ((nI_eq (b := 2) (by show tkM (tK T n p) < _; omega) (by omega)).mp z)), if_neg (fun z => q (tkM_w (by omega)))]
    rw [isl, cl_eq]
    by_cases c3 : 1 ≤ tK T n p ∧ tK T n p ≤ 3
    · have hg := tE_gt (T := T) hp (by omega)
      have q2 : tkM (tK T n p) = 2 := tkM_w (by omega)
      have h13 : ν 59 13 = nI (rwn (tK T n p)) := ht.2.1 q2
      rw [(line_word (tK T n p) (by omega) c3.1).2 c3.2] at h13
      rw [if_pos c3, if_neg (show ¬ (1 : Int32) = 0 by decide), if_neg (show ¬ tK T n p = 0 by omega), if_pos c3.2]
      by_cases c16 : L.length = 16
      · rw [if_pos (show nI L.length = 16 by rw [c16]; rfl), if_pos c16]
        exact ev_cl (ev_mono (gm_errs g0 3 rfl) (fun r ν1 h1 => ev_some ⟨h1.1, frLM_Q hF h1.2.1, h1.2.2.1, h1.2.2.2⟩))
      have hadd : (32 : Int32) + nI L.length = nI (32 + L.length) := nI_add 32 L.length
      rw [if_neg (fun z : nI L.length = 16 => c16 ((nI_eq (b := 16) (by omega) (by omega)).mp z)), if_neg c16, gF_eq, h13, hadd]
      simp only [Nat.reduceAdd]
      rw [stA_nI (by omega) (by omega)]
      have c1 : CoM T n p os (up2 ν 67 (32 + L.length) (nI (tK T n p - 1))) := coM_up hC (by decide)
      have f1 : FrLM ν0 (up2 ν 67 (32 + L.length) (nI (tK T n p - 1))) := frLM_up hF (by decide) (by omega)
      have k24 : up2 ν 67 (32 + L.length) (nI (tK T n p - 1)) 59 24 = 0 := by rw [up2_off (Or.inl (by decide)), h24]
      have k67 : up2 ν 67 (32 + L.length) (nI (tK T n p - 1)) 67 (32 + L.length) = nI (tK T n p - 1) := up2_same _ _ _ _
      have kL : McI 32 800 (up2 ν 67 (32 + L.length) (nI (tK T n p - 1))) L os.length := mcI_move (fun r j _ hj => by rw [up2_off (Or.inr (by omega))]) (fun r i hr _ => by
        rw [up2_off (Or.inl (by
          simp only [List.mem_cons, List.not_mem_nil, or_false] at hr; omega))]) (Nat.le_refl _) hL
      generalize up2 ν 67 (32 + L.length) (nI (tK T n p - 1)) = ν1 at c1 f1 k24 k67 kL ⊢
      refine ev_cl (ev_mono (gm_reads ⟨frQ_refl ν1, c1⟩) (fun _ ν2 g2 => ?_))
      have f2 := frLM_Q f1 g2.1
      have j24 : ν2 59 24 = 0 := (g2.1.2.2 24 (by decide)).trans k24
      have tr2 : ∀ k, k ∈ [67, 68, 69, 70] → ν2 k = ν1 k := fun k hk => g2.1.1 k (by
        simp only [List.mem_cons, List.not_mem_nil, or_false] at hk ⊢; omega)
      have j67 : ν2 67 (32 + L.length) = nI (tK T n p - 1) := by rw [tr2 67 (by decide)]; exact k67
      have old2 : ∀ i, i < os.length → ν2 71 (800 + i) = ν1 71 (800 + i) ∧ ν2 72 (800 + i) = ν1 72 (800 + i) := fun i hi => by
        have x1 := c1.2.2.2.2.2 i hi
        have x2 := g2.2.2.2.2.2.2 i hi
        exact ⟨x2.1.trans x1.1.symm, x2.2.trans x1.2.symm⟩
      have jL : McI 32 800 ν2 L os.length := mcI_move (fun r j hr _ => by rw [tr2 r hr]) (fun r i hr hi => by
        have hr2 : r = 71 ∨ r = 72 := by
          simp only [List.mem_cons, List.not_mem_nil, or_false] at hr; exact hr
        rcases hr2 with rfl | rfl
        · exact (old2 i hi).1
        · exact (old2 i hi).2) (Nat.le_refl _) kL
      rw [gF_eq, g2.2.2.2.2.1, stA_nI (by omega) (by omega)]
      have c3' : CoM T n (tE T n p) os (up2 ν2 68 (32 + L.length) (nI os.length)) := coM_up g2.2 (by decide)
      have f3 : FrLM ν0 (up2 ν2 68 (32 + L.length) (nI os.length)) := frLM_up f2 (by decide) (by omega)
      have l24 : up2 ν2 68 (32 + L.length) (nI os.length) 59 24 = 0 := by rw [up2_off (Or.inl (by decide)), j24]
      have l67 : up2 ν2 68 (32 + L.length) (nI os.length) 67 (32 + L.length) = nI (tK T n p - 1) := by rw [up2_off (Or.inl (by decide)), j67]
      have l68 : up2 ν2 68 (32 + L.length) (nI os.length) 68 (32 + L.length) = nI os.length := up2_same _ _ _ _
      have lL : McI 32 800 (up2 ν2 68 (32 + L.length) (nI os.length)) L os.length := mcI_move (fun r j _ hj => by rw [up2_off (Or.inr (by omega))]) (fun r i hr _ => by
        rw [up2_off (Or.inl (by
          simp only [List.mem_cons, List.not_mem_nil, or_false] at hr; omega))]) (Nat.le_refl _) jL
      generalize up2 ν2 68 (32 + L.length) (nI os.length) = ν3 at c3' f3 l24 l67 l68 lL ⊢
      refine ev_cl (ev_mono (gm_sum ⟨frQ_refl ν3, c3'⟩ (by omega) (by omega)) (fun r ν4 h4 => ?_))
      unfold liS
      cases hu : suS T n (tE T n p) with
      | error er =>
        rw [hu] at h4
        rw [if_pos h4.1]
        exact ev_some ⟨rfl, frLM_Q f3 h4.2.1, h4.2.2.1, h4.2.2.2⟩
      | ok q =>
        rw [hu] at h4
        obtain ⟨a1, a2, a3, a4⟩ := su_sz (c := q.1) (p' := q.2) hE hu
        have hE2 := tE_le (T := T) a2
        have g4 := h4.2
        have f4 := frLM_Q f3 g4.1
        have m24 : ν4 59 24 = 0 := (g4.1.2.2 24 (by decide)).trans l24
        have tr4 : ∀ k, k ∈ [67, 68, 69, 70] → ν4 k = ν3 k := fun k hk => g4.1.1 k (by
          simp only [List.mem_cons, List.not_mem_nil, or_false] at hk ⊢; omega)
        have hl4 : (os ++ expL q.1).length = os.length + (expL q.1).length := List.length_append
        have hl44 : (os ++ expL q.1).length ≤ 400 := g4.2.2.2.2.2.1
        have hxq : xl q.1 = (expL q.1).length := rfl
        have old4 : ∀ i, i < os.length → ν4 71 (800 + i) = ν3 71 (800 + i) ∧ ν4 72 (800 + i) = ν3 72 (800 + i) := fun i hi => by
          have x1 := c3'.2.2.2.2.2 i hi
          have x2 := g4.2.2.2.2.2.2 i (by omega)
          rw [getD_fr hi] at x2
          exact ⟨x2.1.trans x1.1.symm, x2.2.trans x1.2.symm⟩
        have mL : McI 32 800 ν4 L os.length := mcI_move (fun r j hr _ => by rw [tr4 r hr]) (fun r i hr hi => by
          have hr2 : r = 71 ∨ r = 72 := by
            simp only [List.mem_cons, List.not_mem_nil, or_false] at hr; exact hr
          rcases hr2 with rfl | rfl
          · exact (old4 i hi).1
          · exact (old4 i hi).2) (Nat.le_refl _) lL
        have m67 : ν4 67 (32 + L.length) = nI (tK T n p - 1) := by rw [tr4 67 (by decide)]; exact l67
        have m68 : ν4 68 (32 + L.length) = nI os.length := by rw [tr4 68 (by decide)]; exact l68
        rw [h4.1, if_neg (show ¬ (0 : Int32) = -1 by decide), gF_eq, g4.2.2.2.2.1, stA_nI (by omega) (by omega)]
        have c5 : CoM T n q.2 (os ++ expL q.1) (up2 ν4 69 (32 + L.length) (nI (os ++ expL q.1).length)) := coM_up g4.2 (by decide)
        have f5 : FrLM ν0 (up2 ν4 69 (32 + L.length) (nI (os ++ expL q.1).length)) := frLM_up f4 (by decide) (by omega)
        have r24 : up2 ν4 69 (32 + L.length) (nI (os ++ expL q.1).length) 59 24 = 0 := by rw [up2_off (Or.inl (by decide)), m24]
        have r67 : up2 ν4 69 (32 + L.length) (nI (os ++ expL q.1).length) 67 (32 + L.length) = nI (tK T n p - 1) := by rw [up2_off (Or.inl (by decide)), m67]
        have r68 : up2 ν4 69 (32 + L.length) (nI (os ++ expL q.1).length) 68 (32 + L.length) = nI os.length := by rw [up2_off (Or.inl (by decide)), m68]
        have r69 : up2 ν4 69 (32 + L.length) (nI (os ++ expL q.1).length) 69 (32 + L.length) = nI (os ++ expL q.1).length := up2_same _ _ _ _
        have rL : McI 32 800 (up2 ν4 69 (32 + L.length) (nI (os ++ expL q.1).length)) L os.length := mcI_move (fun r j _ hj => by rw [up2_off (Or.inr (by omega))]) (fun r i hr _ => by
          rw [up2_off (Or.inl (by
            simp only [List.mem_cons, List.not_mem_nil, or_false] at hr; omega))]) (Nat.le_refl _) mL
        generalize up2 ν4 69 (32 + L.length) (nI (os ++ expL q.1).length) = ν5 at c5 f5 r24 r67 r68 r69 rL ⊢
        have endl : ∀ (d : Cds) (p2 : Nat) (ν6 : Mu), FrLM ν0 ν6 → CoM T n p2 (os ++ expL q.1 ++ expL d) ν6 → q.2 ≤ p2 → (os ++ expL q.1 ++ expL d).length ≤ p2 → ν6 59 24 = 0 → ν6 67 (32 + L.length) = nI (tK T n p - 1) → ν6 68 (32 + L.length) = nI os.length → ν6 69 (32 + L.length) = nI (os ++ expL q.1).length → McI 32 800 ν6 L os.length →
            Ev (Mo_readLaw_92 59 (Mo_readLaw_2 59 f) (nI L.length) (nI (32 + L.length)) ν6) (fun r ν' => LwM ν0 L (match (if tK T n p2 = 59 then Except.ok ((q.1, d), tE T n p2) else Except.error (1, tF T n p2) : Except (Nat × Nat) ((Cds × Cds) × Nat)) with
                | .error e => .error e
                | .ok q => (match lwS T n m (L.length + 1) q.2 with
                  | .error e => .error e
                  | .ok r => .ok ((tK T n p - 1, q.1.1, q.1.2) :: r))) r ν') := by
          intro d p2 ν6 f6 c6 hqp hlp2 s24 s67 s68 s69 sL
          have hp2 := c6.2.1
          have hl6 : (os ++ expL q.1 ++ expL d).length = os.length + (expL q.1).length + (expL d).length := by rw [List.length_append, hl4]
          have hl66 : (os ++ expL q.1 ++ expL d).length ≤ 400 := c6.2.2.2.2.1
          unfold Mo_readLaw_92
          simp only [Nat.reduceAdd]
          rw [gF_eq, c6.2.2.2.1, stA_nI (by omega) (by omega)]
          have c7 : CoM T n p2 (os ++ expL q.1 ++ expL d) (up2 ν6 70 (32 + L.length) (nI (os ++ expL q.1 ++ expL d).length)) := coM_up c6 (by decide)
          have f7 : FrLM ν0 (up2 ν6 70 (32 + L.length) (nI (os ++ expL q.1 ++ expL d).length)) := frLM_up f6 (by decide) (by omega)
          have t24 : up2 ν6 70 (32 + L.length) (nI (os ++ expL q.1 ++ expL d).length) 59 24 = 0 := by rw [up2_off (Or.inl (by decide)), s24]
          have tL : McI 32 800 (up2 ν6 70 (32 + L.length) (nI (os ++ expL q.1 ++ expL d).length)) (L ++ [(tK T n p - 1, q.1, d)]) (os ++ expL q.1 ++ expL d).length := by
            rw [hl6]
            refine mcI_push (tK T n p - 1, q.1, d) (sz := os.length) ?_ ?_ ?_ ?_ ?_ (fun i hi => ?_) (fun i hi => ?_)
            · exact mcI_move (fun r j _ hj => by rw [up2_off (Or.inr (by omega))]) (fun r i hr _ => by
                rw [up2_off (Or.inl (by
                  simp only [List.mem_cons, List.not_mem_nil, or_false] at hr; omega))]) (Nat.le_refl _) sL
            · rw [up2_off (Or.inl (by decide)), s67]
            · rw [up2_off (Or.inl (by decide)), s68]
            · rw [up2_off (Or.inl (by decide)), s69, hl4]
            · exact up2_same _ _ _ _
            · have hi2 : i < (expL q.1).length := hi
              rw [up2_off (Or.inl (by decide)), up2_off (Or.inl (by decide))]
              have := c6.2.2.2.2.2 (os.length + i) (by omega)
              rw [List.append_assoc, getD_bk, getD_fr hi2] at this
              exact this
            · have hi2 : i < (expL d).length := hi
              rw [up2_off (Or.inl (by decide)), up2_off (Or.inl (by decide))]
              have := c6.2.2.2.2.2 (os.length + (expL q.1).length + i) (by omega)
              rw [← hl4, getD_bk, hl4] at this
              exact this
          generalize up2 ν6 70 (32 + L.length) (nI (os ++ expL q.1 ++ expL d).length) = ν7 at c7 f7 t24 tL ⊢
          rw [mo_isSign (v := 59) c7.2.2.1 hp2 59 rfl (by decide), cl_eq]
          by_cases c59 : tK T n p2 = 59
          · have hg2 := tE_gt (T := T) hp2 (by omega)
            have hE3 := tE_le (T := T) hp2
            rw [if_pos c59, if_neg (show ¬ (1 : Int32) = 0 by decide), if_pos c59]
            refine ev_cl (ev_mono (gm_reads ⟨frQ_refl ν7, c7⟩) (fun _ ν8 g8 => ?_))
            have hll : (L ++ [(tK T n p - 1, q.1, d)]).length = L.length + 1 := List.length_append
            have g9 : LnM ν0 T n (tE T n p2) (L ++ [(tK T n p - 1, q.1, d)]) (os ++ expL q.1 ++ expL d) ν8 := by
              refine ⟨frLM_Q f7 g8.1, g8.2, (g8.1.2.2 24 (by decide)).trans t24, mcI_move (fun r j hr _ => ?_) (fun r i hr hi => ?_) (Nat.le_refl _) tL, by omega, by omega⟩
              · rw [g8.1.1 r (by simp only [List.mem_cons, List.not_mem_nil, or_false] at hr ⊢; omega)]
              · have x1 := c7.2.2.2.2.2 i hi
                have x2 := g8.2.2.2.2.2.2 i hi
                have hr2 : r = 71 ∨ r = 72 := by
                  simp only [List.mem_cons, List.not_mem_nil, or_false] at hr; exact hr
                rcases hr2 with rfl | rfl
                · exact x2.1.trans x1.1.symm
                · exact x2.2.trans x1.2.symm
            rw [nI_1, ← hll]
            refine ev_mono (ih (tE T n p2) f _ _ ν8 (by omega) (by omega) g9) (fun r ν9 h9 => ?_)
            show LwM ν0 L (match lwS T n m (L ++ [(tK T n p - 1, q.1, d)]).length (tE T n p2) with
                | .error e => .error e
                | .ok r => .ok ((tK T n p - 1, q.1, d) :: r)) r ν9
            cases hlw : lwS T n m (L ++ [(tK T n p - 1, q.1, d)]).length (tE T n p2) with
            | error er => rw [hlw] at h9; exact h9
            | ok y =>
              rw [hlw] at h9
              obtain ⟨y1, y2, y3, y4⟩ := h9
              rw [List.append_assoc] at y1 y3 y4
              exact ⟨y1, y2, y3, y4⟩
          · rw [if_neg c59, if_pos rfl, if_neg c59]
            exact ev_cl (ev_mono (gm_errs ⟨frQ_refl ν7, c7⟩ 1 rfl) (fun r ν8 h8 => ev_some ⟨h8.1, frLM_Q f7 h8.2.1, h8.2.2.1, h8.2.2.2⟩))
        show Ev _ (fun r ν' => LwM ν0 L (match (if tK T n q.2 = 4 then (match cnS T n (tE T n q.2) with
            | .error e => .error e
            | .ok q2 => if tK T n q2.2 = 59 then .ok ((q.1, q2.1), tE T n q2.2) else .error (1, tF T n q2.2))
          else if tK T n q.2 = 59 then .ok ((q.1, []), tE T n q.2) else .error (1, tF T n q.2) : Except (Nat × Nat) ((Cds × Cds) × Nat)) with
              | .error e => .error e
              | .ok q => (match lwS T n m (L.length + 1) q.2 with
                | .error e => .error e
                | .ok r => .ok ((tK T n p - 1, q.1.1, q.1.2) :: r))) r ν')
        rw [mo_isWord (v := 3) c5.2.2.1 4 rfl (by omega), cl_eq]
        by_cases c4 : tK T n q.2 = 4
        · have hg2 := tE_gt (T := T) a2 (by omega)
          rw [if_pos c4, if_neg (show ¬ (1 : Int32) = 0 by decide), if_pos c4]
          refine ev_cl (ev_mono (gm_reads ⟨frQ_refl ν5, c5⟩) (fun _ ν6 g6 => ?_))
          have f6 := frLM_Q f5 g6.1
          have s24 : ν6 59 24 = 0 := (g6.1.2.2 24 (by decide)).trans r24
          refine ev_cl (ev_mono (gm_any (ν0 := ν6) ⟨frQ_refl ν6, g6.2⟩ s24 (by omega) (by omega)) (fun r ν7 h7 => ?_))
          cases hv : cnS T n (tE T n q.2) with
          | error er =>
            rw [hv] at h7
            rw [if_pos h7.1]
            exact ev_some ⟨rfl, frLM_A f6 h7.2.1, h7.2.2.1, h7.2.2.2⟩
          | ok q2 =>
            rw [hv] at h7
            obtain ⟨b1, b2, b3, b4⟩ := cn_sz (c := q2.1) (p' := q2.2) hE2 hv
            obtain ⟨h71, h72, h73, h74⟩ := h7
            have hl7 : (os ++ expL q.1 ++ expL q2.1).length = os.length + (expL q.1).length + (expL q2.1).length := by rw [List.length_append, hl4]
            have hxq2 : xl q2.1 = (expL q2.1).length := rfl
            rw [h71, if_neg (show ¬ (0 : Int32) = -1 by decide)]
            have tr7 : ∀ k, k ∈ [67, 68, 69, 70] → ν7 k = ν5 k := fun k hk => by
              rw [h72.1 k (by simp only [List.mem_cons, List.not_mem_nil, or_false] at hk ⊢; omega), g6.1.1 k (by simp only [List.mem_cons, List.not_mem_nil, or_false] at hk ⊢; omega)]
            refine endl q2.1 q2.2 ν7 (frLM_A f6 h72) h73 (by omega) (by omega) h74 (by rw [tr7 67 (by decide)]; exact r67) (by rw [tr7 68 (by decide)]; exact r68) (by rw [tr7 69 (by decide)]; exact r69) ?_
            refine mcI_move (fun r j hr _ => by rw [tr7 r hr]) (fun r i hr hi => ?_) (Nat.le_refl _) rL
            have x1 := c5.2.2.2.2.2 i (by omega)
            have x2 := h73.2.2.2.2.2 i (by omega)
            rw [getD_fr (by omega)] at x2
            have hr2 : r = 71 ∨ r = 72 := by
              simp only [List.mem_cons, List.not_mem_nil, or_false] at hr; exact hr
            rcases hr2 with rfl | rfl
            · exact x2.1.trans x1.1.symm
            · exact x2.2.trans x1.2.symm
        · rw [if_neg c4, if_pos rfl, if_neg c4]
          refine endl [] q.2 ν5 f5 ?_ (Nat.le_refl _) ?_ r24 r67 r68 r69 rL
          · show CoM T n q.2 (os ++ expL q.1 ++ []) ν5
            rw [List.append_nil]; exact c5
          · show (os ++ expL q.1 ++ []).length ≤ q.2
            rw [List.append_nil]; omega
    · rw [if_neg c3, if_pos rfl, gF_eq, ht.1]
      by_cases c0 : tK T n p = 0
      · rw [if_pos (show nI (tkM (tk T n p).1) = 0 by rw [show (tk T n p).1 = 0 from c0]; rfl), if_pos c0]
        refine ev_some ⟨?_, hF, ?_, os.length, hol, hC.2.2.2.1, ?_⟩
        · rw [List.append_nil]
        · rw [List.append_nil]; exact hk16
        · rw [List.append_nil]; exact hL
      · rw [if_neg (fun z : nI (tkM (tk T n p).1) = 0 => c0 (tkM_0.mp ((nI_eq (b := 0) (by show tkM (tK T n p) < _; omega) (by omega)).mp z))), if_neg c0, if_neg (by omega)]
        exact ev_cl (ev_mono (gm_errs g0 1 rfl) (fun r ν1 h1 => ev_some ⟨h1.1, frLM_Q hF h1.2.1, h1.2.2.1, h1.2.2.2⟩))
