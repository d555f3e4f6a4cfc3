/-! L3: WHAT THE LAW TELLS OF A PERSON -/
def d0L : Nat × List (Nat × Nat) × List (Nat × Nat) := (0, [], [])
def LwOk (L : List (Nat × List (Nat × Nat) × List (Nat × Nat))) : Prop := L.length ≤ 16 ∧ ∀ l, l < L.length → (L.getD l d0L).1 ≤ 2 ∧ runT (L.getD l d0L).2.1 [] = some [false] ∧ ((L.getD l d0L).2.2 = [] ∨ runT (L.getD l d0L).2.2 [] = some [true])
def LawC (a : Nat) (μ : Mu) (L : List (Nat × List (Nat × Nat) × List (Nat × Nat))) : Prop := ∃ (f : Nat → Nat) (size : Nat), size ≤ 400 ∧ μ a 0 = nI L.length ∧ μ a 1 = nI size ∧ ∀ l, l < L.length → μ (a + 1) l = nI ((L.getD l d0L).1 + 1) ∧ μ (a + 2) l = nI (f l) ∧ μ (a + 3) l = nI (f l + (L.getD l d0L).2.1.length) ∧ μ (a + 4) l = nI (f l + (L.getD l d0L).2.1.length + (L.getD l d0L).2.2.length) ∧ f l + (L.getD l d0L).2.1.length + (L.getD l d0L).2.2.length ≤ size ∧ (∀ i, i < (L.getD l d0L).2.1.length → μ (a + 5) (f l + i) = encC ((L.getD l d0L).2.1.getD i (0, 0))) ∧ ∀ i, i < (L.getD l d0L).2.2.length → μ (a + 5) (f l + (L.getD l d0L).2.1.length + i) = encC ((L.getD l d0L).2.2.getD i (0, 0))
def LawM (μ : Mu) (L : List (Nat × List (Nat × Nat) × List (Nat × Nat))) : Prop := ∃ f : Nat → Nat, μ 66 0 = nI L.length ∧ ∀ l, l < L.length → μ 67 l = nI (L.getD l d0L).1 ∧ μ 68 l = nI (f l) ∧ μ 69 l = nI (f l + (expL (L.getD l d0L).2.1).length) ∧ μ 70 l = nI (f l + (expL (L.getD l d0L).2.1).length + (expL (L.getD l d0L).2.2).length) ∧ f l + (expL (L.getD l d0L).2.1).length + (expL (L.getD l d0L).2.2).length ≤ 400 ∧ (∀ i, i < (expL (L.getD l d0L).2.1).length → μ 71 (f l + i) = nI ((expL (L.getD l d0L).2.1).getD i (0, 0)).1 ∧ μ 72 (f l + i) = nI ((expL (L.getD l d0L).2.1).getD i (0, 0)).2) ∧ ∀ i, i < (expL (L.getD l d0L).2.2).length → μ 71 (f l + (expL (L.getD l d0L).2.1).length + i) = nI ((expL (L.getD l d0L).2.2).getD i (0, 0)).1 ∧ μ 72 (f l + (expL (L.getD l d0L).2.1).length + i) = nI ((expL (L.getD l d0L).2.2).getD i (0, 0)).2
def lineS (w : Nat → Int32) (word : Nat) : List (Nat × List (Nat × Nat) × List (Nat × Nat)) → Option Int32
  | [] => none
  | x :: r => if x.1 = word ∧ (x.2.2 = [] ∨ (runS w x.2.2 []).headD 0 ≠ 0) then some ((runS w x.2.1 []).headD 0) else lineS w word r
def heldS (v most : Int32) : Int32 := if 0 ≤ v then (if v ≤ most then v else most) else 0
def usualS (w : Nat → Int32) (word : Nat) : Int32 := if word = 0 then 500 else if word = 1 then 10 * w 0 else w 6 * (w 1 / 100)
def mostS (w : Nat → Int32) (word : Nat) : Int32 := if word = 0 then 1000 else if word = 1 then 999 else w 1
def asksV (L : List (Nat × List (Nat × Nat) × List (Nat × Nat))) (w : Nat → Int32) (word : Nat) : Int32 := heldS ((lineS w word L).getD (usualS w word)) (mostS w word)
theorem drop_at {α : Type} {l : List α} {k : Nat} (d : α) (h : k < l.length) : l.drop k = l.getD k d :: l.drop (k + 1) := by
  rw [List.drop_eq_getElem_cons h, List.getD_eq_getElem?_getD, List.getElem?_eq_getElem h]; rfl
theorem heldS_eq {v most : Int32} (h : 0 ≤ most) : jmax 0 (jmin most v) = heldS v most := by
  unfold jmax jmin heldS
  by_cases c : 0 ≤ v
  · rw [if_pos c]
    by_cases d : v ≤ most
    · rw [if_pos d]
      by_cases e : v < most
      · rw [if_pos e]
        by_cases g : (0 : Int32) < v
        · rw [if_pos g]
        · rw [if_neg g]
          rcases fa_three 0 v with q | q | q
          · exact absurd q g
          · exact q
          · exact absurd c (fa_of_lt q).2.1
      · have : v = most := by
          rcases fa_three v most with q | q | q
          · exact absurd q e
          · exact q
          · exact absurd d (fa_of_lt q).2.1
        rw [if_neg e, ← this]
        by_cases g : (0 : Int32) < v
        · rw [if_pos g]
        · rw [if_neg g]
          rcases fa_three 0 v with q | q | q
          · exact absurd q g
          · exact q
          · exact absurd c (fa_of_lt q).2.1
    · rw [if_neg d, if_neg (fun z => d (fa_of_lt z).1)]
      by_cases g : (0 : Int32) < most
      · rw [if_pos g]
      · rw [if_neg g]
        rcases fa_three 0 most with q | q | q
        · exact absurd q g
        · exact q
        · exact absurd h (fa_of_lt q).2.1
  · rw [if_neg c]
    have c' := fa_of_nle c
    have e : v < most := fa_trans c' h
    rw [if_pos e, if_neg (fun z => c (fa_of_lt z).1)]
/-- what a law's line asks after in the class; 13 is the stack, 40 the words -/
theorem dy_asks_25 {μ0 : Mu} {L : List (Nat × List (Nat × Nat) × List (Nat × Nat))} {w : Nat → Int32} {word : Nat} {c : Nat} {us : Int32} (hL : LawC 7 μ0 L) (hok : LwOk L) (hwd : word ≤ 2) (hw : ∀ k, k < 10 → μ0 40 k = w k) (h1 : word = 2 → 0 ≤ w 1) (hus : us = usualS w word) : Ev (Dy_asks_25 39 1 c (nI (word + 1)) us FU 0 μ0) (fun r μ' => r = asksV L w word ∧ Off [13] μ0 μ') := by
  obtain ⟨f, size, hsz, g0, g1, hl⟩ := hL
  have hmost : ∀ (μ : Mu) (v : Int32), Off [13] μ0 μ → Dy_asks_127 39 1 c (nI (word + 1)) v μ = some (heldS v (mostS w word), μ) := by
    intro μ v hO
    unfold Dy_asks_127 Dy_asks_155 mostS
    rcases (show word = 0 ∨ word = 1 ∨ word = 2 by omega) with rfl | rfl | rfl
    · rw [if_pos (by decide), if_pos rfl, heldS_eq (by decide)]
    · rw [if_neg (by decide), if_pos (by decide), if_neg (by omega), if_pos rfl, heldS_eq (by decide)]
    · rw [if_neg (by decide), if_neg (by decide), ldA_li (by omega) (by omega), if_neg (by omega), if_neg (by omega), hO 40 (by decide), hw 1 (by omega), heldS_eq (h1 rfl)]
  have hL1 := hok.1
  suffices H : ∀ μ, Off [13] μ0 μ → lineS w word L = lineS w word (L.drop 0) → Ev (Dy_asks_25 39 1 c (nI (word + 1)) us FU (nI 0) μ) (fun r μ' => r = asksV L w word ∧ Off [13] μ0 μ') from H μ0 (off_refl _ _) rfl
  unfold Dy_asks_25
  refine lp_fu (F := fun kb => Dy_asks_25b 39 1 c kb (nI (word + 1)) us) (z := fun _ _ => none) L.length (fun k A => ∀ μ, Off [13] μ0 μ → lineS w word L = lineS w word (L.drop k) → Ev (A (nI k) μ) (fun r μ' => r = asksV L w word ∧ Off [13] μ0 μ')) (by omega) ?_ ?_ 0 (by omega)
  · intro A μ hO he
    show Ev (Dy_asks_25b 39 1 c A (nI (word + 1)) us (nI L.length) μ) _
    unfold Dy_asks_25b
    simp only [Nat.reduceAdd]
    rw [gF_eq, hO 7 (by decide), g0, if_pos (nI_le (Nat.le_refl _) (by omega)), hmost μ us hO]
    rw [List.drop_length] at he
    refine ev_some ⟨?_, hO⟩
    unfold asksV; rw [he, hus]; rfl
  · intro k A hk ih μ hO he
    rw [drop_at d0L hk] at he
    obtain ⟨m1, m2, m3, m4, m5, m6, m7⟩ := hl k hk
    obtain ⟨o1, o2, o3⟩ := hok.2 k hk
    generalize L.getD k d0L = x at he m1 m2 m3 m4 m5 m6 m7 o1 o2 o3
    show Ev (Dy_asks_25b 39 1 c A (nI (word + 1)) us (nI k) μ) _
    unfold Dy_asks_25b
    simp only [Nat.reduceAdd]
    have hm : ∀ j, j ≠ 13 → μ j = μ0 j := fun j hj => hO j (by simpa using hj)
    rw [gF_eq, hm 7 (by omega), g0, if_neg (nI_ge hk (by omega)), if_neg (by rw [show (16 : Int32) = nI 16 from rfl]; exact nI_ge (by omega) (by omega)), ldA_nI (by omega) (by omega), ldA_nI (by omega) (by omega), ldA_nI (by omega) (by omega), hm 10 (by omega), hm 11 (by omega), hm 8 (by omega)]
    simp only [Nat.reduceAdd] at m1 m2 m3 m4 m6 m7
    rw [m1, m3, m4]
    have next : ∀ μ1, Off [13] μ0 μ1 → lineS w word L = lineS w word (L.drop (k + 1)) → Ev (Dy_asks_121 39 1 c A (nI (word + 1)) us (nI k) μ1) (fun r μ' => r = asksV L w word ∧ Off [13] μ0 μ') := by
      intro μ1 h1 h2
      unfold Dy_asks_121
      rw [nI_1]
      exact ih μ1 h1 h2
    have told : ∀ μ1, Off [13] μ0 μ1 → lineS w word L = some ((runS w x.2.1 []).headD 0) → Ev (Dy_asks_97 39 1 c (nI (word + 1)) (nI k) (nI (f k + x.2.1.length)) μ1) (fun r μ' => r = asksV L w word ∧ Off [13] μ0 μ') := by
      intro μ1 h1 h2
      have hm1 : ∀ j, j ≠ 13 → μ1 j = μ0 j := fun j hj => h1 j (by simpa using hj)
      unfold Dy_asks_97
      simp only [Nat.reduceAdd]
      rw [ldA_nI (by omega) (by omega), hm1 9 (by omega), m2]
      refine ev_cl ?_
      unfold Lw_value
      rw [show jmax (nI (f k)) 0 = nI (f k) from by unfold jmax; rw [if_neg (nI_pos (by omega))]]
      refine ev_mono (lw_loop (a := 7) (r3 := 40) (w := w) (size := size) (by omega) hsz x.2.1 (f k) [] [] [false] FU μ1 (fun i hi => by rw [hm1 12 (by omega)]; exact m6 i hi) o2 trivial (by simp) trivial (by have := FU_big; omega) (by omega) (by rw [hm1 7 (by omega)]; exact g1) (fun j hj => by rw [hm1 40 (by omega)]; exact hw j hj)) ?_
      rintro r μ2 ⟨rfl, h3⟩
      rw [hmost μ2 _ (off_trans h1 h3)]
      refine ev_some ⟨?_, off_trans h1 h3⟩
      unfold asksV; rw [h2]; rfl
    by_cases c1 : x.1 = word
    · rw [if_pos (by rw [c1])]
      by_cases c2 : x.2.2 = []
      · rw [c2, List.length_nil, Nat.add_zero, if_pos rfl]
        refine told μ hO ?_
        rw [he]; show (if _ then _ else _) = _
        rw [if_pos ⟨c1, Or.inl c2⟩]
      · have hpos : 0 < x.2.2.length := List.length_pos_iff.mpr c2
        rw [if_neg (fun z => by have := (nI_eq (by omega) (by omega)).mp z; omega)]
        refine ev_cl ?_
        unfold Lw_value
        rw [show jmax (nI (f k + x.2.1.length)) 0 = nI (f k + x.2.1.length) from by unfold jmax; rw [if_neg (nI_pos (by omega))]]
        have ob : runT x.2.2 [] = some [true] := o3.resolve_left c2
        refine ev_mono (lw_loop (a := 7) (r3 := 40) (w := w) (size := size) (by omega) hsz x.2.2 (f k + x.2.1.length) [] [] [true] FU μ (fun i hi => by rw [hm 12 (by omega)]; exact m7 i hi) ob trivial (by simp) trivial (by have := FU_big; omega) (by omega) (by rw [hm 7 (by omega)]; exact g1) (fun j hj => by rw [hm 40 (by omega)]; exact hw j hj)) ?_
        rintro r μ2 ⟨rfl, h3⟩
        by_cases c3 : (runS w x.2.2 []).headD 0 = 0
        · rw [if_pos c3]
          refine next μ2 (off_trans hO h3) ?_
          rw [he]; show (if _ then _ else _) = _
          rw [if_neg (by rintro ⟨_, z | z⟩; exact c2 z; exact z c3)]
        · rw [if_neg c3]
          refine told μ2 (off_trans hO h3) ?_
          rw [he]; show (if _ then _ else _) = _
          rw [if_pos ⟨c1, Or.inr c3⟩]
    · rw [if_neg (fun z => c1 (by have := (nI_eq (by omega) (by omega)).mp z; omega))]
      refine next μ hO ?_
      rw [he]; show (if _ then _ else _) = _
      rw [if_neg (fun z => c1 z.1)]
/-- the reference's lines: 78 what is asked, 79 the stack -/
theorem mo_lawTells {μ0 : Mu} {L : List (Nat × List (Nat × Nat) × List (Nat × Nat))} {w : Nat → Int32} {word : Nat} {us most : Int32} (hL : LawM μ0 L) (hok : LwOk L) (hwd : word ≤ 2) (hw : ∀ k, k < 10 → μ0 78 (permW k) = w k) (hus : us = usualS w word) (hmo : most = mostS w word) : Ev (Mo_lawTells 59 (nI word) us most μ0) (fun r μ' => r = asksV L w word ∧ Off [79] μ0 μ') := by
  obtain ⟨f, g0, hl⟩ := hL
  have hL1 := hok.1
  have hheld : ∀ (v : Int32) (μ : Mu), Off [79] μ0 μ → heldS v most = asksV L w word → Ev (Mo_lawTells_37 59 most v μ) (fun r μ' => r = asksV L w word ∧ Off [79] μ0 μ') := by
    intro v μ h1 h2
    unfold Mo_lawTells_37 Mo_held
    rw [← h2]
    unfold heldS
    by_cases c : (0 : Int32) ≤ v
    · rw [if_pos c, if_pos c]
      by_cases d : v ≤ most
      · rw [if_pos d, if_pos d]; exact ev_some ⟨rfl, h1⟩
      · rw [if_neg d, if_neg d]; exact ev_some ⟨rfl, h1⟩
    · rw [if_neg c, if_neg c]; exact ev_some ⟨rfl, h1⟩
  have hline : Ev (Mo_lineOf 59 (nI word) μ0) (fun r μ' => Off [79] μ0 μ' ∧ ((r = -1 ∧ lineS w word L = none) ∨ ∃ k, k < L.length ∧ r = nI k ∧ lineS w word L = some ((runS w (L.getD k d0L).2.1 []).headD 0))) := by
    suffices H : ∀ μ, Off [79] μ0 μ → lineS w word L = lineS w word (L.drop 0) → Ev (Mo_lineOf_2 59 (nI word) FU (nI 0) μ) (fun r μ' => Off [79] μ0 μ' ∧ ((r = -1 ∧ lineS w word L = none) ∨ ∃ k, k < L.length ∧ r = nI k ∧ lineS w word L = some ((runS w (L.getD k d0L).2.1 []).headD 0))) from H μ0 (off_refl _ _) rfl
    unfold Mo_lineOf_2
    refine lp_fu (F := fun kb => Mo_lineOf_2b 59 kb (nI word)) (z := fun _ _ => none) L.length (fun k A => ∀ μ, Off [79] μ0 μ → lineS w word L = lineS w word (L.drop k) → Ev (A (nI k) μ) (fun r μ' => Off [79] μ0 μ' ∧ ((r = -1 ∧ lineS w word L = none) ∨ ∃ k, k < L.length ∧ r = nI k ∧ lineS w word L = some ((runS w (L.getD k d0L).2.1 []).headD 0)))) (by omega) ?_ ?_ 0 (by omega)
    · intro A μ hO he
      show Ev (Mo_lineOf_2b 59 A (nI word) (nI L.length) μ) _
      unfold Mo_lineOf_2b
      simp only [Nat.reduceAdd]
      rw [ldA_at 0 nI_0.symm (by omega) (by omega), hO 66 (by decide), g0, if_pos (nI_le (Nat.le_refl _) (by omega))]
      rw [List.drop_length] at he
      exact ev_some ⟨hO, Or.inl ⟨rfl, he⟩⟩
    · intro k A hk ih μ hO he
      have hk0 := hk
      rw [drop_at d0L hk] at he
      obtain ⟨m1, m2, m3, m4, m5, m6, m7⟩ := hl k hk
      obtain ⟨o1, o2, o3⟩ := hok.2 k hk
      have told : ∀ μ1, Off [79] μ0 μ1 → lineS w word L = some ((runS w (L.getD k d0L).2.1 []).headD 0) → Ev (some (nI k, μ1)) (fun r μ' => Off [79] μ0 μ' ∧ ((r = -1 ∧ lineS w word L = none) ∨ ∃ k, k < L.length ∧ r = nI k ∧ lineS w word L = some ((runS w (L.getD k d0L).2.1 []).headD 0))) := fun μ1 h1 h2 => ev_some ⟨h1, Or.inr ⟨k, hk0, rfl, h2⟩⟩
      generalize L.getD k d0L = x at he m1 m2 m3 m4 m5 m6 m7 o1 o2 o3 told
      show Ev (Mo_lineOf_2b 59 A (nI word) (nI k) μ) _
      unfold Mo_lineOf_2b
      simp only [Nat.reduceAdd]
      have hm : ∀ j, j ≠ 79 → μ j = μ0 j := fun j hj => hO j (by simpa using hj)
      rw [ldA_at 0 nI_0.symm (by omega) (by omega), hm 66 (by omega), g0, if_neg (nI_ge hk (by omega)), ldA_nI (by omega) (by omega), hm 67 (by omega), m1]
      have next : ∀ μ1, Off [79] μ0 μ1 → lineS w word L = lineS w word (L.drop (k + 1)) → Ev (Mo_lineOf_59 59 A (nI word) (nI k) μ1) (fun r μ' => Off [79] μ0 μ' ∧ ((r = -1 ∧ lineS w word L = none) ∨ ∃ k, k < L.length ∧ r = nI k ∧ lineS w word L = some ((runS w (L.getD k d0L).2.1 []).headD 0))) := by
        intro μ1 h1 h2
        unfold Mo_lineOf_59
        rw [nI_1]
        exact ih μ1 h1 h2
      by_cases c1 : x.1 = word
      · rw [if_pos (by rw [c1]), ldA_nI (by omega) (by omega), ldA_nI (by omega) (by omega), hm 69 (by omega), hm 70 (by omega), m3, m4]
        by_cases c2 : x.2.2 = []
        · rw [c2]
          simp only [expL, List.length_nil, Nat.add_zero]
          rw [if_pos trivial]
          refine told μ hO ?_
          rw [he]; show (if _ then _ else _) = _
          rw [if_pos ⟨c1, Or.inl c2⟩]
        · have ob : runT x.2.2 [] = some [true] := o3.resolve_left c2
          have hpos : 0 < (expL x.2.2).length := by
            match hx : x.2.2, c2 with
            | c :: cs, _ =>
              show 0 < (exp1 c ++ expL cs).length
              rw [List.length_append]
              have : 0 < (exp1 c).length := by unfold exp1; split <;> (try split) <;> (try split) <;> (try split) <;> simp
              omega
          rw [if_neg (fun z => by have := (nI_eq (by omega) (by omega)).mp z; omega), ldA_nI (by omega) (by omega), ldA_nI (by omega) (by omega), hm 69 (by omega), hm 70 (by omega), m3, m4]
          refine ev_cl ?_
          unfold Mo_runs
          rw [m400]
          refine ev_mono (mo_loop (w := w) (e := f k + (expL x.2.1).length + (expL x.2.2).length) rfl (by omega) x.2.2 (f k + (expL x.2.1).length) [] [] true FU μ (fun i hi => by rw [hm 71 (by omega), hm 72 (by omega)]; exact m7 i hi) ob trivial (by simp) trivial (by have := FU_big; omega) rfl (fun j hj => by rw [hm 78 (by omega)]; exact hw j hj)) ?_
          rintro r μ2 ⟨rfl, h3⟩
          by_cases c3 : (runS w x.2.2 []).headD 0 = 0
          · rw [if_pos c3]
            refine next μ2 (off_trans hO h3) ?_
            rw [he]; show (if _ then _ else _) = _
            rw [if_neg (by rintro ⟨_, z | z⟩; exact c2 z; exact z c3)]
          · rw [if_neg c3]
            refine told μ2 (off_trans hO h3) ?_
            rw [he]; show (if _ then _ else _) = _
            rw [if_pos ⟨c1, Or.inr c3⟩]
      · rw [if_neg (fun z => c1 (by have := (nI_eq (by omega) (by omega)).mp z; omega))]
        refine next μ hO ?_
        rw [he]; show (if _ then _ else _) = _
        rw [if_neg (fun z => c1 z.1)]
  unfold Mo_lawTells
  refine ev_cl (ev_mono hline ?_)
  rintro r μ ⟨hO, ⟨rfl, h1⟩ | ⟨k, hk, rfl, h1⟩⟩
  · rw [if_pos rfl]
    refine hheld us μ hO ?_
    unfold asksV; rw [h1, hmo, hus]; rfl
  · obtain ⟨m1, m2, m3, m4, m5, m6, m7⟩ := hl k hk
    obtain ⟨o1, o2, o3⟩ := hok.2 k hk
    have hm : ∀ j, j ≠ 79 → μ j = μ0 j := fun j hj => hO j (by simpa using hj)
    simp only [Nat.reduceAdd]
    rw [if_neg (by rw [n1_ne (by omega)]; exact id), ldA_nI (by omega) (by omega), ldA_nI (by omega) (by omega), hm 68 (by omega), hm 69 (by omega), m2, m3]
    refine ev_cl ?_
    unfold Mo_runs
    rw [m400]
    refine ev_mono (mo_loop (w := w) (e := f k + (expL (L.getD k d0L).2.1).length) rfl (by omega) (L.getD k d0L).2.1 (f k) [] [] false FU μ (fun i hi => by rw [hm 71 (by omega), hm 72 (by omega)]; exact m6 i hi) o2 trivial (by simp) trivial (by have := FU_big; omega) rfl (fun j hj => by rw [hm 78 (by omega)]; exact hw j hj)) ?_
    rintro r μ2 ⟨rfl, h3⟩
    refine hheld _ μ2 (off_trans hO h3) ?_
    unfold asksV; rw [h1, hmo]; rfl
