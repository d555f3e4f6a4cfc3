/-! L3: HULL, the class's walk -/
theorem to99 {l : List Int32} (h : RwOk (-99) 99 l) {j : Nat} (hj : j < l.length) : -99 ≤ toI l j ∧ toI l j ≤ 99 := by
  have := rwok_int h hj
  rw [show (-99 : Int32).toInt = -99 by decide, show (99 : Int32).toInt = 99 by decide] at this
  exact this
theorem bnd_of {xs ys : List Int32} (ox : RwOk (-99) 99 xs) (oy : RwOk (-99) 99 ys) (hl : ys.length = xs.length) : BndI xs.length (toI xs) (toI ys) := by
  intro a ha
  have h1 := to99 ox ha
  have h2 := to99 oy (j := a) (by omega)
  exact ⟨h1.1, h1.2, h2.1, h2.2⟩
theorem dq_toInt {xs ys : List Int32} (hx : RwOk (-99) 99 xs) (hy : RwOk (-99) 99 ys) (hl : ys.length = xs.length) {a b : Nat} (ha : a < xs.length) (hb : b < xs.length) : ((xs.getD a 0 - xs.getD b 0) * (xs.getD a 0 - xs.getD b 0) + (ys.getD a 0 - ys.getD b 0) * (ys.getD a 0 - ys.getD b 0)).toInt = dqI (toI xs) (toI ys) a b := by
  have xa := to99 hx ha
  have xb := to99 hx hb
  have ya := to99 hy (j := a) (by omega)
  have yb := to99 hy (j := b) (by omega)
  unfold dqI
  unfold toI at *
  generalize xs.getD a 0 = A at *
  generalize xs.getD b 0 = B at *
  generalize ys.getD a 0 = D at *
  generalize ys.getD b 0 = E at *
  have e1 : (A - B).toInt = A.toInt - B.toInt := fb_subI (by omega) (by omega)
  have e2 : (D - E).toInt = D.toInt - E.toInt := fb_subI (by omega) (by omega)
  have m1 := mul_le198 (a := A.toInt - B.toInt) (b := A.toInt - B.toInt) (by omega) (by omega) (by omega) (by omega)
  have m2 := mul_le198 (a := D.toInt - E.toInt) (b := D.toInt - E.toInt) (by omega) (by omega) (by omega) (by omega)
  have f1 : ((A - B) * (A - B)).toInt = (A.toInt - B.toInt) * (A.toInt - B.toInt) := by rw [fb_mulI (by rw [e1]; omega) (by rw [e1]; omega), e1]
  have f2 : ((D - E) * (D - E)).toInt = (D.toInt - E.toInt) * (D.toInt - E.toInt) := by rw [fb_mulI (by rw [e2]; omega) (by rw [e2]; omega), e2]
  rw [fb_addI (by rw [f1, f2]; omega) (by rw [f1, f2]; omega), f1, f2]
theorem apart_c {μ : Mu} {xs ys : List Int32} (hx : RwC μ 19 8 (-99) 99 xs) (hy : RwC μ 21 8 (-99) 99 ys) (ox : RwOk (-99) 99 xs) (oy : RwOk (-99) 99 ys) (hl : ys.length = xs.length) {a b : Nat} (ha : a < xs.length) (hb : b < xs.length) : ∃ v : Int32, Th_apart 45 18 (nI a) (nI b) μ = some (v, μ) ∧ v.toInt = dqI (toI xs) (toI ys) a b := by
  refine ⟨_, ?_, dq_toInt ox oy hl ha hb⟩
  unfold Th_apart
  simp only [Nat.reduceAdd]
  rw [rw_at hx a ha, cl_eq, rw_at hx b hb, cl_eq, rw_at hy a (by omega), cl_eq, rw_at hy b (by omega), cl_eq]
theorem turn_v {μ : Mu} {xs ys : List Int32} (hx : RwC μ 19 8 (-99) 99 xs) (hy : RwC μ 21 8 (-99) 99 ys) (ox : RwOk (-99) 99 xs) (oy : RwOk (-99) 99 ys) (hl : ys.length = xs.length) {a b p : Nat} (ha : a < xs.length) (hb : b < xs.length) (hp : p < xs.length) : ∃ v : Int32, Th_turn 45 18 (nI a) (nI b) (nI p) μ = some (v, μ) ∧ v.toInt = crI (toI xs) (toI ys) a b p :=
  ⟨_, turn_c hx hy hl ha hb hp, (cr_toInt ox oy hl ha hb hp).1⟩
theorem dq_sym (X Y : Nat → Int) (a b : Nat) : dqI X Y b a = dqI X Y a b := by unfold dqI; grind
theorem next_c {μ : Mu} {xs ys : List Int32} (hx : RwC μ 19 8 (-99) 99 xs) (hy : RwC μ 21 8 (-99) 99 ys) (ox : RwOk (-99) 99 xs) (oy : RwOk (-99) 99 ys) (hl : ys.length = xs.length) (h2 : 2 ≤ xs.length) {c : Nat} (hc : c < xs.length) : Th_nextCorner 45 18 (nI c) μ = some (nI (bstI (toI xs) (toI ys) c xs.length), μ) := by
  have l8 : xs.length ≤ 8 := hx.2.2.2.1
  have z0 : (0 : Int32).toInt = 0 := by decide
  suffices K : Th_nextCorner_12 45 18 (nI c) FU (nI (bstI (toI xs) (toI ys) c 0)) (nI 0) μ = some (nI (bstI (toI xs) (toI ys) c xs.length), μ) by
    unfold Th_nextCorner Th_nextCorner_9
    have e : bstI (toI xs) (toI ys) c 0 = if c = 0 then 1 else 0 := rfl
    rw [e] at K
    by_cases y : c = 0
    · rw [if_pos y] at K
      rw [if_pos (by rw [y]; decide)]; exact K
    · rw [if_neg y] at K
      rw [if_neg (fun q : nI c = 0 => y (by have := (nI_eq (b := 0) (by omega) (by omega)).mp (q.trans (nI_0.symm)); omega))]; exact K
  unfold Th_nextCorner_12
  refine lp_fu (F := fun kb => Th_nextCorner_12b 45 18 kb (nI c)) (z := fun _ _ _ => none) xs.length (fun k A => A (nI (bstI (toI xs) (toI ys) c k)) (nI k) μ = some (nI (bstI (toI xs) (toI ys) c xs.length), μ)) (by omega) ?_ ?_ 0 (by omega)
  · intro A
    show Th_nextCorner_12b 45 18 A (nI c) (nI _) (nI xs.length) μ = _
    unfold Th_nextCorner_12b
    simp only [Nat.reduceAdd]
    rw [gF_eq, hx.2.2.1, if_pos (nI_le (Nat.le_refl _) (by omega))]
  · intro k A hk ih
    show Th_nextCorner_12b 45 18 A (nI c) (nI (bstI (toI xs) (toI ys) c k)) (nI k) μ = _
    have e : bstI (toI xs) (toI ys) c (k + 1) = if crI (toI xs) (toI ys) c (bstI (toI xs) (toI ys) c k) k < 0 ∨ (crI (toI xs) (toI ys) c (bstI (toI xs) (toI ys) c k) k = 0 ∧ dqI (toI xs) (toI ys) c (bstI (toI xs) (toI ys) c k) < dqI (toI xs) (toI ys) c k) then k else bstI (toI xs) (toI ys) c k := rfl
    obtain ⟨q1, q2⟩ := bst_ne (X := toI xs) (Y := toI ys) (c := c) h2 k (by omega)
    rw [e] at ih
    generalize bstI (toI xs) (toI ys) c k = q at *
    generalize bstI (toI xs) (toI ys) c xs.length = fin at *
    unfold Th_nextCorner_12b Th_nextCorner_60 Th_nextCorner_62
    simp only [Nat.reduceAdd]
    obtain ⟨v, t1, t2⟩ := turn_v hx hy ox oy hl hc q2 hk
    obtain ⟨v1, a1, a2⟩ := apart_c hx hy ox oy hl hc hk
    obtain ⟨v2, b1, b2⟩ := apart_c hx hy ox oy hl hc q2
    rw [gF_eq, hx.2.2.1, if_neg (nI_ge hk (by omega)), t1, cl_eq, a1, cl_eq, b1, cl_eq, show nI k + 1 = nI (k + 1) from nI_add k 1]
    by_cases w1 : crI (toI xs) (toI ys) c q k < 0
    · rw [if_pos (by rw [fa_lt, t2, z0]; exact w1)]
      rw [if_pos (Or.inl w1)] at ih; exact ih
    · rw [if_neg (by rw [fa_lt, t2, z0]; exact w1)]
      by_cases w2 : crI (toI xs) (toI ys) c q k = 0
      · rw [if_pos (by rw [fa_eq, t2, z0]; exact w2)]
        by_cases w3 : dqI (toI xs) (toI ys) c k ≤ dqI (toI xs) (toI ys) c q
        · rw [if_pos (by rw [fa_le, a2, b2]; exact w3)]
          rw [if_neg (by omega)] at ih; exact ih
        · rw [if_neg (by rw [fa_le, a2, b2]; exact w3)]
          rw [if_pos (by omega)] at ih; exact ih
      · rw [if_neg (by rw [fa_eq, t2, z0]; exact w2)]
        rw [if_neg (by omega)] at ih; exact ih
theorem lowest_c {μ : Mu} {xs ys : List Int32} (hx : RwC μ 19 8 (-99) 99 xs) (hy : RwC μ 21 8 (-99) 99 ys) (ox : RwOk (-99) 99 xs) (oy : RwOk (-99) 99 ys) (hl : ys.length = xs.length) (h2 : 2 ≤ xs.length) : ∃ s, s < xs.length ∧ Th_lowest 45 18 μ = some (nI s, μ) ∧ ∀ p, p < xs.length → toI ys s < toI ys p ∨ (toI ys s = toI ys p ∧ toI xs s ≤ toI xs p) := by
  have l8 : xs.length ≤ 8 := hx.2.2.2.1
  have z0 : (0 : Int32).toInt = 0 := by decide
  suffices K : ∃ s, s < xs.length ∧ Th_lowest_4 45 18 FU (nI 0) (nI 1) μ = some (nI s, μ) ∧ ∀ p, p < xs.length → toI ys s < toI ys p ∨ (toI ys s = toI ys p ∧ toI xs s ≤ toI xs p) from K
  unfold Th_lowest_4
  refine lp_fu (F := fun kb => Th_lowest_4b 45 18 kb) (z := fun _ _ _ => none) xs.length (fun k A => ∀ q, q < xs.length → (∀ p, p < k → toI ys q < toI ys p ∨ (toI ys q = toI ys p ∧ toI xs q ≤ toI xs p)) → ∃ s, s < xs.length ∧ A (nI q) (nI k) μ = some (nI s, μ) ∧ ∀ p, p < xs.length → toI ys s < toI ys p ∨ (toI ys s = toI ys p ∧ toI xs s ≤ toI xs p)) (by omega) ?_ ?_ 1 (by omega) 0 (by omega) (fun p hp => by
    rw [show p = 0 by omega]; exact Or.inr ⟨rfl, Int.le_refl _⟩)
  · intro A q hq hmin
    refine ⟨q, hq, ?_, hmin⟩
    show Th_lowest_4b 45 18 A (nI q) (nI xs.length) μ = _
    unfold Th_lowest_4b
    simp only [Nat.reduceAdd]
    rw [gF_eq, hx.2.2.1, if_pos (nI_le (Nat.le_refl _) (by omega))]
  · intro k A hk ih q hq hmin
    show ∃ s, s < xs.length ∧ Th_lowest_4b 45 18 A (nI q) (nI k) μ = some (nI s, μ) ∧ _
    unfold Th_lowest_4b Th_lowest_75 Th_lowest_77
    simp only [Nat.reduceAdd]
    have yk := to99 oy (j := k) (by omega)
    have yq := to99 oy (j := q) (by omega)
    have es : (ys.getD k 0 - ys.getD q 0).toInt = toI ys k - toI ys q := by
      unfold toI at yk yq ⊢
      exact fb_subI (by omega) (by omega)
    rw [gF_eq, hx.2.2.1, if_neg (nI_ge hk (by omega)), rw_at hy k (by omega), cl_eq, rw_at hy q (by omega), cl_eq, rw_at hx k hk, cl_eq, rw_at hx q hq, cl_eq, show nI k + 1 = nI (k + 1) from nI_add k 1]
    have keep : (toI ys q < toI ys k ∨ (toI ys q = toI ys k ∧ toI xs q ≤ toI xs k)) → ∃ s, s < xs.length ∧ A (nI q) (nI (k + 1)) μ = some (nI s, μ) ∧ ∀ p, p < xs.length → toI ys s < toI ys p ∨ (toI ys s = toI ys p ∧ toI xs s ≤ toI xs p) := fun h => ih q hq (fun p hp => by
      by_cases y : p = k
      · subst y; exact h
      · exact hmin p (by omega))
    have take : (toI ys k < toI ys q ∨ (toI ys k = toI ys q ∧ toI xs k ≤ toI xs q)) → ∃ s, s < xs.length ∧ A (nI k) (nI (k + 1)) μ = some (nI s, μ) ∧ ∀ p, p < xs.length → toI ys s < toI ys p ∨ (toI ys s = toI ys p ∧ toI xs s ≤ toI xs p) := fun h => ih k hk (fun p hp => by
      by_cases y : p = k
      · subst y; exact Or.inr ⟨rfl, Int.le_refl _⟩
      · have := hmin p (by omega); omega)
    by_cases w1 : toI ys k - toI ys q < 0
    · rw [if_pos (by rw [fa_lt, es, z0]; exact w1)]
      exact take (by omega)
    · rw [if_neg (by rw [fa_lt, es, z0]; exact w1)]
      by_cases w2 : toI ys k - toI ys q = 0
      · rw [if_pos (by rw [fa_eq, es, z0]; exact w2)]
        by_cases w3 : xs.getD q 0 ≤ xs.getD k 0
        · rw [if_pos w3]
          rw [fa_le] at w3
          exact keep (Or.inr ⟨by omega, w3⟩)
        · rw [if_neg w3]
          rw [fa_le] at w3
          exact take (Or.inr ⟨by omega, by unfold toI; omega⟩)
      · rw [if_neg (by rw [fa_eq, es, z0]; exact w2)]
        exact keep (by omega)
theorem exp_low {n : Nat} {X Y : Nat → Int} {s : Nat} (hs : s < n) (hd : DisI n X Y) (hB : BndI n X Y) (h : ∀ p, p < n → Y s < Y p ∨ (Y s = Y p ∧ X s ≤ X p)) : ExpI n X Y s := by
  refine ⟨1, 200, fun p hp hps => ?_⟩
  unfold LI
  have h1 := hB p hp
  have h2 := hB s hs
  have h3 := hd p s hp hs hps
  have h4 := h p hp
  omega
/-- what an edge gives to the twice told area -/
def gH (xs ys : List Int32) (b a : Nat) : Int32 := xs.getD a 0 * ys.getD b 0 - xs.getD b 0 * ys.getD a 0
theorem outline_c {μ : Mu} {xs ys : List Int32} (hx : RwC μ 19 8 (-99) 99 xs) (hy : RwC μ 21 8 (-99) 99 ys) (ox : RwOk (-99) 99 xs) (oy : RwOk (-99) 99 ys) (hl : ys.length = xs.length) (hd : DisI xs.length (toI xs) (toI ys)) (h2 : 2 ≤ xs.length) (w : Int32) : Th_outline 45 18 w μ = some (if w = 0 then smG (fun a => if edB xs.length (toI xs) (toI ys) a (bstI (toI xs) (toI ys) a xs.length) = true then 1 else 0) xs.length else smG (fun a => if edB xs.length (toI xs) (toI ys) a (bstI (toI xs) (toI ys) a xs.length) = true then gH xs ys (bstI (toI xs) (toI ys) a xs.length) a else 0) xs.length, μ) := by
  have l8 : xs.length ≤ 8 := hx.2.2.2.1
  have hB := bnd_of ox oy hl
  obtain ⟨s, hs, es, hlow⟩ := lowest_c hx hy ox oy hl h2
  have hS := exp_low hs hd hB hlow
  unfold Th_outline
  simp only [Nat.reduceAdd]
  rw [gF_eq, hx.2.2.1, if_pos (show (2 : Int32) ≤ nI xs.length by rw [li_le (by omega) (by omega)]; exact h2), es, cl_eq, ← w_all (s := s) (fun _ => 1), ← w_all (s := s) (fun a => gH xs ys (bstI (toI xs) (toI ys) a xs.length) a)]
  suffices K : Th_outline_43 45 18 w (nI xs.length) (nI s) FU (nI s) 0 0 (nI 0) μ = some (if w = 0 then 0 + wG xs.length (toI xs) (toI ys) s (fun _ => 1) s else 0 + wG xs.length (toI xs) (toI ys) s (fun a => gH xs ys (bstI (toI xs) (toI ys) a xs.length) a) s, μ) by
    rw [Int32.zero_add, Int32.zero_add] at K; exact K
  unfold Th_outline_43
  refine lp_fm (F := fun kb => Th_outline_43b 45 18 kb w (nI xs.length) (nI s)) (z := fun _ _ _ _ _ => none) (fun c : Nat => wN xs.length (toI xs) (toI ys) s c) (fun c A => ∀ (u v : Int32) (i : Nat), c < xs.length → ExpI xs.length (toI xs) (toI ys) c → i + wN xs.length (toI xs) (toI ys) s c ≤ xs.length → A (nI c) u v (nI i) μ = some (if w = 0 then u + wG xs.length (toI xs) (toI ys) s (fun _ => 1) c else v + wG xs.length (toI xs) (toI ys) s (fun a => gH xs ys (bstI (toI xs) (toI ys) a xs.length) a) c, μ)) ?_ s (by have := wN_le (n := xs.length) (X := toI xs) (Y := toI ys) (s := s) (c := s); show wN xs.length (toI xs) (toI ys) s s ≤ 100000; omega) 0 0 0 hs hS (by have := wN_le (n := xs.length) (X := toI xs) (Y := toI ys) (s := s) (c := s); omega)
  intro c A ih u v i hc hC hi
  show Th_outline_43b 45 18 A w (nI xs.length) (nI s) (nI c) u v (nI i) μ = _
  obtain ⟨g1, gn⟩ := w_step h2 hd hB hs hc hS hC (fun _ => 1)
  obtain ⟨g2, -⟩ := w_step h2 hd hB hs hc hS hC (fun a => gH xs ys (bstI (toI xs) (toI ys) a xs.length) a)
  obtain ⟨b1, b2⟩ := bst_ne (X := toI xs) (Y := toI ys) (c := c) h2 xs.length (Nat.le_refl _)
  have hE := next_edge h2 hc hd hC
  have hnx := next_c hx hy ox oy hl h2 hc
  have hbe := exp_head hc b2 (fun z => b1 z.symm) hd hB hE
  rw [g1, g2]
  generalize bstI (toI xs) (toI ys) c xs.length = b at *
  unfold Th_outline_43b Th_outline_135
  simp only [Nat.reduceAdd]
  rw [if_neg (nI_ge (by omega) (by omega)), hnx, cl_eq, rw_at hx c hc, cl_eq, rw_at hy b (by omega), cl_eq, rw_at hx b b2, cl_eq, rw_at hy c (by omega), cl_eq]
  have eh : xs.getD c 0 * ys.getD b 0 - xs.getD b 0 * ys.getD c 0 = gH xs ys b c := rfl
  rw [eh]
  by_cases z : b = s
  · rw [if_pos (by rw [z]), if_pos z, if_pos z]
    by_cases y : w = 0
    · rw [if_pos y, if_pos y]; exact congrArg (fun t => some (t, μ)) (by grind)
    · rw [if_neg y, if_neg y]; exact congrArg (fun t => some (t, μ)) (by grind)
  · rw [if_neg z] at gn
    rw [if_neg (fun q : nI b = nI s => z ((nI_eq (by omega) (by omega)).mp q)), if_neg z, if_neg z, show nI i + 1 = nI (i + 1) from nI_add i 1, ih b (by omega) (u + 1) (v + gH xs ys b c) (i + 1) b2 hbe (by omega)]
    by_cases y : w = 0
    · rw [if_pos y, if_pos y]; exact congrArg (fun t => some (t, μ)) (by grind)
    · rw [if_neg y, if_neg y]; exact congrArg (fun t => some (t, μ)) (by grind)
