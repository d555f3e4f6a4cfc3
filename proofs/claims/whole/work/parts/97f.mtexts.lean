/-! L3: THE REFERENCE READS A TABLE, WEATHER, HEIRS -/
def NmM (ν0 : Mu) (T : Nat → Nat) (n : Nat) (x : ER (Nat × Nat)) (r : Int32) (ν : Mu) : Prop := match x with
  | .error e => r = -1 ∧ ErM ν0 e ν
  | .ok q => r = nI q.1 ∧ GdM ν0 T n q.2 [] ν
section Num
variable {ν0 : Mu} {T : Nat → Nat} {n p : Nat} {ν : Mu}
theorem gm_num (h : GdM ν0 T n p [] ν) {v1 v2 : Int32} (lo hi : Nat) (h1 : v1 = nI lo) (h2 : v2 = nI hi - 1) (hl : lo < 10000) (hh : hi < 10001) : Ev (Mo_readNumber 59 v1 v2 ν) (fun r ν' => NmM ν0 T n (nmS T n p lo hi) r ν') := by
  have ht := h.2.2.2.1
  have hp := h.2.2.1
  have h4 := tkM_rng (tK T n p)
  unfold Mo_readNumber nmS
  rw [gF_eq, ht.1]
  by_cases c : tK T n p = 30
  · have q3 : tkM (tK T n p) = 3 := by rw [c]; rfl
    have h13 : ν 59 13 = nI (tV T n p) := ht.2.2.1 q3
    have hv := tV_lt hp c
    have e1 : (nI (tV T n p) < v1) ↔ tV T n p < lo := by rw [h1]; exact nI_ltI (by omega) (by omega)
    have e2 : (v2 < nI (tV T n p)) ↔ hi ≤ tV T n p := by rw [h2]; exact hi_lt (by omega) hv
    rw [if_pos (show nI (tkM (tk T n p).1) = 3 by rw [show tkM (tk T n p).1 = 3 from q3]; rfl), gF_eq, h13, isIn_eq, cl_eq, if_pos c]
    by_cases d : lo ≤ tV T n p ∧ tV T n p < hi
    · rw [if_neg (show ¬ (nI (tV T n p) < v1 ∨ v2 < nI (tV T n p)) by
        rintro (z | z)
        · have := e1.mp z; omega
        · have := e2.mp z; omega), if_neg (show ¬ (1 : Int32) = 0 by decide), gF_eq, h13, if_pos d]
      exact ev_cl (ev_mono (gm_reads h) (fun _ ν1 g1 => ev_some ⟨rfl, g1⟩))
    · rw [if_pos (show nI (tV T n p) < v1 ∨ v2 < nI (tV T n p) by
        by_cases z : tV T n p < lo
        · exact Or.inl (e1.mpr z)
        · exact Or.inr (e2.mpr (by omega))), if_pos rfl, if_neg d]
      exact ev_cl (ev_mono (gm_errs h 2 rfl) (fun r ν1 g1 => ev_some g1))
  · rw [if_neg (fun z : nI (tkM (tk T n p).1) = 3 => c (tkM_3 ((nI_eq (b := 3) (by show tkM (tK T n p) < _; omega) (by omega)).mp z))), if_neg c]
    exact ev_cl (ev_mono (gm_errs h 1 rfl) (fun r ν1 g1 => ev_some g1))
theorem gm_told (h : GdM ν0 T n p [] ν) {v v1 v2 : Int32} (w lo hi : Nat) (hw : 1 ≤ w ∧ w ≤ 24) (hv : v = nI (rwn w)) (h1 : v1 = nI lo) (h2 : v2 = nI hi - 1) (hl : lo < 10000) (hh : hi < 10001) : Ev (Mo_readTold 59 v v1 v2 ν) (fun r ν' => NmM ν0 T n (if tK T n p = w then nmS T n (tE T n p) lo hi else .error (1, tF T n p)) r ν') := by
  unfold Mo_readTold
  rw [mo_isWord h.2.2.2.1 w hv hw, cl_eq]
  by_cases c : tK T n p = w
  · rw [if_pos c, if_neg (show ¬ (1 : Int32) = 0 by decide), if_pos c]
    exact ev_cl (ev_mono (gm_reads h) (fun _ ν1 g1 => ev_cl (ev_mono (gm_num g1 lo hi h1 h2 hl hh) (fun r ν2 g2 => ev_some g2))))
  · rw [if_neg c, if_pos rfl, if_neg c]
    exact ev_cl (ev_mono (gm_errs h 1 rfl) (fun r ν1 g1 => ev_some g1))
theorem gm_mark {α : Type} (x : α) (h : GdM ν0 T n p [] ν) : Ev (Mo_readMark 59 59 ν) (fun r ν' => match mkS T n x p with | .error e => r = -1 ∧ ErM ν0 e ν' | .ok q => r = 0 ∧ GdM ν0 T n q.2 [] ν') := by
  unfold Mo_readMark mkS
  rw [mo_isSign (v := 59) h.2.2.2.1 h.2.2.1 59 rfl (by decide), cl_eq]
  by_cases c : tK T n p = 59
  · rw [if_pos c, if_neg (show ¬ (1 : Int32) = 0 by decide), if_pos c]
    exact ev_cl (ev_mono (gm_reads h) (fun _ ν1 g1 => ev_some ⟨rfl, g1⟩))
  · rw [if_neg c, if_pos rfl, if_neg c]
    exact ev_cl (ev_mono (gm_errs h 1 rfl) (fun r ν1 g1 => ev_some g1))
end Num
/-- what these texts' reading leaves as it was -/
def FrX (μ μ' : Mu) : Prop := (∀ k, k ∉ [59, 71, 72, 74, 75, 76, 77] → μ' k = μ k) ∧ (∀ i, i < 800 → μ' 71 i = μ 71 i ∧ μ' 72 i = μ 72 i) ∧ (∀ i, i < 64 → μ' 76 i = μ 76 i) ∧ (∀ i, i < 16 → μ' 77 i = μ 77 i) ∧ ∀ j, j ∉ [10, 11, 12, 13, 23, 27, 28] → μ' 59 j = μ 59 j
theorem frX_refl (μ : Mu) : FrX μ μ := ⟨fun _ _ => rfl, fun _ _ => ⟨rfl, rfl⟩, fun _ _ => rfl, fun _ _ => rfl, fun _ _ => rfl⟩
theorem frX_Q {a b c : Mu} (h1 : FrX a b) (h2 : FrQ b c) : FrX a c := by
  refine ⟨fun k h => (h2.1 k (fun z => h ?_)).trans (h1.1 k h), fun i h => ⟨(h2.2.1 i h).1.trans (h1.2.1 i h).1, (h2.2.1 i h).2.trans (h1.2.1 i h).2⟩, fun i h => ?_, fun i h => ?_, fun j h => (h2.2.2 j h).trans (h1.2.2.2.2 j h)⟩
  · simp only [List.mem_cons, List.not_mem_nil, or_false] at z ⊢; omega
  · rw [h2.1 76 (by decide)]; exact h1.2.2.1 i h
  · rw [h2.1 77 (by decide)]; exact h1.2.2.2.1 i h
def stK (k i : Nat) : Prop := k = 74 ∨ k = 75 ∨ (k = 76 ∧ 64 ≤ i) ∨ (k = 77 ∧ 16 ≤ i)
theorem frX_up {a b : Mu} {k i : Nat} {v : Int32} (h1 : FrX a b) (h : stK k i) : FrX a (up2 b k i v) := by
  unfold stK at h
  refine ⟨fun j hj => (up2_ne (fun z => hj ?_)).trans (h1.1 j hj), fun x hx => ⟨(up2_off (Or.inl (by omega))).trans (h1.2.1 x hx).1, (up2_off (Or.inl (by omega))).trans (h1.2.1 x hx).2⟩, fun x hx => (up2_off (by omega)).trans (h1.2.2.1 x hx), fun x hx => (up2_off (by omega)).trans (h1.2.2.2.1 x hx), fun j hj => (up2_off (Or.inl (by omega))).trans (h1.2.2.2.2 j hj)⟩
  rw [z]
  rcases h with z | z | z | z
  · rw [z]; decide
  · rw [z]; decide
  · rw [z.1]; decide
  · rw [z.1]; decide
def XM (ν0 : Mu) (T : Nat → Nat) (n p : Nat) (ν : Mu) : Prop := FrX ν0 ν ∧ CoM T n p [] ν
theorem xm_g {ν0 : Mu} {T : Nat → Nat} {n p : Nat} {ν : Mu} (h : XM ν0 T n p ν) : GdM ν T n p [] ν := ⟨frQ_refl ν, h.2⟩
theorem xm_Q {ν0 : Mu} {T : Nat → Nat} {n p p' : Nat} {ν ν' : Mu} (h : XM ν0 T n p ν) (g : GdM ν T n p' [] ν') : XM ν0 T n p' ν' := ⟨frX_Q h.1 g.1, g.2⟩
theorem xm_up {ν0 : Mu} {T : Nat → Nat} {n p : Nat} {ν : Mu} {k i : Nat} {v : Int32} (h : XM ν0 T n p ν) (hk : stK k i) : XM ν0 T n p (up2 ν k i v) := by
  refine ⟨frX_up h.1 hk, coM_of (fun j _ => up2_off (Or.inl ?_)) (fun j hj => up2_ne ?_) h.2⟩
  · unfold stK at hk; omega
  · unfold stK at hk
    simp only [List.mem_cons, List.not_mem_nil, or_false] at hj
    omega
/-- its lines' end -/
def LxM {α : Type} (RM : List α → Mu → Prop) (ν0 : Mu) (R : List α) (x : ER (List α)) (r : Int32) (ν : Mu) : Prop := match x with
  | .error e => r = -1 ∧ FrX ν0 ν ∧ ν 59 27 = nI e.1 ∧ ν 59 28 = nI e.2
  | .ok y => r = nI (R ++ y).length ∧ FrX ν0 ν ∧ (R ++ y).length ≤ 16 ∧ RM (R ++ y) ν
def LineM {α : Type} (RM : List α → Mu → Prop) (T : Nat → Nat) (n P w : Nat) (line : Nat → ER (α × Nat)) (body : (Int32 → Mu → Option (Int32 × Mu)) → Int32 → Mu → Option (Int32 × Mu)) : Prop := ∀ (kb : Int32 → Mu → Option (Int32 × Mu)) (ν : Mu) (p : Nat) (R : List α) (Q : Int32 → Mu → Prop), CoM T n p [] ν → tK T n p = w → ν 59 6 = nI P → R.length < 16 → RM R ν →
  (∀ (x : α) (p' : Nat) (ν' : Mu), line (tE T n p) = .ok (x, p') → FrX ν ν' → CoM T n p' [] ν' → RM (R ++ [x]) ν' → Ev (kb (nI R.length + 1) ν') Q) →
  (∀ (e : Nat × Nat) (ν' : Mu), line (tE T n p) = .error e → FrX ν ν' → ν' 59 27 = nI e.1 → ν' 59 28 = nI e.2 → Q (-1) ν') → Ev (body kb (nI R.length) ν) Q
theorem frX_trans {a b c : Mu} (h1 : FrX a b) (h2 : FrX b c) : FrX a c := ⟨fun k h => (h2.1 k h).trans (h1.1 k h), fun i h => ⟨(h2.2.1 i h).1.trans (h1.2.1 i h).1, (h2.2.1 i h).2.trans (h1.2.1 i h).2⟩, fun i h => (h2.2.2.1 i h).trans (h1.2.2.1 i h), fun i h => (h2.2.2.2.1 i h).trans (h1.2.2.2.1 i h), fun j h => (h2.2.2.2.2 j h).trans (h1.2.2.2.2 j h)⟩
theorem lm_loop {α : Type} {RM : List α → Mu → Prop} {T : Nat → Nat} {n P w : Nat} {line : Nat → ER (α × Nat)} {body : (Int32 → Mu → Option (Int32 × Mu)) → Int32 → Mu → Option (Int32 × Mu)} {Lp : Nat → Int32 → Mu → Option (Int32 × Mu)} (hL : ∀ f v ν, Lp (f + 1) v ν = cl (Mo_isWord 59 (nI (rwn w)) ν) (fun x2 μ1 => (if x2 = 0 then gF μ1 59 12 (fun x3 => (if x3 = 0 then some (v, μ1) else cl (Mo_errs 59 1 μ1) (fun x5 μ4 => some (x5, μ4)))) else (if v = 16 then cl (Mo_errs 59 3 μ1) (fun x9 μ8 => some (x9, μ8)) else body (Lp f) v μ1)))) (hw : 1 ≤ w ∧ w ≤ 24) (hb : LineM RM T n P w line body) (hline : ∀ p q, p ≤ n → line p = .ok q → p < q.2) : ∀ (m p fuel : Nat) (R : List α) (ν0 ν : Mu), n - p < m → n - p < fuel → FrX ν0 ν → CoM T n p [] ν → ν 59 6 = nI P → R.length ≤ 16 → RM R ν → Ev (Lp fuel (nI R.length) ν) (fun r ν' => LxM RM ν0 R (lnG T n w line m R.length p) r ν') := by
  intro m
  induction m with
  | zero => intro p fuel R ν0 ν hm; omega
  | succ m ih =>
    intro p fuel R ν0 ν hm hfu hF hC h6 hk16 hR
    obtain ⟨f, rfl⟩ : ∃ k, fuel = k + 1 := ⟨fuel - 1, by omega⟩
    have hn := gm_n hC
    have hp := hC.2.1
    have ht := hC.2.2.1
    have hE := tE_le (T := T) hp
    have h4 := tkM_rng (tK T n p)
    rw [hL, lnG_succ, mo_isWord ht w rfl hw, cl_eq]
    by_cases cw : tK T n p = w
    · have c0 : ¬ tK T n p = 0 := by omega
      have hg := tE_gt (T := T) hp c0
      rw [if_pos cw, if_neg (show ¬ (1 : Int32) = 0 by decide), if_neg c0, if_pos cw]
      by_cases c16 : R.length = 16
      · rw [if_pos (show nI R.length = 16 by rw [c16]; rfl), if_pos c16]
        exact ev_cl (ev_mono (gm_errs ⟨frQ_refl ν, hC⟩ 3 rfl) (fun r ν1 h1 => ev_some ⟨h1.1, frX_Q hF h1.2.1, h1.2.2.1, h1.2.2.2⟩))
      · rw [if_neg (fun z : nI R.length = 16 => c16 ((nI_eq (b := 16) (by omega) (by omega)).mp z)), if_neg c16]
        refine hb (Lp f) ν p R _ hC cw h6 (by omega) hR (fun x p' ν' e1 e2 e3 e4 => ?_) (fun e ν' e1 e2 e3 e4 => ?_)
        · have hgt : tE T n p < p' := hline _ _ hE e1
          have hll : (R ++ [x]).length = R.length + 1 := List.length_append
          rw [nI_1, ← hll]
          refine ev_mono (ih p' f (R ++ [x]) ν0 ν' (by omega) (by omega) (frX_trans hF e2) e3 ((e2.2.2.2.2 6 (by decide)).trans h6) (by omega) e4) (fun r ν2 h2 => ?_)
          rw [e1]
          show LxM RM ν0 R (ebd (lnG T n w line m (R ++ [x]).length p') (fun r => .ok (x :: r))) r ν2
          cases hlw : lnG T n w line m (R ++ [x]).length p' with
          | error er => rw [hlw] at h2; exact h2
          | ok y =>
            rw [hlw] at h2
            obtain ⟨y1, y2, y3, y4⟩ := h2
            rw [List.append_assoc] at y1 y3 y4
            exact ⟨y1, y2, y3, y4⟩
        · rw [e1]
          exact ⟨rfl, frX_trans hF e2, e3, e4⟩
    · rw [if_neg cw, if_pos rfl, gF_eq, ht.1]
      by_cases c0 : tK T n p = 0
      · rw [if_pos (show nI (tkM (tk T n p).1) = 0 by rw [show (tk T n p).1 = 0 from c0]; rfl), if_pos c0]
        refine ev_some ⟨?_, hF, ?_, ?_⟩
        · rw [List.append_nil]
        · rw [List.append_nil]; exact hk16
        · rw [List.append_nil]; exact hR
      · rw [if_neg (fun z : nI (tkM (tk T n p).1) = 0 => c0 (tkM_0.mp ((nI_eq (b := 0) (by show tkM (tK T n p) < _; omega) (by omega)).mp z))), if_neg c0, if_neg cw]
        exact ev_cl (ev_mono (gm_errs ⟨frQ_refl ν, hC⟩ 1 rfl) (fun r ν1 h1 => ev_some ⟨h1.1, frX_Q hF h1.2.1, h1.2.2.1, h1.2.2.2⟩))
/-! TABLE -/
def tbM (R : List (Nat × Nat)) (ν : Mu) : Prop := ∀ l, l < R.length → ν 74 l = nI (R.getD l (0, 0)).1 ∧ ν 75 l = nI (R.getD l (0, 0)).2
theorem nI_n1 {k : Nat} (hk : k < 10000) : ¬ nI k = -1 := by rw [n1_ne (by omega)]; exact id
theorem lineM_table {T : Nat → Nat} {n P : Nat} (hP : P ≤ 16) : LineM tbM T n P 13 (tbL T n P) (fun kb2 v1 μ1 => cl (Mo_readTold 59 10 0 15 μ1) (fun x7 μ6 => stA μ6 74 16 v1 x7 (fun μ8 => ldA μ8 74 16 v1 (fun x9 => (if x9 = ((-1)) then some ((-1), μ8) else gF μ8 59 6 (fun x10 => cl (Mo_readTold 59 17 0 (x10 - 1) μ8) (fun x12 μ11 => stA μ11 75 16 v1 x12 (fun μ13 => ldA μ13 75 16 v1 (fun x14 => (if x14 = ((-1)) then some ((-1), μ13) else cl (Mo_readMark 59 59 μ13) (fun x16 μ15 => (if x16 = ((-1)) then some ((-1), μ15) else kb2 (v1 + 1) μ15)))))))))))) := by
  intro kb ν p R Q hC cw h6 hk hR hok her
  unfold tbL at hok her
  have hp := hC.2.1
  have hE := tE_le (T := T) hp
  refine ev_cl (ev_mono (gm_told (v := 10) ⟨frQ_refl ν, hC⟩ 13 0 16 (by omega) rfl rfl rfl (by omega) (by omega)) (fun r ν1 h1 => ?_))
  rw [if_pos cw] at h1
  rw [stA_nI (by omega) (by omega), ldA_nI (by omega) (by omega), up2_same]
  cases hu : nmS T n (tE T n p) 0 16 with
  | error e =>
    rw [hu] at h1 her
    rw [if_pos h1.1]
    exact ev_some (her e _ rfl (frX_up (frX_Q (frX_refl ν) h1.2.1) (Or.inl rfl)) (by rw [up2_off (Or.inl (by decide))]; exact h1.2.2.1) (by rw [up2_off (Or.inl (by decide))]; exact h1.2.2.2))
  | ok s =>
    obtain ⟨a1, a2, a3, a4, a5⟩ := nm_sz hE hu
    rw [hu] at h1 hok her
    rw [h1.1, if_neg (nI_n1 a5)]
    have x2 : XM ν T n s.2 (up2 ν1 74 R.length (nI s.1)) := xm_up ⟨frX_Q (frX_refl ν) h1.2.1, h1.2.2⟩ (Or.inl rfl)
    have s74 : up2 ν1 74 R.length (nI s.1) 74 R.length = nI s.1 := up2_same _ _ _ _
    have o74 : ∀ l, l < R.length → up2 ν1 74 R.length (nI s.1) 74 l = ν 74 l := fun l hl => by rw [up2_off (Or.inr (by omega)), h1.2.1.1 74 (by decide)]
    have o75 : ∀ l, up2 ν1 74 R.length (nI s.1) 75 l = ν 75 l := fun l => by rw [up2_off (Or.inl (by decide)), h1.2.1.1 75 (by decide)]
    generalize up2 ν1 74 R.length (nI s.1) = ν2 at x2 s74 o74 o75 ⊢
    have k6 : ν2 59 6 = nI P := (x2.1.2.2.2.2 6 (by decide)).trans h6
    rw [gF_eq, k6]
    refine ev_cl (ev_mono (gm_told (v := 17) (xm_g x2) 18 0 P (by omega) rfl rfl rfl (by omega) (by omega)) (fun r3 ν3 h3 => ?_))
    rw [stA_nI (by omega) (by omega), ldA_nI (by omega) (by omega), up2_same]
    have heq : ∀ (y : ER ((Nat × Nat) × Nat)), (if tK T n s.2 = 18 then ebd (nmS T n (tE T n s.2) 0 P) (fun q => mkS T n (s.1, q.1) q.2) else .error (1, tF T n s.2)) = y → ebd (Except.ok s) (fun s => if tK T n s.2 = 18 then ebd (nmS T n (tE T n s.2) 0 P) (fun q => mkS T n (s.1, q.1) q.2) else .error (1, tF T n s.2)) = y := fun y hy => hy
    have bad : ∀ e, r3 = -1 ∧ ErM ν2 e ν3 → (if tK T n s.2 = 18 then ebd (nmS T n (tE T n s.2) 0 P) (fun q => mkS T n (s.1, q.1) q.2) else .error (1, tF T n s.2)) = Except.error e → Ev (if r3 = ((-1)) then some ((-1), up2 ν3 75 R.length r3) else cl (Mo_readMark 59 59 (up2 ν3 75 R.length r3)) (fun x16 μ15 => (if x16 = ((-1)) then some ((-1), μ15) else kb (nI R.length + 1) μ15))) Q := by
      intro e he hy
      rw [if_pos he.1]
      exact ev_some (her e _ (heq _ hy) (frX_up (frX_Q x2.1 he.2.1) (Or.inr (Or.inl rfl))) (by rw [up2_off (Or.inl (by decide))]; exact he.2.2.1) (by rw [up2_off (Or.inl (by decide))]; exact he.2.2.2))
    by_cases c : tK T n s.2 = 18
    · rw [if_pos c] at h3
      cases hv : nmS T n (tE T n s.2) 0 P with
      | error e =>
        rw [hv] at h3
        exact bad e h3 (by rw [if_pos c, hv]; rfl)
      | ok q =>
        rw [hv] at h3
        have hq := (nm_sz (tE_le (T := T) a2) hv).2.2.2.2
        rw [h3.1, if_neg (nI_n1 hq)]
        have x4 : XM ν T n q.2 (up2 ν3 75 R.length (nI q.1)) := xm_up (xm_Q x2 h3.2) (Or.inr (Or.inl rfl))
        have rm : tbM (R ++ [(s.1, q.1)]) (up2 ν3 75 R.length (nI q.1)) := by
          intro l hl
          rw [List.length_append] at hl
          have hl2 : l < R.length + 1 := hl
          by_cases z : l = R.length
          · rw [z, getD_last, up2_same, up2_off (Or.inl (by decide)), h3.2.1.1 74 (by decide)]
            exact ⟨s74, rfl⟩
          · rw [getD_front (by omega), up2_off (Or.inl (by decide)), h3.2.1.1 74 (by decide), o74 l (by omega), up2_off (Or.inr z), h3.2.1.1 75 (by decide), o75]
            exact hR l (by omega)
        generalize up2 ν3 75 R.length (nI q.1) = ν4 at x4 rm ⊢
        refine ev_cl (ev_mono (gm_mark (s.1, q.1) (xm_g x4)) (fun r5 ν5 h5 => ?_))
        have hfull : ∀ (y : ER ((Nat × Nat) × Nat)), mkS T n (s.1, q.1) q.2 = y → (if tK T n s.2 = 18 then ebd (nmS T n (tE T n s.2) 0 P) (fun q => mkS T n (s.1, q.1) q.2) else .error (1, tF T n s.2)) = y := fun y hy => by rw [if_pos c, hv]; exact hy
        cases hm : mkS T n (s.1, q.1) q.2 with
        | error e =>
          rw [hm] at h5
          rw [if_pos h5.1]
          exact ev_some (her e ν5 (heq _ (hfull _ hm)) (frX_Q x4.1 h5.2.1) h5.2.2.1 h5.2.2.2)
        | ok y =>
          have hy := (mk_sz (nm_sz (tE_le (T := T) a2) hv).2.1 hm).2.2
          rw [hm] at h5
          rw [h5.1, if_neg (show ¬ (0 : Int32) = -1 by decide)]
          have x6 := xm_Q x4 h5.2
          refine hok (s.1, q.1) y.2 ν5 (heq _ (hfull _ (by rw [hm, ← hy]))) x6.1 x6.2 (fun l hl => ?_)
          rw [h5.2.1.1 74 (by decide), h5.2.1.1 75 (by decide)]; exact rm l hl
    · rw [if_neg c] at h3
      exact bad _ h3 (by rw [if_neg c])
