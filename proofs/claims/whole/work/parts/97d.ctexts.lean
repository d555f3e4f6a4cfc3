/-! L3: THE CLASS READS A TABLE, WEATHER, HEIRS -/
abbrev ER (α : Type) : Type := Except (Nat × Nat) α
def nmS (T : Nat → Nat) (n p lo hi : Nat) : ER (Nat × Nat) := if tK T n p = 30 then (if lo ≤ tV T n p ∧ tV T n p < hi then .ok (tV T n p, tE T n p) else .error (2, tF T n p)) else .error (1, tF T n p)
def ebd {α β : Type} (x : ER α) (f : α → ER β) : ER β := match x with
  | .error e => .error e
  | .ok q => f q
theorem ebd_ok {α β : Type} {x : ER α} {f : α → ER β} {b : β} (h : ebd x f = .ok b) : ∃ a, x = .ok a ∧ f a = .ok b := by
  cases x with
  | error e => cases h
  | ok q => exact ⟨q, rfl, h⟩
def mkS {α : Type} (T : Nat → Nat) (n : Nat) (x : α) (p : Nat) : ER (α × Nat) := if tK T n p = 59 then .ok (x, tE T n p) else .error (1, tF T n p)
/-- lines that begin with a word -/
def lnG {α : Type} (T : Nat → Nat) (n w : Nat) (line : Nat → ER (α × Nat)) : Nat → Nat → Nat → ER (List α)
  | 0, _, _ => .error (0, 0)
  | m + 1, k, p => if tK T n p = 0 then .ok [] else if tK T n p = w then (if k = 16 then .error (3, tF T n p) else ebd (line (tE T n p)) (fun q => ebd (lnG T n w line m (k + 1) q.2) (fun r => .ok (q.1 :: r)))) else .error (1, tF T n p)
theorem lnG_succ {α : Type} (T : Nat → Nat) (n w : Nat) (line : Nat → ER (α × Nat)) (m k p : Nat) : lnG T n w line (m + 1) k p = if tK T n p = 0 then .ok [] else if tK T n p = w then (if k = 16 then .error (3, tF T n p) else ebd (line (tE T n p)) (fun q => ebd (lnG T n w line m (k + 1) q.2) (fun r => .ok (q.1 :: r)))) else .error (1, tF T n p) := rfl
theorem nm_sz {T : Nat → Nat} {n p lo hi : Nat} {q : Nat × Nat} (hp : p ≤ n) (h : nmS T n p lo hi = .ok q) : p < q.2 ∧ q.2 ≤ n ∧ lo ≤ q.1 ∧ q.1 < hi ∧ q.1 < 10000 := by
  unfold nmS at h
  split at h
  · rename_i c
    split at h
    · rename_i d
      cases h
      exact ⟨tE_gt hp (by rw [c]; decide), tE_le hp, d.1, d.2, tV_lt hp c⟩
    · cases h
  · cases h
theorem mk_sz {α : Type} {T : Nat → Nat} {n p : Nat} {x : α} {q : α × Nat} (hp : p ≤ n) (h : mkS T n x p = .ok q) : p < q.2 ∧ q.2 ≤ n ∧ q.1 = x := by
  unfold mkS at h
  split at h
  · rename_i c
    cases h
    exact ⟨tE_gt hp (by rw [c]; decide), tE_le hp, rfl⟩
  · cases h
theorem hi_lt {hi V : Nat} (h1 : hi < 2 ^ 30) (h2 : V < 10000) : nI hi - 1 < nI V ↔ hi ≤ V := by
  cases hi with
  | zero =>
    refine ⟨fun _ => Nat.zero_le _, fun _ => ?_⟩
    rw [show nI 0 - 1 = (-1 : Int32) by decide, fa_lt, nI_toInt (by omega), show (-1 : Int32).toInt = -1 by decide]
    omega
  | succ k =>
    rw [nI_pred]
    refine ⟨fun z => ?_, fun z => nI_lt (by omega) (by omega)⟩
    by_cases c : k < V
    · omega
    · exact absurd z (nI_nlt (by omega) (by omega))
/-- a number within bounds, in the class -/
def NmC (μ0 : Mu) (T : Nat → Nat) (n : Nat) (x : ER (Nat × Nat)) (r : Int32) (μ : Mu) : Prop := match x with
  | .error e => r = -1 ∧ BdT μ0 T n e μ
  | .ok q => r = nI q.1 ∧ GdT μ0 T n q.2 μ
theorem gt_num {μ0 : Mu} {T : Nat → Nat} {n p : Nat} {μ : Mu} (h : GdT μ0 T n p μ) {v1 v2 : Int32} (lo hi : Nat) (h1 : v1 = nI lo) (h2 : v2 = nI hi - 1) (hl : lo < 10000) (hh : hi < 10001) : Ev (Rd_number 48 v1 v2 (-1) μ) (fun r μ' => NmC μ0 T n (nmS T n p lo hi) r μ') := by
  refine ev_mono (gt_number h v1 v2 (-1)) (fun r μ' q => ?_)
  unfold nmS
  by_cases c : tK T n p = 30
  · have hv := tV_lt h.2.2.1 c
    rw [if_pos c] at q
    rw [if_pos c]
    have e1 : (nI (tV T n p) < v1) ↔ tV T n p < lo := by rw [h1]; exact nI_ltI (by omega) (by omega)
    have e2 : (v2 < nI (tV T n p)) ↔ hi ≤ tV T n p := by rw [h2]; exact hi_lt (by omega) hv
    have e3 : ¬ nI (tV T n p) = -1 := by rw [n1_ne (by omega)]; exact id
    by_cases d : lo ≤ tV T n p ∧ tV T n p < hi
    · rw [if_neg (by
        rintro (z | z | z)
        · have := e1.mp z; omega
        · have := e2.mp z; omega
        · exact e3 z)] at q
      rw [if_pos d]; exact q
    · rw [if_pos (by
        by_cases z : tV T n p < lo
        · exact Or.inl (e1.mpr z)
        · exact Or.inr (Or.inl (e2.mpr (by omega))))] at q
      rw [if_neg d]; exact q
  · rw [if_neg c] at q
    rw [if_neg c]; exact q
/-- rows told so far -/
def RowsK {α : Type} (rw : α → Nat → Int32) (d : α) (μ : Mu) (R : List α) : Prop := ∀ l j, l < R.length → j < 4 → μ 57 (4 * l + j) = rw (R.getD l d) j
theorem rowsK_push {α : Type} {rw : α → Nat → Int32} {d : α} {μ μ' : Mu} {R : List α} (x : α) (h : RowsK rw d μ R) (h1 : ∀ i, i < 4 * R.length → μ' 57 i = μ 57 i) (h2 : ∀ j, j < 4 → μ' 57 (4 * R.length + j) = rw x j) : RowsK rw d μ' (R ++ [x]) := by
  intro l j hl hj
  rw [List.length_append] at hl
  have hl2 : l < R.length + 1 := hl
  by_cases z : l = R.length
  · rw [z, getD_last]; exact h2 j hj
  · rw [getD_front (by omega), h1 _ (by omega)]; exact h l j (by omega) hj
theorem frE_refl (μ : Mu) : FrE μ μ := ⟨fun _ _ _ => rfl, fun _ _ => rfl⟩
theorem frE_trans {a b c : Mu} (h1 : FrE a b) (h2 : FrE b c) : FrE a c := ⟨fun k h h' => (h2.1 k h h').trans (h1.1 k h h'), fun j h => (h2.2 j h).trans (h1.2 j h)⟩
theorem frE_U {a b : Mu} (h : FrU a b) : FrE a b := ⟨fun k hk _ => h.1 k hk, fun j hj => h.2 j (fun z => hj (by
  simp only [List.mem_cons, List.not_mem_nil, or_false] at z ⊢
  omega))⟩
/-- a text's lines are told, or there is a fault -/
def LxR {α : Type} (rw : α → Nat → Int32) (d : α) (μ0 : Mu) (R : List α) (x : ER (List α)) (μ : Mu) : Prop := match x with
  | .error e => FrE μ0 μ ∧ μ 48 8 = nI e.1 ∧ (1 ≤ e.1 ∧ e.1 ≤ 3) ∧ μ 48 9 = nI e.2
  | .ok r => FrE μ0 μ ∧ μ 48 8 = 0 ∧ μ 48 10 = nI (R ++ r).length ∧ (R ++ r).length ≤ 16 ∧ RowsK rw d μ (R ++ r)
/-- what a line of a text does -/
def LineC {α : Type} (rw : α → Nat → Int32) (T : Nat → Nat) (n P : Nat) (line : Nat → ER (α × Nat)) (body : (Int32 → Mu → Option (Unit × Mu)) → Int32 → Mu → Option (Unit × Mu)) : Prop := ∀ (kb : Int32 → Mu → Option (Unit × Mu)) (v : Int32) (μ : Mu) (p k : Nat) (Q : Unit → Mu → Prop), GdT μ T n p μ → μ 48 7 = nI P → μ 48 10 = nI k → k < 16 →
  (∀ (x : α) (p' : Nat) (μ' : Mu), line p = .ok (x, p') → FrE μ μ' → GdT μ' T n p' μ' → μ' 48 10 = nI (k + 1) → (∀ i, i < 4 * k → μ' 57 i = μ 57 i) → (∀ j, j < 4 → μ' 57 (4 * k + j) = rw x j) → Ev (kb (v + 1) μ') Q) →
  (∀ (e : Nat × Nat) (μ' : Mu), line p = .error e → FrE μ μ' → BdT μ' T n e μ' → Ev (kb (v + 1) μ') Q) → Ev (body kb v μ) Q
theorem lx_loop {α : Type} {rw : α → Nat → Int32} {d : α} {T : Nat → Nat} {n P w : Nat} {line : Nat → ER (α × Nat)} {body : (Int32 → Mu → Option (Unit × Mu)) → Int32 → Mu → Option (Unit × Mu)} {Lp : Nat → Int32 → Mu → Option (Unit × Mu)} (hL : ∀ f v μ, Lp (f + 1) v μ = if 16 < v then some ((), μ) else cl (Rd_begins 48 (nI w) μ) (fun x2 μ1 => (if x2 = 0 then some ((), μ1) else body (Lp f) v μ1))) (hw : 0 < w ∧ w < 63) (hb : LineC rw T n P line body) (hline : ∀ p q, p ≤ n → line p = .ok q → p < q.2) : ∀ (m p fuel : Nat) (R : List α) (μ0 μ : Mu), n - p < m → n - p < fuel → FrE μ0 μ → GdT μ T n p μ → μ 48 7 = nI P → μ 48 10 = nI R.length → R.length ≤ 16 → RowsK rw d μ R → Ev (Lp fuel (nI R.length) μ) (fun _ μ' => LxR rw d μ0 R (lnG T n w line m R.length p) μ') := by
  intro m
  induction m with
  | zero => intro p fuel R μ0 μ hm; omega
  | succ m ih =>
    intro p fuel R μ0 μ hm hfu hF hG h7 h10 hk16 hR
    obtain ⟨f, rfl⟩ : ∃ k, fuel = k + 1 := ⟨fuel - 1, by omega⟩
    have hn := gt_n hG
    have hp := hG.2.2.1
    have hE := tE_le (T := T) hp
    have stop : ∀ (e : Nat × Nat) (i : Int32) (μ' : Mu) (g : Nat), 0 < g → FrE μ0 μ' → BdT μ' T n e μ' → Ev (Lp g i μ') (fun _ μ2 => LxR rw d μ0 R (.error e) μ2) := by
      intro e i μ' g hg g1 g2
      obtain ⟨g', rfl⟩ : ∃ k, g = k + 1 := ⟨g - 1, by omega⟩
      have r : LxR rw d μ0 R (.error e) μ' := ⟨g1, g2.2.2.1, g2.2.2.2.1, g2.2.2.2.2.1⟩
      rw [hL]
      by_cases c : 16 < i
      · rw [if_pos c]; exact ev_some r
      · rw [if_neg c, bt_begins g2, cl_eq, if_pos rfl]; exact ev_some r
    rw [hL, if_neg (show ¬ (16 : Int32) < nI R.length from nI_nlt (a := 16) hk16 (by omega)), lnG_succ]
    refine ev_cl (ev_mono (gt_begins hG w R.length rfl hw hk16 h10) (fun r μ1 h1 => ?_))
    by_cases c0 : tK T n p = 0
    · rw [if_pos c0] at h1
      rw [h1.1, if_pos rfl, if_pos c0, h1.2]
      refine ev_some ⟨hF, hG.2.2.2.1, ?_, ?_, ?_⟩
      · rw [List.append_nil]; exact h10
      · rw [List.append_nil]; exact hk16
      · rw [List.append_nil]; exact hR
    rw [if_neg c0] at h1
    rw [if_neg c0]
    by_cases cw : tK T n p = w
    · have hg := tE_gt (T := T) hp c0
      rw [if_pos cw] at h1
      rw [if_pos cw]
      by_cases c16 : R.length = 16
      · rw [if_neg (by omega)] at h1
        rw [h1.1, if_pos rfl, if_pos c16]
        exact ev_some ⟨frE_trans hF (frE_U h1.2.1), h1.2.2.2.1, h1.2.2.2.2.1, h1.2.2.2.2.2.1⟩
      · rw [if_pos (by omega)] at h1
        rw [h1.1, if_neg (show ¬ (1 : Int32) = 0 by decide), if_neg c16]
        have f1 := frE_trans hF (frE_U h1.2.1)
        refine hb (Lp f) _ μ1 (tE T n p) R.length _ ⟨frU_refl _, h1.2.2⟩ ((h1.2.1.2 7 (by decide)).trans h7) ((h1.2.1.2 10 (by decide)).trans h10) (by omega) (fun x p' μ' e1 e2 e3 e4 e5 e6 => ?_) (fun e μ' e1 e2 e3 => ?_)
        · have hgt := hline _ _ hE e1
          have hll : (R ++ [x]).length = R.length + 1 := List.length_append
          rw [nI_1, ← hll]
          refine ev_mono (ih p' f (R ++ [x]) μ0 μ' (by have : tE T n p < p' := hgt; omega) (by have : tE T n p < p' := hgt; omega) (frE_trans f1 e2) e3 ((e2.2 7 (by decide)).trans ((h1.2.1.2 7 (by decide)).trans h7)) (by rw [hll]; exact e4) (by omega) (rowsK_push x hR (fun i hi => by rw [e5 i hi, h1.2.1.1 57 (by decide)]) e6)) (fun _ μ2 h2 => ?_)
          rw [e1]
          show LxR rw d μ0 R (ebd (lnG T n w line m (R ++ [x]).length p') (fun r => .ok (x :: r))) μ2
          cases hlw : lnG T n w line m (R ++ [x]).length p' with
          | error er => rw [hlw] at h2; exact h2
          | ok y =>
            rw [hlw] at h2
            obtain ⟨y1, y2, y3, y4, y5⟩ := h2
            rw [List.append_assoc] at y3 y4 y5
            exact ⟨y1, y2, y3, y4, y5⟩
        · rw [e1]
          exact stop e _ μ' f (by omega) (frE_trans f1 e2) e3
    · rw [if_neg cw] at h1
      rw [if_neg cw, h1.1, if_pos rfl]
      exact ev_some ⟨frE_trans hF (frE_U h1.2.1), h1.2.2.2.1, h1.2.2.2.2.1, h1.2.2.2.2.2.1⟩
/-! lines end -/
theorem line_end {α : Type} {rw : α → Nat → Int32} {T : Nat → Nat} {n p k : Nat} {μ0 μ : Mu} {x : α} {v v1 v2 v3 v4 : Int32} {kb : Int32 → Mu → Option (Unit × Mu)} {Q : Unit → Mu → Prop} (hF : FrU μ0 μ) (h : GdT μ T n p μ) (h10 : μ 48 10 = nI k) (hk : k < 16) (r0 : v1 = rw x 0) (r1 : v2 = rw x 1) (r2 : v3 = rw x 2) (r3 : v4 = rw x 3)
    (hok : ∀ (μ' : Mu), mkS T n x p = .ok (x, tE T n p) → FrE μ0 μ' → GdT μ' T n (tE T n p) μ' → μ' 48 10 = nI (k + 1) → (∀ i, i < 4 * k → μ' 57 i = μ0 57 i) → (∀ j, j < 4 → μ' 57 (4 * k + j) = rw x j) → Ev (kb (v + 1) μ') Q)
    (her : ∀ (μ' : Mu), mkS T n x p = .error (1, tF T n p) → FrE μ0 μ' → BdT μ' T n (1, tF T n p) μ' → Ev (kb (v + 1) μ') Q) : Ev (cl (Rd_ends 48 v1 v2 v3 v4 μ) (fun _ μ1 => kb (v + 1) μ1)) Q := by
  refine ev_cl (ev_mono (gt_ends h v1 v2 v3 v4 k hk h10) (fun _ μ1 h1 => ?_))
  unfold mkS at hok her
  by_cases c : tK T n p = 59
  · rw [if_pos c] at h1
    obtain ⟨e1, e2, e3, e4, e5, e6, e7, e8, e9, e10⟩ := h1
    refine hok μ1 (if_pos c) (frE_trans (frE_U hF) e1) ⟨frU_refl _, e2, tE_le h.2.2.1, e3, e4⟩ e5 (fun i hi => by rw [e6 i (Or.inl hi), hF.1 57 (by decide)]) (fun j hj => ?_)
    rcases (show j = 0 ∨ j = 1 ∨ j = 2 ∨ j = 3 by omega) with rfl | rfl | rfl | rfl
    · rw [← r0]; exact e7
    · rw [← r1]; exact e8
    · rw [← r2]; exact e9
    · rw [← r3]; exact e10
  · rw [if_neg c] at h1
    exact her μ1 (if_neg c) (frE_trans (frE_U hF) (frE_U h1.1)) ⟨frU_refl _, h1.2⟩
theorem bad_end {T : Nat → Nat} {n : Nat} {μ0 μ : Mu} {e : Nat × Nat} {v v1 v2 v3 v4 : Int32} {kb : Int32 → Mu → Option (Unit × Mu)} {Q : Unit → Mu → Prop} (h : BdT μ0 T n e μ) (her : ∀ (μ' : Mu), FrE μ0 μ' → BdT μ' T n e μ' → Ev (kb (v + 1) μ') Q) : Ev (cl (Rd_ends 48 v1 v2 v3 v4 μ) (fun _ μ1 => kb (v + 1) μ1)) Q :=
  ev_cl (ev_mono (bt_ends h v1 v2 v3 v4) (fun _ μ1 h1 => her μ1 (frE_U h1.1) ⟨frU_refl _, h1.2⟩))
theorem gdT_self {μ0 : Mu} {T : Nat → Nat} {n p : Nat} {μ : Mu} (h : GdT μ0 T n p μ) : GdT μ T n p μ := ⟨frU_refl μ, h.2⟩
theorem bt_whom {μ0 : Mu} {T : Nat → Nat} {n : Nat} {e : Nat × Nat} {μ : Mu} (h : BdT μ0 T n e μ) (v : Int32) : Ev (Rd_whom 48 v μ) (fun r μ' => r = -1 ∧ BdT μ0 T n e μ') := by
  unfold Rd_whom
  rw [gF_eq]
  exact ev_cl (ev_mono (bt_number h _ _ _) (fun r μ1 h1 => ev_some h1))
theorem gt_whom {μ0 : Mu} {T : Nat → Nat} {n p P : Nat} {μ : Mu} (h : GdT μ0 T n p μ) (h7 : μ 48 7 = nI P) (hP : P ≤ 16) : Ev (Rd_whom 48 (-1) μ) (fun r μ' => NmC μ0 T n (nmS T n p 0 P) r μ') := by
  unfold Rd_whom
  rw [gF_eq, h7]
  exact ev_cl (ev_mono (gt_num h 0 P rfl rfl (by omega) (by omega)) (fun r μ1 h1 => ev_some h1))
/-! TABLE -/
def tbL (T : Nat → Nat) (n P p : Nat) : ER ((Nat × Nat) × Nat) := ebd (nmS T n p 0 16) (fun s => if tK T n s.2 = 18 then ebd (nmS T n (tE T n s.2) 0 P) (fun q => mkS T n (s.1, q.1) q.2) else .error (1, tF T n s.2))
def tbR (x : Nat × Nat) (j : Nat) : Int32 := if j = 0 then nI x.1 else if j = 1 then nI x.2 else -1
theorem tbL_gt {T : Nat → Nat} {n P p : Nat} {q : (Nat × Nat) × Nat} (hp : p ≤ n) (h : tbL T n P p = .ok q) : p < q.2 := by
  obtain ⟨s, h1, h2⟩ := ebd_ok h
  obtain ⟨a1, a2, _⟩ := nm_sz hp h1
  split at h2
  · rename_i c
    have hg := tE_gt (T := T) a2 (by omega)
    obtain ⟨q1, h3, h4⟩ := ebd_ok h2
    obtain ⟨b1, b2, _⟩ := nm_sz (tE_le (T := T) a2) h3
    have := (mk_sz b2 h4).1
    omega
  · cases h2
theorem line_table {T : Nat → Nat} {n P : Nat} (hP : P ≤ 16) : LineC tbR T n P (tbL T n P) (fun kb2 v1 μ1 => cl (Rd_number 48 0 15 (-1) μ1) (fun x4 μ3 => cl (Rd_take 48 18 μ3) (fun _ μ5 => cl (Rd_whom 48 (-1) μ5) (fun x7 μ6 => cl (Rd_ends 48 x4 x7 (-1) (-1) μ6) (fun _ μ8 => kb2 (v1 + 1) μ8))))) := by
  intro kb v μ p k Q h h7 h10 hk hok her
  refine ev_cl (ev_mono (gt_num h 0 16 rfl rfl (by omega) (by omega)) (fun r μ1 h1 => ?_))
  unfold tbL at hok her
  cases hu : nmS T n p 0 16 with
  | error e =>
    rw [hu] at h1 her
    refine ev_cl (ev_mono (bt_take h1.2 18 (by decide)) (fun _ μ2 h2 => ev_cl (ev_mono (bt_whom h2 (-1)) (fun r3 μ3 h3 => bad_end h3.2 (fun μ' q1 q2 => her e μ' rfl q1 q2)))))
  | ok s =>
    rw [hu] at h1 hok her
    refine ev_cl (ev_mono (gt_take h1.2 (v := 18) 18 rfl (by omega)) (fun _ μ2 h2 => ?_))
    by_cases c : tK T n s.2 = 18
    · rw [if_pos c] at h2
      refine ev_cl (ev_mono (gt_whom h2 ((h2.1.2 7 (by decide)).trans h7) hP) (fun r3 μ3 h3 => ?_))
      cases hv : nmS T n (tE T n s.2) 0 P with
      | error e =>
        rw [hv] at h3
        refine bad_end h3.2 (fun μ' q1 q2 => her e μ' ?_ q1 q2)
        show (if tK T n s.2 = 18 then _ else _) = _
        rw [if_pos c, hv]; rfl
      | ok q =>
        rw [hv] at h3
        have heq : ∀ y, mkS T n (s.1, q.1) q.2 = y → (ebd (Except.ok s) fun s => if tK T n s.2 = 18 then ebd (nmS T n (tE T n s.2) 0 P) (fun q => mkS T n (s.1, q.1) q.2) else .error (1, tF T n s.2)) = y := by
          intro y hy
          show (if tK T n s.2 = 18 then ebd (nmS T n (tE T n s.2) 0 P) (fun q => mkS T n (s.1, q.1) q.2) else .error (1, tF T n s.2)) = y
          rw [if_pos c, hv]; exact hy
        refine line_end (rw := tbR) (x := (s.1, q.1)) h3.2.1 (gdT_self h3.2) ((h3.2.1.2 10 (by decide)).trans h10) hk h1.1 h3.1 rfl rfl (fun μ' e1 e2 e3 e4 e5 e6 => ?_) (fun μ' e1 e2 e3 => ?_)
        · exact hok (s.1, q.1) _ μ' (heq _ e1) e2 e3 e4 e5 e6
        · exact her _ μ' (heq _ e1) e2 e3
    · rw [if_neg c] at h2
      refine ev_cl (ev_mono (bt_whom h2 (-1)) (fun r3 μ3 h3 => bad_end h3.2 (fun μ' q1 q2 => her _ μ' ?_ q1 q2)))
      show (if tK T n s.2 = 18 then _ else _) = _
      rw [if_neg c]
