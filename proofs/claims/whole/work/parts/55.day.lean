/-! L3: A DAY, both sides -/
abbrev St : Type := (Nat → Int32) × (Nat → Int32)
abbrev LawL : Type := List (Nat × List (Nat × Nat) × List (Nat × Nat))
/-- a line of the weather: day, kind (0 wet, 1 cattle, 2 feast, 3 scold, 4 die), who or how much, how much -/
abbrev WLn : Type := Nat × Nat × Nat × Nat
def w0 : WLn := (0, 0, 0, 0)
def WOk (P : Nat) (W : List WLn) : Prop := W.length ≤ 16 ∧ ∀ l, l < W.length → (W.getD l w0).1 ≤ 999 ∧ (W.getD l w0).2.1 ≤ 4 ∧ (W.getD l w0).2.2.1 ≤ 999 ∧ (W.getD l w0).2.2.2 ≤ 9 ∧ ((W.getD l w0).2.1 = 3 → (W.getD l w0).2.2.1 < P) ∧ ((W.getD l w0).2.1 = 4 → (W.getD l w0).2.2.1 < P)
def kT (k : Nat) : Nat := if k = 0 then 14 else 19 + k
def WeaC (μ : Mu) (W : List WLn) : Prop := μ 17 2 = nI W.length ∧ ∀ l, l < W.length → μ 14 (4 * l) = nI (W.getD l w0).1 ∧ μ 14 (4 * l + 1) = nI (kT (W.getD l w0).2.1) ∧ μ 14 (4 * l + 2) = (if 3 ≤ (W.getD l w0).2.1 then nI (W.getD l w0).2.2.1 else -1) ∧ μ 14 (4 * l + 3) = (if (W.getD l w0).2.1 ≤ 1 then nI (W.getD l w0).2.2.1 else if (W.getD l w0).2.1 = 3 then nI (W.getD l w0).2.2.2 else -1)
def WeaM (μ : Mu) (W : List WLn) : Prop := μ 59 34 = nI W.length ∧ ∀ l, l < W.length → μ 76 (4 * l) = nI (W.getD l w0).1 ∧ μ 76 (4 * l + 1) = nI (W.getD l w0).2.1 ∧ μ 76 (4 * l + 2) = nI (W.getD l w0).2.2.1 ∧ μ 76 (4 * l + 3) = nI (W.getD l w0).2.2.2
def feastF (P : Nat) (th : Int32) (L : LawL) (H : Nat → Int32) (S : St) : Nat → St × Nat
  | 0 => (S, 0)
  | k + 1 => if (feastF P th L H S k).1.1 (102 + k) = 0 then feastF P th L H S k else (spillS P th L H (feastF P th L H S k).1 k, (feastF P th L H S k).2 + 1)
def comesS (P : Nat) (th : Int32) (L : LawL) (H : Nat → Int32) (w : WLn) (S : St) : St × Nat :=
  if w.2.1 = 0 then ((upd S.1 3 (nI w.2.2.1), S.2), 0)
  else if w.2.1 = 1 then (cattleS P th S w.2.2.1, 0)
  else if w.2.1 = 2 then feastF P th L H S P
  else if w.2.1 = 3 then ((upd S.1 (6 + w.2.2.1) (nI w.2.2.2), S.2), 0)
  else if S.1 (86 + w.2.2.1) = 0 then (dieS th H S w.2.2.1, 0) else (S, 0)
def weaF (P : Nat) (th : Int32) (L : LawL) (H : Nat → Int32) (W : List WLn) (S : St) : Nat → St × Nat
  | 0 => (S, 0)
  | k + 1 => if (weaF P th L H W S k).1.1 0 = nI (W.getD k w0).1 then ((comesS P th L H (W.getD k w0) (weaF P th L H W S k).1).1, (weaF P th L H W S k).2 + (comesS P th L H (W.getD k w0) (weaF P th L H W S k).1).2) else weaF P th L H W S k
def drawV (v : Int32) : Int32 := 1664525 * v + 1013904223
def hapS (th : Int32) (S : St) (v : Int32) : St × Bool := if th = 0 then (if v ≤ 0 then (S, false) else ((upd S.1 1 (drawV (S.1 1)), S.2), decide (¬ v ≤ jrem (jushr (drawV (S.1 1)) 8) 1000))) else (S, decide (¬ v < 500))
def persF (P : Nat) (th : Int32) (L : LawL) (H : Nat → Int32) (x : St × Nat) : Nat → St × Nat
  | 0 => x
  | k + 1 => if (persF P th L H x k).1.1 (86 + k) = 0 then (if (hapS th (persF P th L H x k).1 (askN P (persF P th L H x k).1.1 L H k 0)).2 then (spillS P th L H (hapS th (persF P th L H x k).1 (askN P (persF P th L H x k).1.1 L H k 0)).1 k, (persF P th L H x k).2 + 1) else ((hapS th (persF P th L H x k).1 (askN P (persF P th L H x k).1.1 L H k 0)).1, (persF P th L H x k).2)) else persF P th L H x k
def runN (P : Nat) (N : Nat → Int32) (p s : Nat) (n : Int32) : Nat → Int32 :=
  let N2 := upd (upd N (22 + p) (N (22 + p) - n)) 4 (N 4 + n - n / 2)
  if whoN P N (s + 1) = -1 then upd N2 4 (N2 4 + n / 2) else getsS N2 (whoN P N (s + 1)).toNatClampNeg (n / 2)
def runOffS (P : Nat) (th : Int32) (L : LawL) (H : Nat → Int32) (S : St) (s : Nat) : St :=
  if whoN P S.1 s = -1 then S
  else if S.1 (22 + (whoN P S.1 s).toNatClampNeg) ≤ 0 then S
  else if askN P S.1 L H (whoN P S.1 s).toNatClampNeg 2 = 0 then S
  else noteB th (runN P S.1 (whoN P S.1 s).toNatClampNeg s (askN P S.1 L H (whoN P S.1 s).toNatClampNeg 2), S.2) 1 (whoN P S.1 s) (askN P S.1 L H (whoN P S.1 s).toNatClampNeg 2)
def seatF (P : Nat) (th : Int32) (L : LawL) (H : Nat → Int32) (S : St) : Nat → St
  | 0 => S
  | k + 1 => runOffS P th L H (seatF P th L H S k) k
def goesS (P : Nat) (th : Int32) (L : LawL) (H : Nat → Int32) (W : List WLn) (S : St) : St × Nat :=
  let b := persF P th L H (weaF P th L H W S W.length) P
  let c := seatF P th L H b.1 16
  ((upd c.1 0 (c.1 0 + 1), c.2), b.2)
/-! feasts -/
theorem seat_alive {P : Nat} {N : Nat → Int32} (h : NOk P N) {p : Nat} (hp : p < P) (hs : N (102 + p) ≠ 0) : N (86 + p) = 0 := by
  rcases h.2.2.1 p hp with z | ⟨_, z, _⟩
  · exact z
  · exact absurd z hs
theorem c_feast {P c : Nat} {th : Int32} {μ : Mu} {S : St} {L : LawL} {H : Nat → Int32} (h : CtxC P c th μ S L H) (hs : SpOk P S.1 L H) (kb4 : Int32 → Int32 → Mu → Option (Int32 × Mu)) (v3 : Int32) (n0 : Nat) (Q : Int32 → Mu → Prop) (hk : ∀ μ', CtxC P c th μ' (feastF P th L H S P).1 L H → SpOk P (feastF P th L H S P).1.1 L H → Off (CR c) μ μ' → Ev (kb4 (nI (n0 + (feastF P th L H S P).2)) (v3 + 1) μ') Q) : Ev (Dy_weather_138 39 1 c kb4 v3 FU (nI n0) 0 μ) Q := by
  have hP := hs.1.1
  suffices K : ∀ μ1, CtxC P c th μ1 (feastF P th L H S 0).1 L H → SpOk P (feastF P th L H S 0).1.1 L H → Off (CR c) μ μ1 → Ev (Dy_weather_138 39 1 c kb4 v3 FU (nI (n0 + (feastF P th L H S 0).2)) (nI 0) μ1) Q from K μ h hs (off_refl _ _)
  unfold Dy_weather_138
  refine lp_fu (F := fun kb => Dy_weather_138b 39 1 c kb4 kb v3) (z := fun _ _ _ => none) P (fun k A => ∀ μ1, CtxC P c th μ1 (feastF P th L H S k).1 L H → SpOk P (feastF P th L H S k).1.1 L H → Off (CR c) μ μ1 → Ev (A (nI (n0 + (feastF P th L H S k).2)) (nI k) μ1) Q) (by omega) ?_ ?_ 0 (by omega)
  · intro A μ1 h1 h2 h3
    show Ev (Dy_weather_138b 39 1 c kb4 A v3 _ (nI P) μ1) Q
    unfold Dy_weather_138b Dy_weather_197
    rw [gF_eq, h1.1.2.2.1, if_pos (nI_le (Nat.le_refl _) (by omega))]
    exact hk μ1 h1 h2 h3
  · intro k A hkP ih μ1 h1 h2 h3
    show Ev (Dy_weather_138b 39 1 c kb4 A v3 _ (nI k) μ1) Q
    have e : feastF P th L H S (k + 1) = if (feastF P th L H S k).1.1 (102 + k) = 0 then feastF P th L H S k else (spillS P th L H (feastF P th L H S k).1 k, (feastF P th L H S k).2 + 1) := rfl
    unfold Dy_weather_138b Dy_weather_169
    rw [gF_eq, h1.1.2.2.1, if_neg (nI_ge hkP (by omega)), fg_g6 h1.1 hkP, cl_eq, nI_1]
    rw [e] at ih
    by_cases z : (feastF P th L H S k).1.1 (102 + k) = 0
    · rw [if_pos (by rw [z]; decide)]
      rw [if_pos z] at ih
      exact ih μ1 h1 h2 h3
    · rw [if_neg (by rw [sub1_eq]; exact z)]
      rw [if_neg z] at ih
      refine ev_cl (ev_mono (c_spill h1 h2 hkP (seat_alive h2.1 hkP z)) ?_)
      rintro _ μ2 ⟨g1, g2, g3⟩
      rw [nI_1, Nat.add_assoc]
      exact ih μ2 g1 g2 (off_trans h3 g3)
theorem m_feast {P : Nat} {th : Int32} {μ : Mu} {S : St} {L : LawL} {H : Nat → Int32} (h : CtxM P th μ S L H) (hs : SpOk P S.1 L H) (hsp : ∀ k, k ≤ P → SpOk P (feastF P th L H S k).1.1 L H) : Ev (Mo_feast 59 μ) (fun r μ' => r = nI (feastF P th L H S P).2 ∧ CtxM P th μ' (feastF P th L H S P).1 L H ∧ Off RD μ μ') := by
  have hP := hs.1.1
  suffices K : ∀ μ1, CtxM P th μ1 (feastF P th L H S 0).1 L H → Off RD μ μ1 → Ev (Mo_feast_4 59 FU (nI (feastF P th L H S 0).2) (nI 0) μ1) (fun r μ' => r = nI (feastF P th L H S P).2 ∧ CtxM P th μ' (feastF P th L H S P).1 L H ∧ Off RD μ μ') from K μ h (off_refl _ _)
  unfold Mo_feast_4
  refine lp_fu (F := fun kb => Mo_feast_4b 59 kb) (z := fun _ _ _ => none) P (fun k A => ∀ μ1, CtxM P th μ1 (feastF P th L H S k).1 L H → Off RD μ μ1 → Ev (A (nI (feastF P th L H S k).2) (nI k) μ1) (fun r μ' => r = nI (feastF P th L H S P).2 ∧ CtxM P th μ' (feastF P th L H S P).1 L H ∧ Off RD μ μ')) (by omega) ?_ ?_ 0 (by omega)
  · intro A μ1 h1 h3
    show Ev (Mo_feast_4b 59 A _ (nI P) μ1) _
    unfold Mo_feast_4b
    rw [gF_eq, h1.2.2.2.1, if_pos (nI_le (Nat.le_refl _) (by omega))]
    exact ev_some ⟨rfl, h1, h3⟩
  · intro k A hkP ih μ1 h1 h3
    show Ev (Mo_feast_4b 59 A _ (nI k) μ1) _
    have h2 := hsp k (by omega)
    have e : feastF P th L H S (k + 1) = if (feastF P th L H S k).1.1 (102 + k) = 0 then feastF P th L H S k else (spillS P th L H (feastF P th L H S k).1 k, (feastF P th L H S k).2 + 1) := rfl
    unfold Mo_feast_4b Mo_feast_41
    rw [gF_eq, h1.2.2.2.1, if_neg (nI_ge hkP (by omega)), mo_isAlive hP hkP, cl_eq, nI_1, h1.1]
    rw [e] at ih
    by_cases z : (feastF P th L H S k).1.1 (102 + k) = 0
    · rw [if_pos z] at ih
      by_cases y : (feastF P th L H S k).1.1 (86 + k) = 0
      · rw [if_pos y, if_neg (by decide), mo_seatOf hP hkP, cl_eq, h1.1, if_pos (by rw [z]; decide)]
        exact ih μ1 h1 h3
      · rw [if_neg y, if_pos rfl]
        exact ih μ1 h1 h3
    · have y := seat_alive h2.1 hkP z
      rw [if_neg z] at ih
      rw [if_pos y, if_neg (by decide), mo_seatOf hP hkP, cl_eq, h1.1, if_neg (by rw [sub1_eq]; exact z)]
      refine ev_cl (ev_mono (m_spill h1 h2 hkP y) ?_)
      rintro _ μ2 ⟨g1, g3⟩
      rw [nI_1]
      exact ih μ2 g1 (off_trans h3 g3)
