/-! L3: WHAT A LAW'S TEXT SAYS, the spec -/
abbrev Cds : Type := List (Nat × Nat)
abbrev PR : Type := Except (Nat × Nat) (Cds × Nat)
def pbd (x : PR) (f : Cds → Nat → PR) : PR := match x with
  | .error e => .error e
  | .ok q => f q.1 q.2
def prp (c : Cds) (x : PR) : PR := match x with
  | .error e => .error e
  | .ok q => .ok (c ++ q.1, q.2)
theorem pbd_ok {x : PR} {f : Cds → Nat → PR} {c : Cds} {p : Nat} (h : pbd x f = .ok (c, p)) : ∃ c1 p1, x = .ok (c1, p1) ∧ f c1 p1 = .ok (c, p) := by
  cases x with
  | error e => cases h
  | ok q => exact ⟨q.1, q.2, rfl, h⟩
theorem prp_ok {x : PR} {d c : Cds} {p : Nat} (h : prp d x = .ok (c, p)) : ∃ c1, x = .ok (c1, p) ∧ c = d ++ c1 := by
  cases x with
  | error e => cases h
  | ok q =>
    cases h
    exact ⟨q.1, rfl, rfl⟩
def xl (c : Cds) : Nat := (expL c).length
theorem xl_app (a b : Cds) : xl (a ++ b) = xl a + xl b := by unfold xl; rw [expL_app, List.length_append]
theorem xl_nil : xl [] = 0 := rfl
theorem xl_one {c : Nat × Nat} (h : c.1 ≠ 47) : xl [c] = 1 := by
  unfold xl
  show (exp1 c ++ []).length = 1
  rw [List.append_nil]
  unfold exp1
  split
  · rfl
  · split
    · rfl
    · split
      · rfl
      · rfl
theorem xl_div (v : Nat) : xl [(47, v)] = 2 := rfl
theorem xl_len : ∀ c : Cds, c.length ≤ xl c
  | [] => Nat.le_refl _
  | x :: c => by
    have h1 : xl (x :: c) = xl [x] + xl c := xl_app [x] c
    have h2 : 1 ≤ xl [x] := by
      by_cases h : x.1 = 47
      · obtain ⟨a, b⟩ := x
        have h3 : a = 47 := h
        subst h3
        rw [xl_div]; omega
      · rw [xl_one h]; omega
    have := xl_len c
    show c.length + 1 ≤ _
    omega
def tK (T : Nat → Nat) (n p : Nat) : Nat := (tk T n p).1
def tV (T : Nat → Nat) (n p : Nat) : Nat := (tk T n p).2.1
def tF (T : Nat → Nat) (n p : Nat) : Nat := (tk T n p).2.2.1
def tE (T : Nat → Nat) (n p : Nat) : Nat := (tk T n p).2.2.2
theorem tE_le {T : Nat → Nat} {n p : Nat} (hp : p ≤ n) : tE T n p ≤ n := by
  rcases tk_rng (T := T) hp with h | h
  · exact Nat.le_of_eq h.2.2
  · exact h.2.2.2.1
theorem tF_le {T : Nat → Nat} {n p : Nat} (hp : p ≤ n) : tF T n p ≤ n := by
  rcases tk_rng (T := T) hp with h | h
  · exact Nat.le_of_eq h.2.1
  · exact Nat.le_trans (Nat.le_of_lt h.2.2.1) h.2.2.2.1
theorem tE_gt {T : Nat → Nat} {n p : Nat} (hp : p ≤ n) (hk : tK T n p ≠ 0) : p < tE T n p := by
  rcases tk_rng (T := T) hp with h | h
  · exact absurd h.1 hk
  · exact Nat.lt_of_le_of_lt h.2.1 h.2.2.1
theorem tV_lt {T : Nat → Nat} {n p : Nat} (hp : p ≤ n) (hk : tK T n p = 30) : tV T n p < 10000 := by
  rcases tk_rng (T := T) hp with h | h
  · rw [show tK T n p = 0 from h.1] at hk; cases hk
  · exact h.2.2.2.2.1 hk
theorem tK_lt {T : Nat → Nat} {n p : Nat} (hp : p ≤ n) : tK T n p < 63 := by
  rcases tk_rng (T := T) hp with h | h
  · rw [show tK T n p = 0 from h.1]; decide
  · exact h.1.2
def unS (T : Nat → Nat) (n p : Nat) : PR := if tK T n p = 30 then .ok ([(30, tV T n p)], tE T n p) else if 8 ≤ tK T n p ∧ tK T n p < 18 then .ok ([(tK T n p, 0)], tE T n p) else .error (1, tF T n p)
def wL : Option Nat → Cds
  | none => []
  | some k => [(k, 0)]
def wn : Option Nat → Nat
  | none => 0
  | some _ => 1
def suL (T : Nat → Nat) (n : Nat) : Nat → Option Nat → Nat → PR
  | 0, _, _ => .error (0, 0)
  | m + 1, w, p =>
    if tK T n p = 42 then pbd (unS T n (tE T n p)) (fun c p1 => prp (c ++ [(42, 0)]) (suL T n m w p1))
    else if tK T n p = 47 then (if tK T n (tE T n p) = 30 then (if tV T n (tE T n p) = 0 then .error (2, tF T n (tE T n p)) else prp [(47, tV T n (tE T n p))] (suL T n m w (tE T n (tE T n p)))) else .error (1, tF T n (tE T n p)))
    else if tK T n p = 43 ∨ tK T n p = 45 then pbd (unS T n (tE T n p)) (fun c p1 => prp (wL w ++ c) (suL T n m (some (tK T n p)) p1))
    else .ok (wL w, p)
theorem suL_succ (T : Nat → Nat) (n m : Nat) (w : Option Nat) (p : Nat) : suL T n (m + 1) w p =
    if tK T n p = 42 then pbd (unS T n (tE T n p)) (fun c p1 => prp (c ++ [(42, 0)]) (suL T n m w p1))
    else if tK T n p = 47 then (if tK T n (tE T n p) = 30 then (if tV T n (tE T n p) = 0 then .error (2, tF T n (tE T n p)) else prp [(47, tV T n (tE T n p))] (suL T n m w (tE T n (tE T n p)))) else .error (1, tF T n (tE T n p)))
    else if tK T n p = 43 ∨ tK T n p = 45 then pbd (unS T n (tE T n p)) (fun c p1 => prp (wL w ++ c) (suL T n m (some (tK T n p)) p1))
    else .ok (wL w, p) := rfl
def suS (T : Nat → Nat) (n p : Nat) : PR := pbd (unS T n p) (fun c p1 => prp c (suL T n 401 none p1))
def orL (w : Bool) : Cds := if w = true then [(5, 0)] else []
/-- a comparison (true) or what is behind one (false), so many open, an or waiting -/
def cdF (T : Nat → Nat) (n : Nat) : Nat → Bool → Nat → Bool → Nat → PR
  | 0, _, _, _, _ => .error (0, 0)
  | m + 1, true, o, _, p =>
    if tK T n p = 7 ∨ tK T n p = 40 then
      (if 8 ≤ o then .error (3, tF T n p)
      else if tK T n p = 7 then pbd (cdF T n m true (o + 1) false (tE T n p)) (fun c p1 => .ok (c ++ [(7, 0)], p1))
      else pbd (cdF T n m true (o + 1) false (tE T n p)) (fun c p1 => pbd (cdF T n m false (o + 1) false p1) (fun c2 p2 => if tK T n p2 = 41 then .ok (c ++ c2, tE T n p2) else .error (1, tF T n p2))))
    else pbd (suS T n p) (fun c p1 => if tK T n p1 = 60 ∨ tK T n p1 = 61 ∨ tK T n p1 = 62 then pbd (suS T n (tE T n p1)) (fun c2 p2 => .ok (c ++ c2 ++ [(tK T n p1, 0)], p2)) else .error (1, tF T n p1))
  | m + 1, false, o, w, p =>
    if tK T n p = 6 then pbd (cdF T n m true o false (tE T n p)) (fun c p1 => prp (c ++ [(6, 0)]) (cdF T n m false o w p1))
    else if tK T n p = 5 then pbd (cdF T n m true o false (tE T n p)) (fun c p1 => prp (orL w ++ c) (cdF T n m false o true p1))
    else .ok (orL w, p)
theorem cdF_t (T : Nat → Nat) (n m o : Nat) (w : Bool) (p : Nat) : cdF T n (m + 1) true o w p =
    if tK T n p = 7 ∨ tK T n p = 40 then
      (if 8 ≤ o then .error (3, tF T n p)
      else if tK T n p = 7 then pbd (cdF T n m true (o + 1) false (tE T n p)) (fun c p1 => .ok (c ++ [(7, 0)], p1))
      else pbd (cdF T n m true (o + 1) false (tE T n p)) (fun c p1 => pbd (cdF T n m false (o + 1) false p1) (fun c2 p2 => if tK T n p2 = 41 then .ok (c ++ c2, tE T n p2) else .error (1, tF T n p2))))
    else pbd (suS T n p) (fun c p1 => if tK T n p1 = 60 ∨ tK T n p1 = 61 ∨ tK T n p1 = 62 then pbd (suS T n (tE T n p1)) (fun c2 p2 => .ok (c ++ c2 ++ [(tK T n p1, 0)], p2)) else .error (1, tF T n p1)) := rfl
theorem cdF_f (T : Nat → Nat) (n m o : Nat) (w : Bool) (p : Nat) : cdF T n (m + 1) false o w p =
    if tK T n p = 6 then pbd (cdF T n m true o false (tE T n p)) (fun c p1 => prp (c ++ [(6, 0)]) (cdF T n m false o w p1))
    else if tK T n p = 5 then pbd (cdF T n m true o false (tE T n p)) (fun c p1 => prp (orL w ++ c) (cdF T n m false o true p1))
    else .ok (orL w, p) := rfl
def cnS (T : Nat → Nat) (n p : Nat) : PR := pbd (cdF T n 402 true 0 false p) (fun c p1 => prp c (cdF T n 402 false 0 false p1))
/-! sizes, types -/
theorem un_sz {T : Nat → Nat} {n p : Nat} {c : Cds} {p' : Nat} (hp : p ≤ n) (h : unS T n p = .ok (c, p')) : p < p' ∧ p' ≤ n ∧ xl c = 1 ∧ ∀ ts : List Bool, ts.length + 1 ≤ 32 → runT c ts = some (false :: ts) := by
  unfold unS at h
  split at h
  · rename_i e
    cases h
    refine ⟨tE_gt hp (by rw [e]; decide), tE_le hp, xl_one (show (30 : Nat) ≠ 47 by decide), fun ts hl => ?_⟩
    have hv := tV_lt hp e
    show (match ty1 (30, tV T n p) ts with | none => none | some t => runT [] t) = _
    unfold ty1
    rw [if_pos rfl, if_pos ⟨hv, by omega⟩]
    rfl
  · split at h
    · rename_i e e2
      cases h
      refine ⟨tE_gt (T := T) hp (by omega), tE_le hp, xl_one (by show tK T n p ≠ 47; omega), fun ts hl => ?_⟩
      show (match ty1 (tK T n p, 0) ts with | none => none | some t => runT [] t) = _
      unfold ty1
      rw [if_neg e, if_pos e2, if_pos ⟨rfl, by omega⟩]
      rfl
    · cases h
theorem runT_ok {a b : Cds} {ts t1 t2 : List Bool} (h1 : runT a ts = some t1) (h2 : runT b t1 = some t2) : runT (a ++ b) ts = some t2 := by
  rw [runT_app, h1]; exact h2
def wT (w : Option Nat) (ts : List Bool) : List Bool := match w with
  | none => ts
  | some _ => false :: ts
theorem suL_sz {T : Nat → Nat} {n : Nat} : ∀ (m : Nat) (w : Option Nat) (p : Nat) (c : Cds) (p' : Nat), p ≤ n → (∀ k, w = some k → k = 43 ∨ k = 45) → suL T n m w p = .ok (c, p') → p ≤ p' ∧ p' ≤ n ∧ xl c + p ≤ p' + wn w ∧ ∀ ts : List Bool, ts.length + 3 ≤ 32 → runT c (false :: wT w ts) = some (false :: ts) := by
  intro m
  induction m with
  | zero => intro w p c p' _ _ h; cases h
  | succ m ih =>
    intro w p c p' hp hw h
    rw [suL_succ] at h
    have hE := tE_le (T := T) hp
    split at h
    · rename_i e
      have hg := tE_gt hp (by rw [e]; decide)
      obtain ⟨c1, p1, h1, h2⟩ := pbd_ok h
      obtain ⟨a1, a2, a3, a4⟩ := un_sz hE h1
      obtain ⟨c2, h3, rfl⟩ := prp_ok h2
      obtain ⟨b1, b2, b3, b4⟩ := ih w p1 c2 p' a2 hw h3
      refine ⟨by omega, b2, ?_, fun ts hl => ?_⟩
      · rw [xl_app, xl_app, xl_one (c := (42, 0)) (by decide)]; omega
      · have hl2 : (wT w ts).length ≤ ts.length + 1 := by
          cases w with
          | none => exact Nat.le_succ _
          | some k => exact Nat.le_refl _
        refine runT_ok (runT_ok (a4 (false :: wT w ts) (by show (wT w ts).length + 1 + 1 ≤ 32; omega)) (t2 := false :: wT w ts) ?_) (b4 ts hl)
        rfl
    · split at h
      · rename_i e0 e
        have hg := tE_gt hp (by rw [e]; decide)
        split at h
        · rename_i e2
          have hg2 := tE_gt hE (by rw [e2]; decide)
          have hE2 := tE_le (T := T) hE
          have hv := tV_lt hE e2
          split at h
          · cases h
          · rename_i e3
            obtain ⟨c2, h3, rfl⟩ := prp_ok h
            obtain ⟨b1, b2, b3, b4⟩ := ih w _ c2 p' hE2 hw h3
            refine ⟨by omega, b2, ?_, fun ts hl => ?_⟩
            · rw [xl_app, xl_div]; omega
            · refine runT_ok (t1 := false :: wT w ts) ?_ (b4 ts hl)
              show (match ty1 (47, tV T n (tE T n p)) (false :: wT w ts) with | none => none | some t => runT [] t) = _
              have hy : ty1 (47, tV T n (tE T n p)) (false :: wT w ts) = some (false :: wT w ts) := by
                unfold ty1
                rw [if_neg (show ¬ (47 : Nat) = 30 by decide), if_neg (show ¬ (8 ≤ (47 : Nat) ∧ (47 : Nat) < 18) by decide), if_neg (show ¬ (47 : Nat) = 7 by decide), if_pos rfl]
                exact if_pos ⟨by show 0 < tV T n (tE T n p); omega, hv⟩
              rw [hy]; rfl
        · cases h
      · split at h
        · rename_i e0 e1 e
          have hg := tE_gt (T := T) hp (by omega)
          obtain ⟨c1, p1, h1, h2⟩ := pbd_ok h
          obtain ⟨a1, a2, a3, a4⟩ := un_sz hE h1
          obtain ⟨c2, h3, rfl⟩ := prp_ok h2
          obtain ⟨b1, b2, b3, b4⟩ := ih (some (tK T n p)) p1 c2 p' a2 (fun k hk => by cases hk; exact e) h3
          have hxw : xl (wL w) = wn w := by
            cases w with
            | none => rfl
            | some k => exact xl_one (by show k ≠ 47; have := hw k rfl; omega)
          have b3' : xl c2 + p1 ≤ p' + 1 := b3
          refine ⟨by omega, b2, ?_, fun ts hl => ?_⟩
          · rw [xl_app, xl_app]; omega
          · have hy : runT (wL w) (false :: wT w ts) = some (false :: ts) := by
              cases w with
              | none => rfl
              | some k =>
                rcases hw k rfl with rfl | rfl <;> rfl
            refine runT_ok (runT_ok hy (a4 (false :: ts) (by show ts.length + 1 + 1 ≤ 32; omega))) (b4 ts hl)
        · cases h
          have hxw : xl (wL w) = wn w := by
            cases w with
            | none => rfl
            | some k => exact xl_one (by show k ≠ 47; have := hw k rfl; omega)
          refine ⟨Nat.le_refl _, hp, by omega, fun ts hl => ?_⟩
          cases w with
          | none => rfl
          | some k =>
            rcases hw k rfl with rfl | rfl <;> rfl
theorem su_sz {T : Nat → Nat} {n p : Nat} {c : Cds} {p' : Nat} (hp : p ≤ n) (h : suS T n p = .ok (c, p')) : p < p' ∧ p' ≤ n ∧ xl c + p ≤ p' ∧ ∀ ts : List Bool, ts.length + 3 ≤ 32 → runT c ts = some (false :: ts) := by
  obtain ⟨c1, p1, h1, h2⟩ := pbd_ok h
  obtain ⟨a1, a2, a3, a4⟩ := un_sz hp h1
  obtain ⟨c2, h3, rfl⟩ := prp_ok h2
  obtain ⟨b1, b2, b3, b4⟩ := suL_sz 401 none p1 c2 p' a2 (fun k hk => by cases hk) h3
  have b3' : xl c2 + p1 ≤ p' := b3
  refine ⟨by omega, b2, by rw [xl_app]; omega, fun ts hl => runT_ok (a4 ts (by omega)) (b4 ts hl)⟩
def oT (w : Bool) (ts : List Bool) : List Bool := if w = true then true :: ts else ts
theorem cdF_sz {T : Nat → Nat} {n : Nat} : ∀ (m : Nat) (b : Bool) (o : Nat) (w : Bool) (p : Nat) (c : Cds) (p' : Nat), p ≤ n → o ≤ 8 → cdF T n m b o w p = .ok (c, p') → (b = true → p < p' ∧ p' ≤ n ∧ xl c + p ≤ p' ∧ ∀ ts : List Bool, ts.length + 2 * (8 - o) + 4 ≤ 32 → runT c ts = some (true :: ts)) ∧ (b = false → p ≤ p' ∧ p' ≤ n ∧ xl c + p ≤ p' + (if w = true then 1 else 0) ∧ ∀ ts : List Bool, ts.length + 2 + 2 * (8 - o) + 4 ≤ 32 → runT c (true :: oT w ts) = some (true :: ts)) := by
  intro m
  induction m with
  | zero => intro b o w p c p' _ _ h; cases h
  | succ m ih =>
    intro b o w p c p' hp ho h
    have hE := tE_le (T := T) hp
    cases b with
    | true =>
      refine ⟨fun _ => ?_, fun z => (by cases z)⟩
      rw [cdF_t] at h
      split at h
      · rename_i e
        have hg := tE_gt (T := T) hp (by omega)
        split at h
        · cases h
        rename_i ho8
        split at h
        · rename_i e7
          obtain ⟨c1, p1, h1, h2⟩ := pbd_ok h
          cases h2
          obtain ⟨a1, a2, a3, a4⟩ := (ih true (o + 1) false _ c1 p' hE (by omega) h1).1 rfl
          refine ⟨by omega, a2, ?_, fun ts hl => ?_⟩
          · rw [xl_app, xl_one (c := (7, 0)) (by decide)]; omega
          · exact runT_ok (a4 ts (by omega)) rfl
        · obtain ⟨c1, p1, h1, h2⟩ := pbd_ok h
          obtain ⟨a1, a2, a3, a4⟩ := (ih true (o + 1) false _ c1 p1 hE (by omega) h1).1 rfl
          obtain ⟨c2, p2, h3, h4⟩ := pbd_ok h2
          obtain ⟨b1, b2, b3, b4⟩ := (ih false (o + 1) false p1 c2 p2 a2 (by omega) h3).2 rfl
          split at h4
          · rename_i e41
            cases h4
            have hg2 := tE_gt b2 (by rw [e41]; decide)
            have hE2 := tE_le (T := T) b2
            have b3' : xl c2 + p1 ≤ p2 := b3
            refine ⟨by omega, hE2, by rw [xl_app]; omega, fun ts hl => ?_⟩
            exact runT_ok (a4 ts (by omega)) (b4 ts (by omega))
          · cases h4
      · obtain ⟨c1, p1, h1, h2⟩ := pbd_ok h
        obtain ⟨a1, a2, a3, a4⟩ := su_sz hp h1
        split at h2
        · rename_i e1
          have hg := tE_gt (T := T) a2 (by omega)
          obtain ⟨c2, p2, h3, h4⟩ := pbd_ok h2
          obtain ⟨b1, b2, b3, b4⟩ := su_sz (tE_le (T := T) a2) h3
          cases h4
          refine ⟨by omega, b2, ?_, fun ts hl => ?_⟩
          · rw [xl_app, xl_app, xl_one (by show tK T n p1 ≠ 47; omega)]; omega
          · refine runT_ok (runT_ok (a4 ts (by omega)) (b4 (false :: ts) (by show ts.length + 1 + 3 ≤ 32; omega))) ?_
            rcases e1 with e1 | e1 | e1 <;> rw [e1] <;> rfl
        · cases h2
    | false =>
      refine ⟨fun z => (by cases z), fun _ => ?_⟩
      rw [cdF_f] at h
      have hol : (oT w ([] : List Bool)).length ≤ 1 := by cases w <;> decide
      have hoT : ∀ ts : List Bool, (oT w ts).length ≤ ts.length + 1 := by
        intro ts
        cases w with
        | true => exact Nat.le_refl _
        | false => exact Nat.le_succ _
      have hxo : xl (orL w) = if w = true then 1 else 0 := by cases w <;> rfl
      split at h
      · rename_i e
        have hg := tE_gt (T := T) hp (by omega)
        obtain ⟨c1, p1, h1, h2⟩ := pbd_ok h
        obtain ⟨a1, a2, a3, a4⟩ := (ih true o false _ c1 p1 hE ho h1).1 rfl
        obtain ⟨c2, h3, rfl⟩ := prp_ok h2
        obtain ⟨b1, b2, b3, b4⟩ := (ih false o w p1 c2 p' a2 ho h3).2 rfl
        refine ⟨by omega, b2, ?_, fun ts hl => ?_⟩
        · rw [xl_app, xl_app, xl_one (c := (6, 0)) (by decide)]; omega
        · have := hoT ts
          refine runT_ok (runT_ok (a4 (true :: oT w ts) (by show (oT w ts).length + 1 + 2 * (8 - o) + 4 ≤ 32; omega)) (t2 := true :: oT w ts) rfl) (b4 ts hl)
      · split at h
        · rename_i e0 e
          have hg := tE_gt (T := T) hp (by omega)
          obtain ⟨c1, p1, h1, h2⟩ := pbd_ok h
          obtain ⟨a1, a2, a3, a4⟩ := (ih true o false _ c1 p1 hE ho h1).1 rfl
          obtain ⟨c2, h3, rfl⟩ := prp_ok h2
          obtain ⟨b1, b2, b3, b4⟩ := (ih false o true p1 c2 p' a2 ho h3).2 rfl
          have b3' : xl c2 + p1 ≤ p' + 1 := b3
          refine ⟨by omega, b2, ?_, fun ts hl => ?_⟩
          · rw [xl_app, xl_app]; omega
          · have hy : runT (orL w) (true :: oT w ts) = some (true :: ts) := by cases w <;> rfl
            exact runT_ok (runT_ok hy (a4 (true :: ts) (by show ts.length + 1 + 2 * (8 - o) + 4 ≤ 32; omega))) (b4 ts hl)
        · cases h
          refine ⟨Nat.le_refl _, hp, by omega, fun ts hl => ?_⟩
          cases w <;> rfl
theorem cn_sz {T : Nat → Nat} {n p : Nat} {c : Cds} {p' : Nat} (hp : p ≤ n) (h : cnS T n p = .ok (c, p')) : p < p' ∧ p' ≤ n ∧ xl c + p ≤ p' ∧ runT c [] = some [true] := by
  obtain ⟨c1, p1, h1, h2⟩ := pbd_ok h
  obtain ⟨a1, a2, a3, a4⟩ := (cdF_sz 402 true 0 false p c1 p1 hp (by omega) h1).1 rfl
  obtain ⟨c2, h3, rfl⟩ := prp_ok h2
  obtain ⟨b1, b2, b3, b4⟩ := (cdF_sz 402 false 0 false p1 c2 p' a2 (by omega) h3).2 rfl
  have b3' : xl c2 + p1 ≤ p' := b3
  exact ⟨by omega, b2, by rw [xl_app]; omega, runT_ok (a4 [] (by decide)) (b4 [] (by decide))⟩
