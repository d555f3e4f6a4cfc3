/-! L3: DOOR -/
theorem lp2_fu {α β : Type} {F : α → α} {G : β → β} {z : α} {w : β} (e : Nat) (Q : Nat → α → β → Prop) (he : e ≤ 100000) (hx : ∀ A B, Q e (F A) (G B)) (hs : ∀ k A B, k < e → Q (k + 1) A B → Q k (F A) (G B)) (k : Nat) (hk : k ≤ e) : Q k (lp F z FU) (lp G w FU) := by
  have key : ∀ d k n, e - k = d → k ≤ e → d < n → Q k (lp F z n) (lp G w n) := by
    intro d
    induction d with
    | zero =>
      intro k n h1 h2 h3
      obtain ⟨m, rfl⟩ : ∃ m, n = m + 1 := ⟨n - 1, by omega⟩
      have : k = e := by omega
      subst this
      rw [lp_succ, lp_succ]; exact hx _ _
    | succ d ih =>
      intro k n h1 h2 h3
      obtain ⟨m, rfl⟩ : ∃ m, n = m + 1 := ⟨n - 1, by omega⟩
      rw [lp_succ, lp_succ]
      exact hs k _ _ (by omega) (ih (k + 1) m (by omega) (by omega) (by omega))
  exact key (e - k) k FU rfl hk (by have := FU_big; omega)
theorem door_h {P : Nat} {th : Int32} {μ ν : Mu} {N : Nat → Int32} (hC : FigC P 2 th μ N) (hN : NOk P N) (hM : ν 60 = N) (h6 : ν 59 6 = nI P) {s : Nat} (hs : s < 16) : ∃ h, h ≤ 99 ∧ Fg_heightAt 2 (nI s) μ = some (nI h, μ) ∧ Mo_doorHigh 59 (nI s) ν = some (nI h, ν) := by
  unfold Fg_heightAt Mo_doorHigh
  rw [fg_holder hC hs, cl_eq, mo_whoHas h6 hN.1 s (by omega), cl_eq, hM]
  rcases whoN_cases hN.1 N s with e | ⟨p, hp, e, -⟩
  · rw [e, if_pos rfl, if_pos (show (-1 : Int32) = (-1) from rfl)]
    exact ⟨0, by omega, rfl, rfl⟩
  · have hP := hN.1
    obtain ⟨v, hv, ev⟩ := hN.2.1 p hp
    rw [e, if_neg (show ¬ nI p = -1 by rw [n1_ne (by omega)]; exact id), if_neg (show ¬ nI p = (-1) by rw [n1_ne (by omega)]; exact id), fg_g1 hC hp, cl_eq]
    simp only [Nat.reduceAdd]
    rw [show (22 : Int32) + nI p = nI (22 + p) from nI_add 22 p, ldA_nI (by omega) (by omega), hM, ev]
    exact ⟨v / 100, by omega, congrArg (fun t => some (t, _)) (show nI v / 100 = nI (v / 100) from pk_div (d := 100) (by omega) (by omega) (by omega)), congrArg (fun t => some (t, _)) (show nI v / 100 = nI (v / 100) from pk_div (d := 100) (by omega) (by omega) (by omega))⟩
theorem th_door {P : Nat} {th : Int32} {μ ν : Mu} {N : Nat → Int32} (hC : FigC P 2 th μ N) (hN : NOk P N) (hM : ν 60 = N) (h6 : ν 59 6 = nI P) (w : Int32) : Same (Sf_door 0 w μ) (Mo_door 59 w ν) := by
  unfold Mo_door
  rw [pF_eq, isIn_eq, cl_eq]
  have hM1 : (up2 ν 59 0 0) 60 = N := by rw [up2_ne (by omega)]; exact hM
  have h61 : (up2 ν 59 0 0) 59 6 = nI P := by rw [up2_off (Or.inr (by omega))]; exact h6
  generalize up2 ν 59 0 0 = ν1 at hM1 h61
  have key : Same (Sf_door_10 0 w FU 0 (-1) (-1) 0 μ) (if (if w < 0 ∨ 2 < w then (0 : Int32) else 1) = 0 then some (-1, ν1) else Mo_door_27 59 w FU 0 (-1) (-1) 0 ν1) := by
    suffices K : ∀ (b l r : Int32), Same (Sf_door_10 0 w FU b l r (nI 0) μ) (if (if w < 0 ∨ 2 < w then (0 : Int32) else 1) = 0 then some (-1, ν1) else Mo_door_27 59 w FU b l r (nI 0) ν1) from K 0 (-1) (-1)
    unfold Sf_door_10 Mo_door_27
    refine lp2_fu (F := fun kb => Sf_door_10b 0 kb w) (G := fun kb => Mo_door_27b 59 kb w) (z := fun _ _ _ _ _ => none) (w := fun _ _ _ _ _ => none) 16 (fun k A B => ∀ (b l r : Int32), Same (A b l r (nI k) μ) (if (if w < 0 ∨ 2 < w then (0 : Int32) else 1) = 0 then some (-1, ν1) else B b l r (nI k) ν1)) (by omega) ?_ ?_ 0 (by omega)
    · intro A B b l r
      show Same (Sf_door_10b 0 A w b l r (nI 16) μ) (if _ then _ else Mo_door_27b 59 B w b l r (nI 16) ν1)
      unfold Sf_door_10b Mo_door_27b
      rw [if_pos (show (16 : Int32) ≤ nI 16 by decide), if_pos (show (16 : Int32) ≤ nI 16 by decide)]
      by_cases c : w < 0 ∨ 2 < w
      · rw [if_pos c, if_pos rfl]
        have n0 : ¬ w = 0 := fun z => by subst z; revert c; decide
        have n1 : ¬ w = 1 := fun z => by subst z; revert c; decide
        have n2 : ¬ w = 2 := fun z => by subst z; revert c; decide
        rw [if_neg n0, if_neg n1, if_neg n2]; exact same_i rfl rfl
      · rw [if_neg c, if_neg (show ¬ (1 : Int32) = 0 by decide)]
        obtain ⟨k, k1, k2, rfl⟩ := nI_rng (lo := 0) (n := 2) (by omega) (by omega) (fun z => c (Or.inl z)) (fun z => c (Or.inr z))
        have : k = 0 ∨ k = 1 ∨ k = 2 := by omega
        rcases this with rfl | rfl | rfl
        · exact same_i rfl rfl
        · exact same_i rfl rfl
        · exact same_i rfl rfl
    · intro i A B hi ih b l r
      show Same (Sf_door_10b 0 A w b l r (nI i) μ) (if _ then _ else Mo_door_27b 59 B w b l r (nI i) ν1)
      unfold Sf_door_10b Mo_door_27b
      rw [if_neg (show ¬ (16 : Int32) ≤ nI i by rw [li_le (by omega) (by omega)]; exact Nat.not_le.mpr (by omega)), if_neg (show ¬ (16 : Int32) ≤ nI i by rw [li_le (by omega) (by omega)]; exact Nat.not_le.mpr (by omega))]
      have cont : ∀ (b l r : Int32), Same (A b l r (nI i + 1) μ) (if (if w < 0 ∨ 2 < w then (0 : Int32) else 1) = 0 then some (-1, ν1) else B b l r (nI i + 1) ν1) := fun b l r => by
        rw [show nI i + 1 = nI (i + 1) from nI_add i 1]; exact ih b l r
      unfold Sf_door_26 Mo_door_43
      suffices K : ∀ (b l r m m' : Int32), (∀ h, h ≤ 99 → jmin m (nI h) = jmin m' (nI h)) → Same (lp (fun kb => Sf_door_26b 0 A kb w (nI i)) (fun _ _ _ _ _ _ => none) FU b l r m (nI i) μ) (if (if w < 0 ∨ 2 < w then (0 : Int32) else 1) = 0 then some (-1, ν1) else lp (fun kb => Mo_door_43b 59 B kb w (nI i)) (fun _ _ _ _ _ _ => none) FU b l r m' (nI i) ν1) from K b l r 9999 100000000 (fun h hh => by
        unfold jmin
        rw [if_pos (show nI h < 9999 from nI_lt (b := 9999) (by omega) (by omega)), if_pos (show nI h < 100000000 from nI_lt (b := 100000000) (by omega) (by omega))])
      refine lp2_fu (F := fun kb => Sf_door_26b 0 A kb w (nI i)) (G := fun kb => Mo_door_43b 59 B kb w (nI i)) (z := fun _ _ _ _ _ _ => none) (w := fun _ _ _ _ _ _ => none) 16 (fun j A' B' => ∀ (b l r m m' : Int32), (∀ h, h ≤ 99 → jmin m (nI h) = jmin m' (nI h)) → Same (A' b l r m (nI j) μ) (if (if w < 0 ∨ 2 < w then (0 : Int32) else 1) = 0 then some (-1, ν1) else B' b l r m' (nI j) ν1)) (by omega) ?_ ?_ i (by omega)
      · intro A' B' b l r m m' _
        show Same (Sf_door_26b 0 A A' w (nI i) b l r m (nI 16) μ) (if _ then _ else Mo_door_43b 59 B B' w (nI i) b l r m' (nI 16) ν1)
        unfold Sf_door_26b Mo_door_43b
        rw [if_pos (show (16 : Int32) ≤ nI 16 by decide), if_pos (show (16 : Int32) ≤ nI 16 by decide)]
        exact cont b l r
      · intro j A' B' hj ihj b l r m m' hm
        show Same (Sf_door_26b 0 A A' w (nI i) b l r m (nI j) μ) (if _ then _ else Mo_door_43b 59 B B' w (nI i) b l r m' (nI j) ν1)
        unfold Sf_door_26b Mo_door_43b Sf_door_80 Mo_door_99
        simp only [Nat.reduceAdd]
        obtain ⟨h, h1, h2, h3⟩ := door_h hC hN hM1 h61 hj
        rw [if_neg (show ¬ (16 : Int32) ≤ nI j by rw [li_le (by omega) (by omega)]; exact Nat.not_le.mpr (by omega)), if_neg (show ¬ (16 : Int32) ≤ nI j by rw [li_le (by omega) (by omega)]; exact Nat.not_le.mpr (by omega)), h2, cl_eq, h3, cl_eq, mo_lesser, cl_eq, ← hm h h1]
        have ec : jmin m (nI h) * (nI j - nI i + 1) = (nI j - nI i + 1) * jmin m (nI h) := by grind
        rw [ec, show nI j + 1 = nI (j + 1) from nI_add j 1]
        by_cases c : (nI j - nI i + 1) * jmin m (nI h) ≤ b
        · rw [if_pos c, if_neg (show ¬ b < (nI j - nI i + 1) * jmin m (nI h) from Int32.not_lt.mpr c)]
          exact ihj b l r _ _ (fun _ _ => rfl)
        · rw [if_neg c, if_pos (show b < (nI j - nI i + 1) * jmin m (nI h) from Int32.not_le.mp c)]
          exact ihj _ _ _ _ _ (fun _ _ => rfl)
  exact key
