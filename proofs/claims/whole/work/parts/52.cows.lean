/-! L3: CATTLE: grain by grain is as in batches -/
def talS (s : Nat → Nat) : Nat → Nat × Nat
  | 0 => (0, 0)
  | k + 1 => if (talS s k).2 < s k then (k + 1, s k) else talS s k
theorem talS_spec (s : Nat → Nat) : ∀ P, ((talS s P).1 = 0 ∧ (talS s P).2 = 0 ∧ ∀ p, p < P → s p = 0) ∨ ∃ i, i < P ∧ (talS s P).1 = i + 1 ∧ (talS s P).2 = s i ∧ 0 < s i ∧ (∀ j, j < P → s j ≤ s i) ∧ ∀ j, j < i → s j < s i := by
  intro P
  induction P with
  | zero => exact Or.inl ⟨rfl, rfl, fun p hp => absurd hp (Nat.not_lt_zero _)⟩
  | succ k ih =>
    have e : talS s (k + 1) = if (talS s k).2 < s k then (k + 1, s k) else talS s k := rfl
    rw [e]
    by_cases c : (talS s k).2 < s k
    · rw [if_pos c]
      refine Or.inr ⟨k, by omega, rfl, rfl, by omega, fun j hj => ?_, fun j hj => ?_⟩
      · rcases ih with ⟨_, h2, h3⟩ | ⟨i, h1, h2, h3, h4, h5, h6⟩
        · by_cases z : j = k
          · rw [z]; exact Nat.le_refl _
          · rw [h3 j (by omega)]; omega
        · by_cases z : j = k
          · rw [z]; exact Nat.le_refl _
          · have := h5 j (by omega); omega
      · rcases ih with ⟨_, h2, h3⟩ | ⟨i, h1, h2, h3, h4, h5, h6⟩
        · rw [h3 j hj]; omega
        · have := h5 j hj; omega
    · rw [if_neg c]
      rcases ih with ⟨h1, h2, h3⟩ | ⟨i, h1, h2, h3, h4, h5, h6⟩
      · refine Or.inl ⟨h1, h2, fun p hp => ?_⟩
        by_cases z : p = k
        · rw [z]; omega
        · exact h3 p (by omega)
      · refine Or.inr ⟨i, by omega, h2, h3, h4, fun j hj => ?_, h6⟩
        by_cases z : j = k
        · rw [z]; omega
        · exact h5 j (by omega)
theorem talS_at {s : Nat → Nat} {P i : Nat} (hi : i < P) (h0 : 0 < s i) (h1 : ∀ j, j < P → s j ≤ s i) (h2 : ∀ j, j < i → s j < s i) : (talS s P).1 = i + 1 ∧ (talS s P).2 = s i := by
  rcases talS_spec s P with ⟨_, _, h⟩ | ⟨k, a1, a2, a3, a4, a5, a6⟩
  · rw [h i hi] at h0; omega
  · have e1 := h1 k a1
    have e2 := a5 i hi
    have : k = i := by
      rcases Nat.lt_trichotomy k i with z | z | z
      · have := h2 k z; omega
      · exact z
      · have := a6 i z; omega
    subst this
    exact ⟨a2, a3⟩
def lick1 (P : Nat) (s : Nat → Nat) : Nat → Nat := fun k => if (talS s P).1 = k + 1 then s k - 1 else s k
def lickI (P : Nat) (s : Nat → Nat) : Nat → Nat → Nat
  | 0 => s
  | n + 1 => lick1 P (lickI P s n)
theorem lickI_add (P : Nat) (s : Nat → Nat) (a b : Nat) : lickI P s (a + b) = lickI P (lickI P s a) b := by
  induction b with
  | zero => rfl
  | succ b ih => show lick1 P (lickI P s (a + b)) = lick1 P (lickI P (lickI P s a) b); rw [ih]
theorem lickI_zero {P : Nat} {s : Nat → Nat} (h : ∀ p, p < P → s p = 0) (n : Nat) : lickI P s n = s := by
  induction n with
  | zero => rfl
  | succ n ih =>
    show lick1 P (lickI P s n) = s
    rw [ih]
    funext k
    unfold lick1
    rcases talS_spec s P with ⟨h1, _, _⟩ | ⟨i, h1, _, _, h4, _⟩
    · rw [h1, if_neg (by omega)]
    · rw [h i h1] at h4; omega
theorem fb_ct_yes' (s : Nat → Nat) (top j : Nat) (h : s j = top) : fb_ct (fun q => decide (s q = top)) (j + 1) = fb_ct (fun q => decide (s q = top)) j + 1 := by
  rw [fb_ct_succ]
  simp [h]
def rk (s : Nat → Nat) (top p : Nat) : Nat := fb_ct (fun q => decide (s q = top)) p
def batch (P : Nat) (s : Nat → Nat) (top g : Nat) : Nat → Nat := fun p => if p < P ∧ s p = top then top - g / rk s top P - (if rk s top p < g % rk s top P then 1 else 0) else s p
theorem divmod1 {g m : Nat} (hm : 0 < m) (h : g % m + 1 < m) : (g + 1) / m = g / m ∧ (g + 1) % m = g % m + 1 := by
  have e := Nat.div_add_mod g m
  have e2 : g + 1 = (g % m + 1) + m * (g / m) := by omega
  constructor
  · rw [e2, Nat.add_mul_div_left _ _ hm, Nat.div_eq_of_lt h]; omega
  · rw [e2, Nat.add_mul_mod_self_left, Nat.mod_eq_of_lt h]
theorem divmod2 {g m : Nat} (hm : 0 < m) (h : g % m + 1 = m) : (g + 1) / m = g / m + 1 ∧ (g + 1) % m = 0 := by
  have e := Nat.div_add_mod g m
  have e2 : g + 1 = m + m * (g / m) := by omega
  constructor
  · rw [e2, Nat.add_mul_div_left _ _ hm, Nat.div_self hm]; omega
  · rw [e2, Nat.add_mul_mod_self_left, Nat.mod_self]
theorem batch_step {P top nxt g : Nat} {s : Nat → Nat} (h1 : ∀ j, j < P → s j ≤ top) (hm : 0 < rk s top P) (hn : nxt < top) (h2 : ∀ j, j < P → s j < top → s j ≤ nxt) (hg : g < rk s top P * (top - nxt)) : lick1 P (batch P s top g) = batch P s top (g + 1) := by
  have hr : g % rk s top P < rk s top P := Nat.mod_lt _ hm
  have he : g / rk s top P < top - nxt := (Nat.div_lt_iff_lt_mul hm).mpr (by rw [Nat.mul_comm]; exact hg)
  obtain ⟨i, hi, hti, hri⟩ := fb_ct_kth (p := fun q => decide (s q = top)) (n := P) hr
  have hsi : s i = top := of_decide_eq_true hti
  have hri' : rk s top i = g % rk s top P := hri
  generalize he0 : g / rk s top P = e at he
  generalize hr0 : g % rk s top P = r at hr hri'
  have bi : batch P s top g i = top - e := by
    unfold batch
    rw [if_pos ⟨hi, hsi⟩, he0, hr0, if_neg (by omega)]; rfl
  have bt : ∀ j, j < P → s j = top → batch P s top g j = top - e - (if rk s top j < r then 1 else 0) := by
    intro j hj hs
    unfold batch
    rw [if_pos ⟨hj, hs⟩, he0, hr0]
  have bo : ∀ j, j < P → s j ≠ top → batch P s top g j = s j := by
    intro j hj hs
    unfold batch
    rw [if_neg (fun z => hs z.2)]
  have rk1 : ∀ j k, s j = top → j < k → rk s top j < rk s top k := by
    intro j k hs hjk
    have a := fb_ct_yes' s top j hs
    have b := fb_ct_mono (fun q => decide (s q = top)) (show j + 1 ≤ k from hjk)
    unfold rk at *
    omega
  have htal := talS_at (s := batch P s top g) (P := P) (i := i) hi (by rw [bi]; omega)
    (fun j hj => by
      rw [bi]
      by_cases c : s j = top
      · rw [bt j hj c]; omega
      · rw [bo j hj c]
        have := h2 j hj (by have := h1 j hj; omega)
        omega)
    (fun j hj => by
      rw [bi]
      by_cases c : s j = top
      · rw [bt j (by omega) c, if_pos (by have := rk1 j i c hj; omega)]; omega
      · rw [bo j (by omega) c]
        have := h2 j (by omega) (by have := h1 j (by omega); omega)
        omega)
  funext k
  unfold lick1
  rw [htal.1]
  by_cases hk : i + 1 = k + 1
  · have hki : k = i := by omega
    subst hki
    rw [if_pos rfl, bi]
    unfold batch
    rw [if_pos ⟨hi, hsi⟩]
    rcases (show g % rk s top P + 1 < rk s top P ∨ g % rk s top P + 1 = rk s top P by omega) with z | z
    · obtain ⟨d1, d2⟩ := divmod1 hm z
      rw [d1, d2, he0, hr0, if_pos (by omega)]
    · obtain ⟨d1, d2⟩ := divmod2 hm z
      rw [d1, d2, he0, if_neg (by omega)]; omega
  · rw [if_neg hk]
    by_cases c : k < P ∧ s k = top
    · rw [bt k c.1 c.2]
      unfold batch
      rw [if_pos c]
      have hne : rk s top k ≠ r := by
        intro z
        have := fb_ct_kth_one (p := fun q => decide (s q = top)) (i := k) (j := i) (decide_eq_true c.2) hti (by show rk s top k = rk s top i; omega)
        omega
      have hkP := rk1 k P c.2 c.1
      rcases (show g % rk s top P + 1 < rk s top P ∨ g % rk s top P + 1 = rk s top P by omega) with z | z
      · obtain ⟨d1, d2⟩ := divmod1 hm z
        rw [d1, d2, he0, hr0]
        by_cases y : rk s top k < r
        · rw [if_pos y, if_pos (by omega)]
        · rw [if_neg y, if_neg (by omega)]
      · obtain ⟨d1, d2⟩ := divmod2 hm z
        rw [d1, d2, he0, if_pos (by omega), if_neg (by omega)]; omega
    · unfold batch
      rw [if_neg c, if_neg c]
theorem batch_all {P top nxt : Nat} {s : Nat → Nat} (h1 : ∀ j, j < P → s j ≤ top) (hm : 0 < rk s top P) (hn : nxt < top) (h2 : ∀ j, j < P → s j < top → s j ≤ nxt) : ∀ g, g ≤ rk s top P * (top - nxt) → lickI P s g = batch P s top g := by
  intro g
  induction g with
  | zero =>
    intro _
    funext p
    show s p = _
    unfold batch
    by_cases c : p < P ∧ s p = top
    · rw [if_pos c, Nat.zero_div, Nat.zero_mod, if_neg (by omega), c.2]; rfl
    · rw [if_neg c]
  | succ g ih =>
    intro hg
    show lick1 P (lickI P s g) = _
    rw [ih (by omega), batch_step h1 hm hn h2 (by omega)]
/-- how many levels lie below the highest -/
def lowM (P : Nat) (s : Nat → Nat) : Nat := fb_ct (fun p => decide (0 < s p ∧ s p < (talS s P).2)) P
def belS (s : Nat → Nat) (top : Nat) : Nat → Nat
  | 0 => 0
  | k + 1 => if s k < top ∧ belS s top k < s k then s k else belS s top k
theorem belS_spec (s : Nat → Nat) {top : Nat} (h0 : 0 < top) : ∀ P, belS s top P < top ∧ (∀ j, j < P → s j < top → s j ≤ belS s top P) ∧ (belS s top P = 0 ∨ ∃ j, j < P ∧ s j = belS s top P) := by
  intro P
  induction P with
  | zero => exact ⟨h0, fun j hj => absurd hj (Nat.not_lt_zero _), Or.inl rfl⟩
  | succ k ih =>
    obtain ⟨a1, a2, a3⟩ := ih
    have e : belS s top (k + 1) = if s k < top ∧ belS s top k < s k then s k else belS s top k := rfl
    rw [e]
    by_cases c : s k < top ∧ belS s top k < s k
    · rw [if_pos c]
      refine ⟨c.1, fun j hj ht => ?_, Or.inr ⟨k, by omega, rfl⟩⟩
      by_cases z : j = k
      · rw [z]; exact Nat.le_refl _
      · have := a2 j (by omega) ht; omega
    · rw [if_neg c]
      refine ⟨a1, fun j hj ht => ?_, ?_⟩
      · by_cases z : j = k
        · subst z; omega
        · exact a2 j (by omega) ht
      · rcases a3 with z | ⟨j, hj, z⟩
        · exact Or.inl z
        · exact Or.inr ⟨j, by omega, z⟩
theorem rk_pos {P i top : Nat} {s : Nat → Nat} (hi : i < P) (h : s i = top) : 0 < rk s top P := fb_ct_pos.mpr ⟨i, hi, decide_eq_true h⟩
/-- a full batch: all zero then, or fewer levels below -/
theorem full_low {P i : Nat} {s : Nat → Nat} (hi : i < P) (ht : (talS s P).2 = s i) (h0 : 0 < s i) (h1 : ∀ j, j < P → s j ≤ s i) : (∀ p, p < P → batch P s (s i) (rk s (s i) P * (s i - belS s (s i) P)) p = 0) ∨ lowM P (batch P s (s i) (rk s (s i) P * (s i - belS s (s i) P))) < lowM P s := by
  obtain ⟨b1, b2, b3⟩ := belS_spec s h0 P
  have hm := rk_pos hi rfl (s := s)
  have bv : ∀ p, p < P → batch P s (s i) (rk s (s i) P * (s i - belS s (s i) P)) p = if s p = s i then belS s (s i) P else s p := by
    intro p hp
    unfold batch
    by_cases c : s p = s i
    · rw [if_pos ⟨hp, c⟩, if_pos c, Nat.mul_div_cancel_left _ hm, Nat.mul_mod_right, if_neg (by omega)]; omega
    · rw [if_neg (fun z => c z.2), if_neg c]
  rcases b3 with z | ⟨j, hj, z⟩
  · refine Or.inl (fun p hp => ?_)
    rw [bv p hp, z]
    by_cases c : s p = s i
    · rw [if_pos c]
    · rw [if_neg c]
      have := b2 p hp (by have := h1 p hp; omega)
      omega
  · by_cases zz : belS s (s i) P = 0
    · refine Or.inl (fun p hp => ?_)
      rw [bv p hp, zz]
      by_cases c : s p = s i
      · rw [if_pos c]
      · rw [if_neg c]
        have := b2 p hp (by have := h1 p hp; omega)
        omega
    · refine Or.inr ?_
      generalize hb : batch P s (s i) (rk s (s i) P * (s i - belS s (s i) P)) = b at bv
      have hbj : b j = belS s (s i) P := by
        rw [bv j hj, if_neg (by omega), z]
      have hble : ∀ p, p < P → b p ≤ belS s (s i) P := by
        intro p hp
        rw [bv p hp]
        by_cases c : s p = s i
        · rw [if_pos c]; exact Nat.le_refl _
        · rw [if_neg c]; exact b2 p hp (by have := h1 p hp; omega)
      have htop : (talS b P).2 = belS s (s i) P := by
        rcases talS_spec b P with ⟨_, _, h3⟩ | ⟨k, k1, k2, k3, k4, k5, k6⟩
        · have := h3 j hj; omega
        · have e1 := k5 j hj
          have e2 := hble k k1
          omega
      unfold lowM
      rw [htop, ht]
      have hsub : fb_ct (fun p => decide (0 < b p ∧ b p < belS s (s i) P)) P ≤ fb_ct (fun p => if p = j then false else decide (0 < s p ∧ s p < s i)) P := by
        refine fb_ct_sub (fun k hk hd => ?_)
        have hd' := of_decide_eq_true hd
        have e := bv k hk
        by_cases c : k = j
        · subst c; omega
        · rw [if_neg c]
          refine decide_eq_true ?_
          by_cases d : s k = s i
          · rw [if_pos d] at e; omega
          · rw [if_neg d] at e; omega
      have hupd := fb_ct_upd (fun p => decide (0 < s p ∧ s p < s i)) false hj
      have hjt : decide (0 < s j ∧ s j < s i) = true := decide_eq_true ⟨by omega, by omega⟩
      simp only [hjt, if_true] at hupd
      simp only [Bool.false_eq_true, if_false] at hupd
      omega
theorem lowM_le {P : Nat} {s : Nat → Nat} (h : 0 < P) : lowM P s ≤ P - 1 := by
  unfold lowM
  rcases talS_spec s P with ⟨h1, h2, h3⟩ | ⟨i, i1, i2, i3, i4, i5, i6⟩
  · have : fb_ct (fun p => decide (0 < s p ∧ s p < (talS s P).2)) P = 0 := fb_ct_zero.mpr (fun k hk => decide_eq_false (by rw [h2]; omega))
    omega
  · rw [i3]
    have hupd := fb_ct_upd (fun p => decide (0 < s p ∧ s p < s i)) true i1
    have hle := fb_ct_le (fun k => if k = i then true else (fun p => decide (0 < s p ∧ s p < s i)) k) P
    have hit : decide (0 < s i ∧ s i < s i) = false := decide_eq_false (by omega)
    simp only [hit, if_true, Bool.false_eq_true, if_false] at hupd
    simp only at hle
    omega
