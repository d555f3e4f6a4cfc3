/-! L3: TURNED -/
def revF : Nat → Nat → Nat → Nat
  | 0, acc, _ => acc
  | f + 1, acc, r => if r = 0 then acc else revF f (acc * 10 + r % 10) (r / 10)
theorem revF_lt : ∀ (f acc r : Nat), r < 10 ^ f → revF f acc r < (acc + 1) * 10 ^ f := by
  intro f
  induction f with
  | zero => intro acc r _; show acc < (acc + 1) * 1; omega
  | succ f ih =>
    intro acc r h
    show (if r = 0 then acc else revF f (acc * 10 + r % 10) (r / 10)) < _
    by_cases c : r = 0
    · rw [if_pos c]
      have : 0 < 10 ^ (f + 1) := Nat.pow_pos (by omega)
      calc acc < acc + 1 := by omega
        _ ≤ (acc + 1) * 10 ^ (f + 1) := Nat.le_mul_of_pos_right _ this
    · rw [if_neg c]
      have h1 : r / 10 < 10 ^ f := by
        rw [Nat.pow_succ] at h
        exact (Nat.div_lt_iff_lt_mul (by omega)).mpr h
      have := ih (acc * 10 + r % 10) (r / 10) h1
      have h2 : (acc * 10 + r % 10 + 1) * 10 ^ f ≤ ((acc + 1) * 10) * 10 ^ f := Nat.mul_le_mul_right _ (by omega)
      rw [Nat.pow_succ]
      calc revF f (acc * 10 + r % 10) (r / 10) < (acc * 10 + r % 10 + 1) * 10 ^ f := this
        _ ≤ ((acc + 1) * 10) * 10 ^ f := h2
        _ = (acc + 1) * (10 ^ f * 10) := by rw [Nat.mul_assoc, Nat.mul_comm 10]
def revN (v : Nat) : Nat := revF 9 0 v
theorem revN_lt {v : Nat} (h : v ≤ 999999999) : revN v ≤ 999999999 := by
  have := revF_lt 9 0 v (by omega)
  unfold revN; omega
theorem rev_c (μ : Mu) : ∀ (f acc r : Nat), r < 10 ^ f → (acc + 1) * 10 ^ f ≤ 10 ^ 9 → ∀ fu, f < fu → Sm_fromBehind_4 fu (nI acc) (nI r) μ = some (nI (revF f acc r), μ) := by
  intro f
  induction f with
  | zero =>
    intro acc r h _ fu hf
    obtain ⟨m, rfl⟩ : ∃ m, fu = m + 1 := ⟨fu - 1, by omega⟩
    have : r = 0 := by simpa using h
    subst this
    show Sm_fromBehind_4b (Sm_fromBehind_4 m) (nI acc) (nI 0) μ = _
    unfold Sm_fromBehind_4b
    rw [if_pos (by decide)]; rfl
  | succ f ih =>
    intro acc r h h2 fu hf
    obtain ⟨m, rfl⟩ : ∃ m, fu = m + 1 := ⟨fu - 1, by omega⟩
    show Sm_fromBehind_4b (Sm_fromBehind_4 m) (nI acc) (nI r) μ = some (nI (if r = 0 then acc else revF f (acc * 10 + r % 10) (r / 10)), μ)
    unfold Sm_fromBehind_4b
    by_cases c : r = 0
    · subst c; rw [if_pos (by decide), if_pos rfl]
    · have hf9 : f + 1 ≤ 9 := by
        rcases Nat.lt_or_ge 9 (f + 1) with z | z
        · exact absurd h2 (by
            have := Nat.pow_lt_pow_right (a := 10) (by omega) z
            have h3 : 10 ^ (f + 1) ≤ (acc + 1) * 10 ^ (f + 1) := Nat.le_mul_of_pos_left _ (by omega)
            omega)
        · exact z
      have hr9 : r < 10 ^ 9 := Nat.lt_of_lt_of_le h (Nat.pow_le_pow_right (by omega) hf9)
      have ha9 : acc + 1 ≤ 10 ^ 9 := Nat.le_trans (Nat.le_mul_of_pos_right _ (Nat.pow_pos (by omega))) h2
      rw [if_neg (nI_nle (by omega) (by omega)), if_neg c]
      have e1 : nI acc * 10 + jrem (nI r) 10 = nI (acc * 10 + r % 10) := by
        rw [show (10 : Int32) = nI 10 from rfl, jrem_nI (by omega) (by omega) (by omega), pk_mul, nI_add]
      have e2 : nI r / 10 = nI (r / 10) := pk_div (d := 10) (by omega) (by omega) (by omega)
      rw [e1, e2]
      have h1 : r / 10 < 10 ^ f := by
        rw [Nat.pow_succ] at h
        exact (Nat.div_lt_iff_lt_mul (by omega)).mpr h
      refine ih _ _ h1 ?_ m (by omega)
      have h4 : (acc * 10 + r % 10 + 1) * 10 ^ f ≤ ((acc + 1) * 10) * 10 ^ f := Nat.mul_le_mul_right _ (by omega)
      rw [Nat.pow_succ, ← Nat.mul_assoc, Nat.mul_assoc, Nat.mul_comm (10 ^ f) 10, ← Nat.mul_assoc] at h2
      omega
theorem rev_m (μ : Mu) : ∀ (fu : Nat) (acc r : Int32), (Mo_turnedOf_4 59 fu acc r μ) = Sm_fromBehind_4 fu acc r μ := by
  intro fu
  induction fu with
  | zero => intros; rfl
  | succ n ih =>
    intro acc r
    show Mo_turnedOf_4b 59 (Mo_turnedOf_4 59 n) acc r μ = Sm_fromBehind_4b (Sm_fromBehind_4 n) acc r μ
    unfold Mo_turnedOf_4b Sm_fromBehind_4b
    rw [ih, Int32.mul_comm]
theorem rev_both (μ : Mu) {v : Nat} (h : v ≤ 999999999) : Sm_fromBehind (nI v) μ = some (nI (revN v), μ) ∧ Mo_turnedOf 59 (nI v) μ = some (nI (revN v), μ) := by
  have := rev_c μ 9 0 v (by omega) (by omega) FU (by have := FU_big; omega)
  refine ⟨this, ?_⟩
  unfold Mo_turnedOf
  rw [rev_m]; exact this
theorem bg9 : (999999999 : Int32) = nI 999999999 := rfl
theorem turned_K (b : Nat) (μ ν : Mu) : ∀ d k x, k + d = 21 → x ≤ 999999999 → ∀ f1 f2, d < f1 → d < f2 → Same (Sm_turnAbout_4 (nI b) f1 (nI x) (nI k) μ) (Mo_turned_34 59 (nI b) f2 (nI x) (nI k) ν) := by
  intro d
  induction d with
  | zero =>
    intro k x hk hx f1 f2 h1 h2
    obtain ⟨m1, rfl⟩ : ∃ m, f1 = m + 1 := ⟨f1 - 1, by omega⟩
    obtain ⟨m2, rfl⟩ : ∃ m, f2 = m + 1 := ⟨f2 - 1, by omega⟩
    have : k = 21 := by omega
    subst this
    show Same (Sm_turnAbout_4b (Sm_turnAbout_4 (nI b) m1) (nI b) (nI x) (nI 21) μ) (Mo_turned_34b 59 (Mo_turned_34 59 (nI b) m2) (nI b) (nI x) (nI 21) ν)
    unfold Sm_turnAbout_4b Mo_turned_34b
    rw [if_pos (by decide), if_pos (by decide)]; exact same_i rfl rfl
  | succ d ih =>
    intro k x hk hx f1 f2 h1 h2
    obtain ⟨m1, rfl⟩ : ∃ m, f1 = m + 1 := ⟨f1 - 1, by omega⟩
    obtain ⟨m2, rfl⟩ : ∃ m, f2 = m + 1 := ⟨f2 - 1, by omega⟩
    show Same (Sm_turnAbout_4b (Sm_turnAbout_4 (nI b) m1) (nI b) (nI x) (nI k) μ) (Mo_turned_34b 59 (Mo_turned_34 59 (nI b) m2) (nI b) (nI x) (nI k) ν)
    obtain ⟨r1, -⟩ := rev_both μ hx
    obtain ⟨-, r2⟩ := rev_both ν hx
    have hr := revN_lt hx
    unfold Sm_turnAbout_4b Mo_turned_34b
    rw [bg9, if_neg (show ¬ (20 : Int32) < nI k from nI_nlt (a := 20) (by omega) (by omega)), if_neg (nI_nlt hx (by omega)), r1, cl_eq, if_neg (show ¬ (21 : Int32) ≤ nI k from nI_ge (b := 21) (by omega) (by omega)), r2, cl_eq]
    by_cases c : nI (revN x) = nI x
    · rw [if_pos c, if_pos c]
      by_cases c5 : nI b = 0
      · rw [if_pos c5, if_pos c5]; exact same_i rfl rfl
      · rw [if_neg c5, if_neg c5]; exact same_i rfl rfl
    · rw [if_neg c, if_neg c, r2, cl_eq, r2, cl_eq, nI_1, nI_add, pk_sub hx]
      by_cases c6 : revN x ≤ 999999999 - x
      · rw [if_pos (nI_le c6 (by omega))]
        exact ih (k + 1) (x + revN x) (by omega) (by omega) m1 m2 (by omega) (by omega)
      · rw [if_neg (nI_ge (by omega) (by omega))]
        obtain ⟨m3, rfl⟩ : ∃ m, m1 = m + 1 := ⟨m1 - 1, by omega⟩
        show Same (Sm_turnAbout_4b (Sm_turnAbout_4 (nI b) m3) (nI b) (nI (x + revN x)) (nI (k + 1)) μ) _
        unfold Sm_turnAbout_4b
        rw [bg9]
        by_cases c7 : (20 : Int32) < nI (k + 1)
        · rw [if_pos c7]; exact same_i rfl rfl
        · rw [if_neg c7, if_pos (nI_lt (show 999999999 < x + revN x by omega) (by omega))]; exact same_i rfl rfl
theorem th_turned (μ ν : Mu) (n w : Int32) : Same (Sf_turned 0 n w μ) (Mo_turned 59 n w ν) := by
  unfold Sf_turned Mo_turned
  rw [within_eq, pF_eq, isIn_eq, cl_eq, cl_eq]
  by_cases c1 : n < 0 ∨ 99999 < n
  · rw [if_pos c1, if_pos rfl, if_pos rfl]; exact same_i rfl rfl
  rw [if_neg c1, if_neg (show ¬ (1 : Int32) = 0 by decide), if_neg (show ¬ (1 : Int32) = 0 by decide), within_eq, isIn_eq, cl_eq, cl_eq]
  by_cases c2 : w < 0 ∨ 1 < w
  · rw [if_pos c2, if_pos rfl, if_pos rfl]; exact same_i rfl rfl
  rw [if_neg c2, if_neg (show ¬ (1 : Int32) = 0 by decide), if_neg (show ¬ (1 : Int32) = 0 by decide)]
  obtain ⟨a, a1, a2, rfl⟩ := nI_rng (lo := 0) (n := 99999) (by omega) (by omega) (fun z => c1 (Or.inl z)) (fun z => c1 (Or.inr z))
  obtain ⟨b, b1, b2, rfl⟩ := nI_rng (lo := 0) (n := 1) (by omega) (by omega) (fun z => c2 (Or.inl z)) (fun z => c2 (Or.inr z))
  have hb : (if nI b = 1 then Sf_turned_31 0 1 (nI a) μ else Sf_turned_31 0 0 (nI a) μ) = Sf_turned_31 0 (nI b) (nI a) μ := by
    rcases (show b = 0 ∨ b = 1 by omega) with rfl | rfl
    · rw [if_neg (by decide)]; rfl
    · rw [if_pos (by decide)]; rfl
  have hc : ∀ o : Option (Int32 × Mu), cl o (fun x2 μ1 => some (x2, μ1)) = o := fun o => by cases o <;> rfl
  rw [hb]
  unfold Sf_turned_31
  rw [hc]
  unfold Sm_turnAbout
  exact turned_K b μ (up2 ν 59 0 0) 21 0 a rfl (by omega) FU FU (by have := FU_big; omega) (by have := FU_big; omega)
