/-! L3: LIGHT -/
theorem meas_c (μ : Mu) (a b : Nat) (ha : a < 2 ^ 31) (hb : b ≤ 60) : Sm_measure (nI a) (nI b) μ = some (nI (Nat.gcd b a), μ) := by
  unfold Sm_measure
  rw [Nat.gcd_comm]
  exact measure_c μ b a 0 FU ha (by omega) (by omega) (by have := FU_big; omega)
theorem comm_m (μ : Mu) (a b : Nat) (ha : a < 2 ^ 31) (hb : b ≤ 60) : Mo_common 59 (nI a) (nI b) μ = some (nI (Nat.gcd b a), μ) := by
  unfold Mo_common
  rw [Nat.gcd_comm]
  exact common_m μ b a FU ha (by omega) (by have := FU_big; omega)
theorem lit_both {μ ν : Mu} {xs hs : List Int32} (hx : RwC μ 33 8 1 99 xs) (hh : RwC μ 35 8 1 60 hs) (mx : RwM ν 59 58 93 8 xs) (mh : RwM ν 59 58 94 8 hs) (hl : hs.length = xs.length) (h : Int32) {p : Nat} (hp : p < xs.length) : ∃ r, Th_isLit 45 18 h (nI p) μ = some (r, μ) ∧ Mo_isLit 59 h (nI p) ν = some (r, ν) := by
  have l8 : xs.length ≤ 8 := hx.2.2.2.1
  obtain ⟨m0, -, -, vx⟩ := id mx
  obtain ⟨-, -, -, vh⟩ := id mh
  unfold Th_isLit Mo_isLit
  simp only [Nat.reduceAdd]
  rw [rw_at hx p hp, cl_eq]
  unfold Th_isLit_15 Mo_isLit_2
  refine lp2_fu (F := fun kb => Th_isLit_15b 45 18 kb h (nI p) (xs.getD p 0)) (G := fun kb => Mo_isLit_2b 59 kb h (nI p)) (z := fun _ _ => none) (w := fun _ _ => none) xs.length (fun k A B => ∃ r, A (nI k) μ = some (r, μ) ∧ B (nI k) ν = some (r, ν)) (by omega) ?_ ?_ 0 (by omega)
  · intro A B
    show ∃ r, Th_isLit_15b 45 18 A h (nI p) (xs.getD p 0) (nI xs.length) μ = some (r, μ) ∧ Mo_isLit_2b 59 B h (nI p) (nI xs.length) ν = some (r, ν)
    unfold Th_isLit_15b Mo_isLit_2b
    simp only [Nat.reduceAdd]
    rw [gF_eq, gF_eq, hx.2.2.1, m0, if_pos (nI_le (Nat.le_refl _) (by omega)), if_pos (nI_le (Nat.le_refl _) (by omega))]
    exact ⟨1, rfl, rfl⟩
  · rintro k A B hk ⟨r, e1, e2⟩
    show ∃ r, Th_isLit_15b 45 18 A h (nI p) (xs.getD p 0) (nI k) μ = some (r, μ) ∧ Mo_isLit_2b 59 B h (nI p) (nI k) ν = some (r, ν)
    have skip : Th_isLit_106 45 18 A h (nI p) (xs.getD p 0) (nI k) μ = some (r, μ) ∧ Mo_isLit_50 59 B h (nI p) (nI k) 0 ν = some (r, ν) := by
      unfold Th_isLit_106 Mo_isLit_50 Mo_isLit_99
      rw [show nI k + 1 = nI (k + 1) from nI_add k 1, if_pos rfl]
      exact ⟨e1, e2⟩
    have chk : ∃ r, Th_isLit_62 45 18 A h (nI p) (xs.getD p 0) (nI k) (xs.getD k 0) μ = some (r, μ) ∧ Mo_isLit_50 59 B h (nI p) (nI k) 1 ν = some (r, ν) := by
      have hs1 := skip.1
      unfold Th_isLit_62 Mo_isLit_50
      simp only [Nat.reduceAdd]
      rw [if_neg (show ¬ (1 : Int32) = 0 by decide), rw_at hh k (by omega), cl_eq, rw_at hh p (by omega), cl_eq, ldA_nI (by omega) (by omega), ldA_nI (by omega) (by omega), ldA_nI (by omega) (by omega), ldA_nI (by omega) (by omega), ldA_nI (by omega) (by omega), vx k hk, vx p hp, vh k (by omega), vh p (by omega)]
      by_cases c : h * xs.getD k 0 - xs.getD p 0 * (h - hs.getD k 0) < hs.getD p 0 * xs.getD k 0
      · rw [if_pos c, if_pos c]
        refine ⟨r, hs1, ?_⟩
        unfold Mo_isLit_99
        rw [show nI k + 1 = nI (k + 1) from nI_add k 1]; exact e2
      · rw [if_neg c, if_neg c]; exact ⟨0, rfl, rfl⟩
    unfold Th_isLit_15b Mo_isLit_2b Mo_isLit_45 Mo_isLit_49
    simp only [Nat.reduceAdd]
    rw [gF_eq, gF_eq, hx.2.2.1, m0, if_neg (nI_ge hk (by omega)), if_neg (nI_ge hk (by omega)), rw_at hx k hk, cl_eq, ldA_nI (by omega) (by omega), ldA_nI (by omega) (by omega), ldA_nI (by omega) (by omega), ldA_nI (by omega) (by omega), vx k hk, vx p hp]
    by_cases c1 : xs.getD k 0 < xs.getD p 0
    · rw [if_pos c1, if_pos c1]; exact chk
    · rw [if_neg c1, if_neg c1]
      by_cases c2 : xs.getD k 0 = xs.getD p 0
      · rw [if_pos c2, if_pos c2]
        by_cases c3 : nI p ≤ nI k
        · rw [if_pos c3, if_pos c3]; exact ⟨r, skip⟩
        · rw [if_neg c3, if_neg c3]; exact chk
      · rw [if_neg c2, if_neg c2]; exact ⟨r, skip⟩
theorem th_light {μ ν : Mu} {xs hs : List Int32} (hx : RwC μ 33 8 1 99 xs) (hh : RwC μ 35 8 1 60 hs) (mx : RwM ν 59 58 93 8 xs) (mh : RwM ν 59 58 94 8 hs) (ox : RwOk 1 99 xs) (oh : RwOk 1 60 hs) (hl : hs.length = xs.length) (h v w : Int32) : Same (Sf_light 0 h v w μ) (Mo_light 59 h v w ν) := by
  have l8 : xs.length ≤ 8 := hx.2.2.2.1
  unfold Sf_light Mo_light
  rw [pF_eq]
  have mx1 : RwM (up2 ν 59 0 0) 59 58 93 8 xs := rwM_congr (up2_off (Or.inr (by omega))) (up2_ne (by omega)) mx
  have mh1 : RwM (up2 ν 59 0 0) 59 58 94 8 hs := rwM_congr (up2_off (Or.inr (by omega))) (up2_ne (by omega)) mh
  generalize up2 ν 59 0 0 = ν1 at mx1 mh1
  obtain ⟨m0, -, -, vx⟩ := id mx1
  obtain ⟨-, -, -, vh⟩ := id mh1
  simp only [Nat.reduceAdd]
  rw [within_eq, cl_eq, isIn_eq, cl_eq]
  by_cases c1 : h < 1 ∨ 60 < h
  · rw [if_pos c1, if_pos rfl, if_pos rfl]; exact same_i rfl rfl
  rw [if_neg c1, if_neg (show ¬ (1 : Int32) = 0 by decide), if_neg (show ¬ (1 : Int32) = 0 by decide), within_eq, cl_eq, isIn_eq, cl_eq]
  by_cases c2 : w < 0 ∨ 2 < w
  · rw [if_pos c2, if_pos rfl, if_pos rfl]; exact same_i rfl rfl
  rw [if_neg c2, if_neg (show ¬ (1 : Int32) = 0 by decide), if_neg (show ¬ (1 : Int32) = 0 by decide)]
  obtain ⟨a, a1, a2, rfl⟩ := nI_rng (lo := 1) (n := 60) (by omega) (by omega) (fun z => c1 (Or.inl z)) (fun z => c1 (Or.inr z))
  obtain ⟨k, k1, k2, rfl⟩ := nI_rng (lo := 0) (n := 2) (by omega) (by omega) (fun z => c2 (Or.inl z)) (fun z => c2 (Or.inr z))
  by_cases c3 : k = 2
  · subst c3
    rw [if_pos (show nI 2 = 2 by decide), if_pos (show (2 : Int32) ≤ nI 2 by decide)]
    unfold Mo_light_49
    rw [if_pos (show nI 2 = 2 by decide)]
    have hc : ∀ o : Option (Int32 × Mu), cl o (fun x2 μ1 => some (x2, μ1)) = o := fun o => by cases o <;> rfl
    rw [hc]
    unfold Th_litPosts Th_litPosts_4 Mo_light_60
    refine lp2_fu (F := fun kb => Th_litPosts_4b 45 18 kb (nI a)) (G := fun kb => Mo_light_60b 59 kb (nI a)) (z := fun _ _ _ => none) (w := fun _ _ _ => none) xs.length (fun k A B => ∀ c, Same (A c (nI k) μ) (B c (nI k) ν1)) (by omega) ?_ ?_ 0 (by omega) 0
    · intro A B c
      show Same (Th_litPosts_4b 45 18 A (nI a) c (nI xs.length) μ) (Mo_light_60b 59 B (nI a) c (nI xs.length) ν1)
      unfold Th_litPosts_4b Mo_light_60b
      simp only [Nat.reduceAdd]
      rw [gF_eq, gF_eq, hx.2.2.1, m0, if_pos (nI_le (Nat.le_refl _) (by omega)), if_pos (nI_le (Nat.le_refl _) (by omega))]
      exact same_i rfl rfl
    · intro j A B hj ih c
      show Same (Th_litPosts_4b 45 18 A (nI a) c (nI j) μ) (Mo_light_60b 59 B (nI a) c (nI j) ν1)
      unfold Th_litPosts_4b Mo_light_60b Th_litPosts_30 Mo_light_85
      simp only [Nat.reduceAdd]
      obtain ⟨r, e1, e2⟩ := lit_both hx hh mx1 mh1 hl (nI a) hj
      rw [gF_eq, gF_eq, hx.2.2.1, m0, if_neg (nI_ge hj (by omega)), if_neg (nI_ge hj (by omega)), e1, cl_eq, e2, cl_eq, show nI j + 1 = nI (j + 1) from nI_add j 1]
      by_cases d : r = 0
      · rw [if_pos d, if_pos d]; exact ih _
      · rw [if_neg d, if_neg d]; exact ih _
  have k01 : k = 0 ∨ k = 1 := by omega
  rw [if_neg (fun z : nI k = 2 => c3 (by have := (nI_eq (b := 2) (by omega) (by omega)).mp z; omega)), if_neg (show ¬ (2 : Int32) ≤ nI k by rw [li_le (by omega) (by omega)]; exact Nat.not_le.mpr (by omega)), rw_has hx v, cl_eq, gF_eq, m0, isIn_eq, cl_eq]
  have hin : ∀ v : Int32, (v < 0 ∨ nI xs.length ≤ v) ↔ (v < 0 ∨ nI xs.length - 1 < v) := by
    intro v
    rw [fa_lt, fa_le, fa_lt, nI_toInt (by omega)]
    have : (nI xs.length - 1).toInt = (xs.length : Int) - 1 := pk_sub_toInt (b := 1) (by omega) (by omega)
    rw [this, show (0 : Int32).toInt = 0 by decide]
    omega
  by_cases c4 : v < 0 ∨ nI xs.length ≤ v
  · rw [if_pos c4, if_pos rfl, if_pos ((hin v).mp c4), if_pos rfl]; exact same_i rfl rfl
  rw [if_neg c4, if_neg (show ¬ (1 : Int32) = 0 by decide), if_neg (fun z => c4 ((hin v).mpr z)), if_neg (show ¬ (1 : Int32) = 0 by decide)]
  obtain ⟨p, hp, rfl⟩ : ∃ j, j < xs.length ∧ v = nI j := by
    rcases pk_ix v (n := xs.length) (by omega) with z | z | z
    · exact absurd (Or.inl z) c4
    · exact absurd (Or.inr z) c4
    · exact z
  have gx : xs.getD p 0 ∈ xs := by rw [List.getD_eq_getElem?_getD, List.getElem?_eq_getElem hp]; exact List.getElem_mem hp
  have gh : hs.getD p 0 ∈ hs := by rw [List.getD_eq_getElem?_getD, List.getElem?_eq_getElem (show p < hs.length by omega)]; exact List.getElem_mem _
  obtain ⟨x, x1, x2, ex⟩ := nI_rng (lo := 1) (n := 99) (by omega) (by omega) (ox _ gx).1 (ox _ gx).2
  obtain ⟨b, b1, b2, eb⟩ := nI_rng (lo := 1) (n := 60) (by omega) (by omega) (oh _ gh).1 (oh _ gh).2
  have hax : a * x ≤ 60 * 99 := Nat.mul_le_mul a2 x2
  have key : ∀ u : Nat, u ≤ 1 → Same (Sf_light_69 0 (nI u) (nI p) (nI a) μ) (Mo_light_49 59 (nI a) (nI p) (nI u) ν1) := by
    intro u hu
    unfold Sf_light_69 Mo_light_49 Th_rayEnd
    have hc : ∀ o : Option (Int32 × Mu), cl o (fun x2 μ1 => some (x2, μ1)) = o := fun o => by cases o <;> rfl
    rw [hc]
    simp only [Nat.reduceAdd]
    rw [if_neg (fun z : nI u = 2 => by have := (nI_eq (b := 2) (by omega) (by omega)).mp z; omega), rw_at hh p (by omega), cl_eq, ldA_nI (by omega) (by omega), vh p (by omega), eb]
    by_cases c : b < a
    · rw [pk_sub (by omega), if_pos (show (0 : Int32) < nI (a - b) by rw [li_lt (by omega) (by omega)]; exact (by omega : 0 < a - b)), if_pos (nI_lt c (by omega)), rw_at hx p hp, cl_eq, ldA_nI (by omega) (by omega), ldA_nI (by omega) (by omega), vx p hp, vh p (by omega), ex, eb, pk_sub (by omega), pk_mul, comm_m ν1 (a * x) (a - b) (by omega) (by omega), cl_eq]
      have hg : 0 < Nat.gcd (a - b) (a * x) := Nat.gcd_pos_of_pos_left _ (by omega)
      have hg2 : Nat.gcd (a - b) (a * x) ≤ a - b := Nat.gcd_le_left _ (by omega)
      have hm : jmax 1 (nI (Nat.gcd (a - b) (a * x))) = nI (Nat.gcd (a - b) (a * x)) := by
        unfold jmax
        by_cases q : 1 < Nat.gcd (a - b) (a * x)
        · rw [if_pos (show (1 : Int32) < nI _ from nI_lt (a := 1) q (by omega))]
        · rw [show Nat.gcd (a - b) (a * x) = 1 by omega]; rfl
      have hz : ¬ nI (Nat.gcd (a - b) (a * x)) = 0 := fun z => by
        have := (nI_eq (b := 0) (by omega) (by omega)).mp (z.trans (nI_0.symm)); omega
      have c56 : ∀ s0, Th_rayEnd_56 45 18 (nI (a - b)) (nI (a * x)) s0 μ = some (s0 / nI (Nat.gcd (a - b) (a * x)), μ) := by
        intro s0
        unfold Th_rayEnd_56
        rw [meas_c μ (a * x) (a - b) (by omega) (by omega), cl_eq, hm, nz_eq hz]
      rw [c56, c56]
      by_cases d : nI u = 0
      · rw [if_pos d, if_pos d, ldA_nI (by omega) (by omega), vx p hp, ex, nz_eq hz, pk_mul]; exact same_i rfl rfl
      · rw [if_neg d, if_neg d, ldA_nI (by omega) (by omega), vh p (by omega), eb, nz_eq hz, pk_sub (by omega)]; exact same_i rfl rfl
    · have hneg : ¬ (0 : Int32) < nI a - nI b := by
        rw [fa_lt, pk_sub_toInt (by omega) (by omega), show (0 : Int32).toInt = 0 by decide]; omega
      rw [if_neg hneg, if_neg (nI_nlt (by omega) (by omega))]
      rcases (show u = 0 ∨ u = 1 by omega) with rfl | rfl
      · exact same_i rfl rfl
      · exact same_i rfl rfl
  rcases k01 with rfl | rfl
  · rw [if_neg (show ¬ nI 0 = 1 by decide)]; exact key 0 (by omega)
  · rw [if_pos (show nI 1 = 1 by decide)]; exact key 1 (by omega)
