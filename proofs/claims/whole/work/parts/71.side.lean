/-! L3: LEFT's side -/
def sgn3 (v : Int32) : Int32 := if v ≤ 0 then (if 0 ≤ v then 0 else -1) else 1
theorem sg_l (x : Int32) {i : Nat} (hi : i < 32) : (jshr x 31).toBitVec.getLsbD i = x.toBitVec.getLsbD 31 := by
  unfold jshr
  rw [Int32.toBitVec_shiftRight]
  show (x.toBitVec.sshiftRight (((31 : Int32) &&& 31).toBitVec.smod 32).toNat).getLsbD i = _
  rw [show (((31 : Int32) &&& 31).toBitVec.smod 32).toNat = 31 by decide +kernel, BitVec.getLsbD_sshiftRight, BitVec.msb_eq_getLsbD_last]
  by_cases c : i = 0
  · subst c; simp
  · rw [if_neg (by omega)]; simp [hi]
theorem sg_r (x : Int32) (i : Nat) : (jushr x 31).toBitVec.getLsbD i = x.toBitVec.getLsbD (31 + i) := by
  unfold jushr
  show (x.toUInt32 >>> ((31 : Int32).toUInt32 &&& Int32.toUInt32 31)).toBitVec.getLsbD i = x.toUInt32.toBitVec.getLsbD (31 + i)
  rw [UInt32.toBitVec_shiftRight]
  show (x.toUInt32.toBitVec >>> (((31 : Int32).toUInt32 &&& Int32.toUInt32 31).toBitVec % 32).toNat).getLsbD i = _
  rw [show (((31 : Int32).toUInt32 &&& Int32.toUInt32 31).toBitVec % 32).toNat = 31 by decide +kernel, BitVec.getLsbD_ushiftRight]
theorem sg_b (x : Int32) : x.toBitVec.getLsbD 31 = decide (x.toInt < 0) := by
  have : x.toBitVec.msb = x.toBitVec.getLsbD 31 := BitVec.msb_eq_getLsbD_last _
  rw [← this, BitVec.msb_eq_toInt]
  rfl
theorem signum_c {v : Int32} {μ : Mu} (h1 : -80000 ≤ v.toInt) (h2 : v.toInt ≤ 80000) : Jn_signum v μ = some (sgn3 v, μ) := by
  have hb : ∀ i, i < 32 → (jshr v 31 ||| jushr (-v) 31).toBitVec.getLsbD i = (decide (v.toInt < 0) || (decide (i = 0) && decide (0 < v.toInt))) := by
    intro i hi
    rw [Int32.toBitVec_or, BitVec.getLsbD_or, sg_l v hi, sg_r, sg_b]
    congr 1
    by_cases c : i = 0
    · subst c
      have hn : (-v).toInt = -v.toInt := by
        have z0 : (0 : Int32).toInt = 0 := by decide
        have e : -v = 0 - v := by grind
        rw [e, fb_subI (by omega) (by omega), z0]
        omega
      rw [show 31 + 0 = 31 from rfl, sg_b, hn]
      simp only [decide_true, Bool.true_and]
      congr 1
      exact propext (by omega)
    · rw [BitVec.getLsbD_of_ge _ _ (by omega), decide_eq_false c, Bool.false_and]
  have hE : ∀ w : Int32, (∀ i, i < 32 → w.toBitVec.getLsbD i = (decide (v.toInt < 0) || (decide (i = 0) && decide (0 < v.toInt)))) → jshr v 31 ||| jushr (-v) 31 = w := fun w hw => Int32.toBitVec_inj.mp (BitVec.eq_of_getLsbD_eq (fun i hi => by rw [hb i hi, hw i hi]))
  unfold Jn_signum sgn3
  refine congrArg (fun t => some (t, μ)) (hE _ (fun i hi => ?_))
  have z0 : (0 : Int32).toInt = 0 := by decide
  by_cases d1 : v ≤ 0
  · rw [if_pos d1]
    rw [fa_le, z0] at d1
    by_cases d2 : 0 ≤ v
    · rw [if_pos d2]
      rw [fa_le, z0] at d2
      rw [decide_eq_false (show ¬ v.toInt < 0 by omega), decide_eq_false (show ¬ 0 < v.toInt by omega), Bool.and_false]
      exact BitVec.getLsbD_zero
    · rw [if_neg d2]
      rw [fa_le, z0] at d2
      rw [decide_eq_true (show v.toInt < 0 by omega), Bool.true_or]
      exact (by decide +kernel : ∀ i, i < 32 → (-1 : Int32).toBitVec.getLsbD i = true) i hi
  · rw [if_neg d1]
    rw [fa_le, z0] at d1
    rw [decide_eq_false (show ¬ v.toInt < 0 by omega), decide_eq_true (show 0 < v.toInt by omega), Bool.false_or, Bool.and_true]
    exact (by decide +kernel : ∀ i, i < 32 → (1 : Int32).toBitVec.getLsbD i = decide (i = 0)) i hi
theorem rwok_int {lo hi : Int32} {l : List Int32} (h : RwOk lo hi l) {j : Nat} (hj : j < l.length) : lo.toInt ≤ (l.getD j 0).toInt ∧ (l.getD j 0).toInt ≤ hi.toInt := by
  have hm : l.getD j 0 ∈ l := by rw [List.getD_eq_getElem?_getD, List.getElem?_eq_getElem hj]; exact List.getElem_mem hj
  obtain ⟨a, b⟩ := h _ hm
  rw [fa_lt] at a b
  omega
theorem mul_le198 {a b : Int} (a1 : -198 ≤ a) (a2 : a ≤ 198) (b1 : -198 ≤ b) (b2 : b ≤ 198) : -39204 ≤ a * b ∧ a * b ≤ 39204 := by
  have h1 : (198 - a) * (198 - b) ≥ 0 := Int.mul_nonneg (by omega) (by omega)
  have h2 : (198 + a) * (198 + b) ≥ 0 := Int.mul_nonneg (by omega) (by omega)
  have h3 : (198 - a) * (198 + b) ≥ 0 := Int.mul_nonneg (by omega) (by omega)
  have h4 : (198 + a) * (198 - b) ≥ 0 := Int.mul_nonneg (by omega) (by omega)
  have e1 : (198 - a) * (198 - b) = 39204 - 198 * a - 198 * b + a * b := by grind
  have e2 : (198 + a) * (198 + b) = 39204 + 198 * a + 198 * b + a * b := by grind
  have e3 : (198 - a) * (198 + b) = 39204 - 198 * a + 198 * b - a * b := by grind
  have e4 : (198 + a) * (198 - b) = 39204 + 198 * a - 198 * b - a * b := by grind
  omega
/-- twice an area of points of told coordinates -/
def crI (X Y : Nat → Int) (a b p : Nat) : Int := (X b - X a) * (Y p - Y a) - (Y b - Y a) * (X p - X a)
def toI (l : List Int32) (j : Nat) : Int := (l.getD j 0).toInt
theorem cr_toInt {xs ys : List Int32} (hx : RwOk (-99) 99 xs) (hy : RwOk (-99) 99 ys) (hl : ys.length = xs.length) {a b p : Nat} (ha : a < xs.length) (hb : b < xs.length) (hp : p < xs.length) : ((xs.getD b 0 - xs.getD a 0) * (ys.getD p 0 - ys.getD a 0) - (ys.getD b 0 - ys.getD a 0) * (xs.getD p 0 - xs.getD a 0)).toInt = crI (toI xs) (toI ys) a b p ∧ -78408 ≤ crI (toI xs) (toI ys) a b p ∧ crI (toI xs) (toI ys) a b p ≤ 78408 := by
  have n99 : (-99 : Int32).toInt = -99 := by decide
  have p99 : (99 : Int32).toInt = 99 := by decide
  have xa := rwok_int hx ha
  have xb := rwok_int hx hb
  have xp := rwok_int hx hp
  have ya := rwok_int hy (j := a) (by omega)
  have yb := rwok_int hy (j := b) (by omega)
  have yp := rwok_int hy (j := p) (by omega)
  rw [n99, p99] at xa xb xp ya yb yp
  unfold crI toI
  generalize xs.getD a 0 = A at *
  generalize xs.getD b 0 = B at *
  generalize xs.getD p 0 = C at *
  generalize ys.getD a 0 = D at *
  generalize ys.getD b 0 = E at *
  generalize ys.getD p 0 = G at *
  have e1 : (B - A).toInt = B.toInt - A.toInt := fb_subI (by omega) (by omega)
  have e2 : (G - D).toInt = G.toInt - D.toInt := fb_subI (by omega) (by omega)
  have e3 : (E - D).toInt = E.toInt - D.toInt := fb_subI (by omega) (by omega)
  have e4 : (C - A).toInt = C.toInt - A.toInt := fb_subI (by omega) (by omega)
  have m1 := mul_le198 (a := B.toInt - A.toInt) (b := G.toInt - D.toInt) (by omega) (by omega) (by omega) (by omega)
  have m2 := mul_le198 (a := E.toInt - D.toInt) (b := C.toInt - A.toInt) (by omega) (by omega) (by omega) (by omega)
  have f1 : ((B - A) * (G - D)).toInt = (B.toInt - A.toInt) * (G.toInt - D.toInt) := by rw [fb_mulI (by rw [e1, e2]; omega) (by rw [e1, e2]; omega), e1, e2]
  have f2 : ((E - D) * (C - A)).toInt = (E.toInt - D.toInt) * (C.toInt - A.toInt) := by rw [fb_mulI (by rw [e3, e4]; omega) (by rw [e3, e4]; omega), e3, e4]
  rw [fb_subI (by rw [f1, f2]; omega) (by rw [f1, f2]; omega), f1, f2]
  exact ⟨rfl, by omega, by omega⟩
theorem turn_c {μ : Mu} {xs ys : List Int32} (hx : RwC μ 19 8 (-99) 99 xs) (hy : RwC μ 21 8 (-99) 99 ys) (hl : ys.length = xs.length) {a b p : Nat} (ha : a < xs.length) (hb : b < xs.length) (hp : p < xs.length) : Th_turn 45 18 (nI a) (nI b) (nI p) μ = some ((xs.getD b 0 - xs.getD a 0) * (ys.getD p 0 - ys.getD a 0) - (ys.getD b 0 - ys.getD a 0) * (xs.getD p 0 - xs.getD a 0), μ) := by
  unfold Th_turn
  simp only [Nat.reduceAdd]
  rw [rw_at hx a ha, cl_eq, rw_at hy a (by omega), cl_eq, rw_at hx b hb, cl_eq, rw_at hy p (by omega), cl_eq, rw_at hy b (by omega), cl_eq, rw_at hx p hp, cl_eq]
theorem area_m {ν : Mu} {xs ys : List Int32} (hx : RwM ν 59 42 81 8 xs) (hy : RwM ν 59 42 82 8 ys) {a b p : Nat} (ha : a < xs.length) (hb : b < xs.length) (hp : p < xs.length) (hl : ys.length = xs.length) : Mo_areaOf 59 (nI a) (nI b) (nI p) ν = some ((xs.getD b 0 - xs.getD a 0) * (ys.getD p 0 - ys.getD a 0) - (ys.getD b 0 - ys.getD a 0) * (xs.getD p 0 - xs.getD a 0), ν) := by
  obtain ⟨-, l8, -, vx⟩ := hx
  obtain ⟨-, -, -, vy⟩ := hy
  unfold Mo_areaOf
  simp only [Nat.reduceAdd]
  rw [ldA_nI (by omega) (by omega), ldA_nI (by omega) (by omega), ldA_nI (by omega) (by omega), ldA_nI (by omega) (by omega), ldA_nI (by omega) (by omega), ldA_nI (by omega) (by omega), ldA_nI (by omega) (by omega), ldA_nI (by omega) (by omega), vx a ha, vx b hb, vx p hp, vy a (by omega), vy b (by omega), vy p (by omega)]
theorem th_side {μ ν : Mu} {xs ys : List Int32} (hx : RwC μ 19 8 (-99) 99 xs) (hy : RwC μ 21 8 (-99) 99 ys) (mx : RwM ν 59 42 81 8 xs) (my : RwM ν 59 42 82 8 ys) (ox : RwOk (-99) 99 xs) (oy : RwOk (-99) 99 ys) (hl : ys.length = xs.length) (a b p : Int32) : Same (Sf_side 0 a b p μ) (Mo_side 59 a b p ν) := by
  have l8 : xs.length ≤ 8 := hx.2.2.2.1
  unfold Sf_side Mo_side
  rw [pF_eq]
  have mx1 : RwM (up2 ν 59 0 0) 59 42 81 8 xs := rwM_congr (up2_off (Or.inr (by omega))) (up2_ne (by omega)) mx
  have my1 : RwM (up2 ν 59 0 0) 59 42 82 8 ys := rwM_congr (up2_off (Or.inr (by omega))) (up2_ne (by omega)) my
  generalize up2 ν 59 0 0 = ν1 at mx1 my1
  simp only [Nat.reduceAdd]
  -- in the class: below 0 or the size at least; in the reference: below 0 or above the size less 1
  have hin : ∀ v : Int32, (v < 0 ∨ nI xs.length ≤ v) ↔ (v < 0 ∨ nI xs.length - 1 < v) := by
    intro v
    rw [fa_lt, fa_le, fa_lt, nI_toInt (by omega)]
    have : (nI xs.length - 1).toInt = (xs.length : Int) - 1 := pk_sub_toInt (b := 1) (by omega) (by omega)
    rw [this, show (0 : Int32).toInt = 0 by decide]
    omega
  have hix : ∀ v : Int32, ¬ (v < 0 ∨ nI xs.length ≤ v) → ∃ j, j < xs.length ∧ v = nI j := by
    intro v hv
    rcases pk_ix v (n := xs.length) (by omega) with h | h | h
    · exact absurd (Or.inl h) hv
    · exact absurd (Or.inr h) hv
    · exact h
  rw [rw_has hx a, cl_eq, gF_eq, mx1.1, isIn_eq, cl_eq]
  by_cases c1 : a < 0 ∨ nI xs.length ≤ a
  · rw [if_pos c1, if_pos rfl, if_pos ((hin a).mp c1), if_pos rfl]; exact same_i rfl rfl
  rw [if_neg c1, if_neg (show ¬ (1 : Int32) = 0 by decide), if_neg (fun z => c1 ((hin a).mpr z)), if_neg (show ¬ (1 : Int32) = 0 by decide), rw_has hx b, cl_eq, gF_eq, mx1.1, isIn_eq, cl_eq]
  by_cases c2 : b < 0 ∨ nI xs.length ≤ b
  · rw [if_pos c2, if_pos rfl, if_pos ((hin b).mp c2), if_pos rfl]; exact same_i rfl rfl
  rw [if_neg c2, if_neg (show ¬ (1 : Int32) = 0 by decide), if_neg (fun z => c2 ((hin b).mpr z)), if_neg (show ¬ (1 : Int32) = 0 by decide), rw_has hx p, cl_eq, gF_eq, mx1.1, isIn_eq, cl_eq]
  by_cases c3 : p < 0 ∨ nI xs.length ≤ p
  · rw [if_pos c3, if_pos rfl, if_pos ((hin p).mp c3), if_pos rfl]; exact same_i rfl rfl
  rw [if_neg c3, if_neg (show ¬ (1 : Int32) = 0 by decide), if_neg (fun z => c3 ((hin p).mpr z)), if_neg (show ¬ (1 : Int32) = 0 by decide)]
  by_cases c4 : a = b
  · rw [if_pos c4, if_pos c4]; exact same_i rfl rfl
  rw [if_neg c4, if_neg c4]
  obtain ⟨i, hi, rfl⟩ := hix a c1
  obtain ⟨j, hj, rfl⟩ := hix b c2
  obtain ⟨k, hk, rfl⟩ := hix p c3
  obtain ⟨t1, t2, t3⟩ := cr_toInt ox oy hl hi hj hk
  rw [turn_c hx hy hl hi hj hk, cl_eq, area_m mx1 my1 hi hj hk hl, cl_eq]
  generalize (xs.getD j 0 - xs.getD i 0) * (ys.getD k 0 - ys.getD i 0) - (ys.getD j 0 - ys.getD i 0) * (xs.getD k 0 - xs.getD i 0) = v at t1
  rw [signum_c (v := v) (by omega) (by omega), cl_eq]
  unfold sgn3
  by_cases d1 : v ≤ 0
  · rw [if_pos d1, if_pos d1]
    by_cases d2 : 0 ≤ v
    · rw [if_pos d2, if_pos d2]; exact same_i rfl rfl
    · rw [if_neg d2, if_neg d2]; exact same_i rfl rfl
  · rw [if_neg d1, if_neg d1]; exact same_i rfl rfl
