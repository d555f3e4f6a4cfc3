/-! L3: DRIPS -/
theorem rw_nat {lo hi : Nat} (hlo : lo < 2 ^ 31) (hhi : hi < 2 ^ 31) : ∀ {l : List Int32}, RwOk (nI lo) (nI hi) l → ∃ q : List Nat, l = q.map nI ∧ q.length = l.length ∧ ∀ p ∈ q, lo ≤ p ∧ p ≤ hi := by
  intro l
  induction l with
  | nil => exact fun _ => ⟨[], rfl, rfl, fun p hp => absurd hp List.not_mem_nil⟩
  | cons v r ih =>
    intro h
    obtain ⟨q, e1, e2, e3⟩ := ih (fun w hw => h w (List.mem_cons_of_mem _ hw))
    obtain ⟨a, b⟩ := h v List.mem_cons_self
    obtain ⟨k, k1, k2, rfl⟩ := nI_rng hlo hhi a b
    refine ⟨k :: q, by rw [e1]; rfl, by simp [e2], fun p hp => ?_⟩
    rcases List.mem_cons.mp hp with z | z
    · rw [z]; exact ⟨k1, k2⟩
    · exact e3 p z
theorem map_getD (q : List Nat) : ∀ k, (q.map nI).getD k 0 = nI (q.getD k 0) := by
  induction q with
  | nil => intro k; rfl
  | cons p r ih =>
    intro k
    match k with
    | 0 => rfl
    | k + 1 => exact ih k
/-- greatest common measure -/
theorem gcd_step {a b : Nat} : Nat.gcd b (a % b) = Nat.gcd a b := by
  rw [Nat.gcd_comm b, ← Nat.gcd_rec, Nat.gcd_comm]
theorem measure_c (μ : Mu) : ∀ (b a i fu : Nat), a < 2 ^ 31 → b < 2 ^ 31 → i + b < 64 → b < fu → Sm_measure_7 fu (nI a) (nI b) (nI i) μ = some (nI (Nat.gcd a b), μ) := by
  intro b
  induction b using Nat.strongRecOn with
  | _ b ih =>
    intro a i fu ha hb hi hf
    obtain ⟨f, rfl⟩ : ∃ f, fu = f + 1 := ⟨fu - 1, by omega⟩
    show Sm_measure_7b (Sm_measure_7 f) (nI a) (nI b) (nI i) μ = _
    unfold Sm_measure_7b
    rw [if_neg (show ¬ (64 : Int32) ≤ nI i from nI_ge (b := 64) (by omega) (by omega))]
    by_cases c : b = 0
    · subst c; rw [if_pos (by decide), Nat.gcd_zero_right]
    · have hm := Nat.mod_lt a (show 0 < b by omega)
      rw [if_neg (nI_ne0 (by omega) hb), nz_eq (nI_ne0 (by omega) hb), jrem_nI ha (by omega) hb, nI_1, ih (a % b) hm b (i + 1) f hb (by omega) (by omega) (by omega), gcd_step]
theorem common_m (ν : Mu) : ∀ (b a fu : Nat), a < 2 ^ 31 → b < 2 ^ 31 → b < fu → Mo_common_5 59 fu (nI a) (nI b) ν = some (nI (Nat.gcd a b), ν) := by
  intro b
  induction b using Nat.strongRecOn with
  | _ b ih =>
    intro a fu ha hb hf
    obtain ⟨f, rfl⟩ : ∃ f, fu = f + 1 := ⟨fu - 1, by omega⟩
    show Mo_common_5b 59 (Mo_common_5 59 f) (nI a) (nI b) ν = _
    unfold Mo_common_5b
    by_cases c : b = 0
    · subst c; rw [if_pos (by decide), Nat.gcd_zero_right]
    · have hm := Nat.mod_lt a (show 0 < b by omega)
      rw [if_neg (nI_ne0 (by omega) hb), nz_eq (nI_ne0 (by omega) hb), jrem_nI ha (by omega) hb, ih (a % b) hm b f hb (by omega) (by omega), gcd_step]
theorem gcd_pos' {a b : Nat} (h : 0 < b) : 0 < Nat.gcd a b := Nat.gcd_pos_of_pos_right a h
theorem lcm_c (a b : Nat) : a * (b / Nat.gcd a b) = Nat.lcm a b := (Nat.mul_div_assoc a (Nat.gcd_dvd_right a b)).symm
theorem lcm_m (a b : Nat) : a / Nat.gcd a b * b = Nat.lcm a b := by
  rw [Nat.mul_comm, ← Nat.mul_div_assoc b (Nat.gcd_dvd_left a b), Nat.mul_comm b a]; rfl
theorem lcm_le (a b : Nat) : Nat.lcm a b ≤ a * b := Nat.div_le_self _ _
/-- at once: the chosen ones -/
def aoL : List Nat → Nat → Nat → Nat
  | [], _, acc => acc
  | p :: r, m, acc => aoL r (m / 2) (if m % 2 = 1 then Nat.lcm acc p else acc)
theorem aoL_le : ∀ (q : List Nat) (m acc : Nat), (∀ p ∈ q, 1 ≤ p ∧ p ≤ 30) → aoL q m acc ≤ acc * 30 ^ q.length := by
  intro q
  induction q with
  | nil => intro m acc _; show acc ≤ acc * 1; omega
  | cons p r ih =>
    intro m acc h
    obtain ⟨p1, p2⟩ := h p List.mem_cons_self
    have := ih (m / 2) (if m % 2 = 1 then Nat.lcm acc p else acc) (fun x hx => h x (List.mem_cons_of_mem _ hx))
    have h2 : (if m % 2 = 1 then Nat.lcm acc p else acc) ≤ acc * 30 := by
      by_cases c : m % 2 = 1
      · rw [if_pos c]; exact Nat.le_trans (lcm_le acc p) (Nat.mul_le_mul_left _ p2)
      · rw [if_neg c]; exact Nat.le_mul_of_pos_right _ (by omega)
    calc aoL (p :: r) m acc ≤ (if m % 2 = 1 then Nat.lcm acc p else acc) * 30 ^ r.length := this
      _ ≤ (acc * 30) * 30 ^ r.length := Nat.mul_le_mul_right _ h2
      _ = acc * 30 ^ (p :: r).length := by rw [List.length_cons, Nat.pow_succ, Nat.mul_assoc, Nat.mul_comm 30]
theorem bit_at : ∀ m, m < 64 → ∀ i, i < 6 → (jshr (nI m) (nI i)) &&& 1 = nI (m / 2 ^ i % 2) := by decide +kernel
theorem shl1 : ∀ k, k < 7 → jshl 1 (nI k) = nI (2 ^ k) := by decide
theorem atOnce_c {μ : Mu} {l : List Int32} {q : List Nat} (h : RwC μ 29 6 2 30 l) (hq : l = q.map nI) (hp : ∀ p ∈ q, 2 ≤ p ∧ p ≤ 30) {m : Nat} (hm : m < 64) : Th_atOnce 45 18 (nI m) μ = some (nI (aoL q m 1), μ) := by
  have hh := h
  obtain ⟨h0, h1, h3, hl, hn, hv⟩ := h
  have hlen : q.length = l.length := by rw [hq]; simp
  have hgd : ∀ k, l.getD k 0 = nI (q.getD k 0) := fun k => by rw [hq]; exact map_getD q k
  suffices K : ∀ d k acc fu, k + d = l.length → 1 ≤ acc → acc ≤ 30 ^ k → d < fu → Th_atOnce_4 45 18 (nI m) fu (nI acc) (nI k) μ = some (nI (aoL (q.drop k) (m / 2 ^ k) acc), μ) from by
    have := K l.length 0 1 FU (by omega) (by omega) (by omega) (by have := FU_big; omega)
    rw [Nat.pow_zero, Nat.div_one] at this
    exact this
  intro d
  induction d with
  | zero =>
    intro k acc fu hk h1a ha hf
    obtain ⟨f, rfl⟩ : ∃ f, fu = f + 1 := ⟨fu - 1, by omega⟩
    show Th_atOnce_4b 45 18 (Th_atOnce_4 45 18 (nI m) f) (nI m) (nI acc) (nI k) μ = _
    unfold Th_atOnce_4b
    simp only [Nat.reduceAdd]
    rw [gF_eq, h3, if_pos (nI_le (by omega) (by omega)), List.drop_eq_nil_of_le (by omega)]; rfl
  | succ d ih =>
    intro k acc fu hk h1a ha hf
    obtain ⟨f, rfl⟩ : ∃ f, fu = f + 1 := ⟨fu - 1, by omega⟩
    have hkq : k < q.length := by omega
    have hmem : q.getD k 0 ∈ q := by
      rw [List.getD_eq_getElem?_getD, List.getElem?_eq_getElem hkq]; exact List.getElem_mem hkq
    obtain ⟨p1, p2⟩ := hp _ hmem
    have ha5 : acc ≤ 30 ^ 5 := Nat.le_trans ha (Nat.pow_le_pow_right (by omega) (by omega))
    show Th_atOnce_4b 45 18 (Th_atOnce_4 45 18 (nI m) f) (nI m) (nI acc) (nI k) μ = _
    unfold Th_atOnce_4b Th_atOnce_56
    simp only [Nat.reduceAdd]
    have hb : m / 2 ^ k / 2 = m / 2 ^ (k + 1) := by rw [Nat.div_div_eq_div_mul, Nat.pow_succ]
    rw [gF_eq, h3, if_neg (nI_ge (by omega) (by omega)), bit_at m hm k (by omega), drop_at 0 hkq, nI_1]
    show _ = some (nI (aoL (q.drop (k + 1)) (m / 2 ^ k / 2) (if m / 2 ^ k % 2 = 1 then Nat.lcm acc (q.getD k 0) else acc)), μ)
    rw [hb]
    generalize hpk : q.getD k 0 = p at p1 p2
    by_cases c : m / 2 ^ k % 2 = 1
    · have hg := gcd_pos' (a := acc) (show 0 < p by omega)
      have hgle : Nat.gcd acc p ≤ p := Nat.gcd_le_right acc (by omega)
      rw [if_pos (by rw [c]; rfl), if_pos c, rw_at hh k (by omega), cl_eq, hgd, hpk]
      unfold Sm_measure
      rw [show (0 : Int32) = nI 0 from rfl, measure_c μ p acc 0 FU (by omega) (by omega) (by omega) (by have := FU_big; omega), cl_eq, show jmax 1 (nI (Nat.gcd acc p)) = nI (max 1 (Nat.gcd acc p)) from jmax_nI (a := 1) (by omega) (by omega), show max 1 (Nat.gcd acc p) = Nat.gcd acc p by omega, nz_eq (nI_ne0 hg (by omega)), pk_div (by omega) hg (by omega), pk_mul, lcm_c]
      refine ih (k + 1) (Nat.lcm acc p) f (by omega) ?_ ?_ (by omega)
      · exact Nat.lcm_pos (by omega) (by omega)
      · rw [Nat.pow_succ]; exact Nat.le_trans (lcm_le acc p) (Nat.mul_le_mul ha p2)
    · rw [if_neg (fun z : nI (m / 2 ^ k % 2) = 1 => c ((nI_eq (b := 1) (by omega) (by omega)).mp z)), if_neg c]
      exact ih (k + 1) acc f (by omega) h1a (Nat.le_trans ha (Nat.pow_le_pow_right (by omega) (by omega))) (by omega)
/-- all of them -/
def lcL : List Nat → Nat → Nat
  | [], acc => acc
  | p :: r, acc => lcL r (Nat.lcm acc p)
theorem aoL_all : ∀ (q : List Nat) (acc : Nat), aoL q (2 ^ q.length - 1) acc = lcL q acc := by
  intro q
  induction q with
  | nil => intro acc; rfl
  | cons p r ih =>
    intro acc
    have hp : 0 < 2 ^ r.length := Nat.pow_pos (by omega)
    have e1 : (2 ^ (p :: r).length - 1) % 2 = 1 := by rw [List.length_cons, Nat.pow_succ]; omega
    have e2 : (2 ^ (p :: r).length - 1) / 2 = 2 ^ r.length - 1 := by rw [List.length_cons, Nat.pow_succ]; omega
    show aoL r ((2 ^ (p :: r).length - 1) / 2) (if (2 ^ (p :: r).length - 1) % 2 = 1 then Nat.lcm acc p else acc) = lcL r (Nat.lcm acc p)
    rw [e1, e2, if_pos rfl]; exact ih _
/-- counting -/
def dvB (q : List Nat) (acc m : Nat) : Bool := decide (acc ∣ m + 1 ∧ ∀ p ∈ q, ¬ p ∣ m + 1)
theorem cnt_mul {a : Nat} (ha : 0 < a) : ∀ n, fb_ct (dvB [] a) n = n / a := by
  intro n
  induction n with
  | zero => rw [Nat.zero_div]; rfl
  | succ n ih =>
    rw [fb_ct_succ, ih]
    have hm := Nat.mod_lt n ha
    rcases (show n % a + 1 < a ∨ n % a + 1 = a by omega) with z | z
    · obtain ⟨d1, d2⟩ := divmod1 ha z
      have : dvB [] a n = false := decide_eq_false (fun y => by have := Nat.mod_eq_zero_of_dvd y.1; omega)
      rw [this, d1]; rfl
    · obtain ⟨d1, d2⟩ := divmod2 ha z
      have : dvB [] a n = true := decide_eq_true ⟨Nat.dvd_of_mod_eq_zero d2, fun p hp => absurd hp List.not_mem_nil⟩
      rw [this, d1]; rfl
theorem cnt_cons (p : Nat) (r : List Nat) (acc n : Nat) : (fb_ct (dvB (p :: r) acc) n : Int) = fb_ct (dvB r acc) n - fb_ct (dvB r (Nat.lcm acc p)) n := by
  have : fb_ct (dvB r acc) n = fb_ct (dvB (p :: r) acc) n + fb_ct (dvB r (Nat.lcm acc p)) n := by
    rw [← fb_ct_or (p := dvB (p :: r) acc) (q := dvB r (Nat.lcm acc p)) (fun k _ => by
      unfold dvB
      simp only [decide_eq_true_eq]
      rintro ⟨⟨_, h1⟩, h2, _⟩
      exact h1 p List.mem_cons_self (Nat.lcm_dvd_iff.mp h2).2)]
    refine fb_ct_cong (fun k _ => ?_)
    refine bool_iff ?_
    simp only [Bool.or_eq_true]
    unfold dvB
    simp only [decide_eq_true_eq]
    constructor
    · rintro ⟨h1, h2⟩
      by_cases c : p ∣ k + 1
      · exact Or.inr ⟨Nat.lcm_dvd_iff.mpr ⟨h1, c⟩, h2⟩
      · refine Or.inl ⟨h1, fun x hx => ?_⟩
        rcases List.mem_cons.mp hx with z | z
        · rw [z]; exact c
        · exact h2 x z
    · rintro (⟨h1, h2⟩ | ⟨h1, h2⟩)
      · exact ⟨h1, fun x hx => h2 x (List.mem_cons_of_mem _ hx)⟩
      · exact ⟨(Nat.lcm_dvd_iff.mp h1).1, h2⟩
  omega
def popN (m : Nat) : Nat := m % 2 + m / 2 % 2 + m / 4 % 2 + m / 8 % 2 + m / 16 % 2 + m / 32 % 2
def sgI (m : Nat) : Int := if popN m % 2 = 0 then 1 else -1
theorem sg_even : ∀ m, m < 32 → sgI (2 * m) = sgI m ∧ sgI (2 * m + 1) = - sgI m := by decide
def msI (q : List Nat) (acc n N : Nat) : Int := fb_si (fun m => sgI m * ((n / aoL q m acc : Nat) : Int)) N
theorem fb_si_2 (f : Nat → Int) : ∀ N, fb_si f (2 * N) = fb_si (fun m => f (2 * m) + f (2 * m + 1)) N := by
  intro N
  induction N with
  | zero => rfl
  | succ N ih =>
    have e : 2 * (N + 1) = 2 * N + 1 + 1 := by omega
    rw [e, fb_si_succ, fb_si_succ, fb_si_succ, ih]; omega
theorem msI_cnt : ∀ (q : List Nat) (acc n : Nat), q.length ≤ 6 → 0 < acc → (∀ p ∈ q, 1 ≤ p) → msI q acc n (2 ^ q.length) = (fb_ct (dvB q acc) n : Int) := by
  intro q
  induction q with
  | nil =>
    intro acc n _ h0 _
    rw [cnt_mul h0]
    show fb_si (fun m => sgI m * ((n / acc : Nat) : Int)) (2 ^ 0) = _
    rw [Nat.pow_zero, fb_si_succ]
    show 0 + sgI 0 * ((n / acc : Nat) : Int) = _
    rw [show sgI 0 = 1 by decide]; omega
  | cons p r ih =>
    intro acc n hl h0 hp
    have hp1 := hp p List.mem_cons_self
    have hr : ∀ x ∈ r, 1 ≤ x := fun x hx => hp x (List.mem_cons_of_mem _ hx)
    simp only [List.length_cons] at hl
    rw [cnt_cons, ← ih acc n (by omega) h0 hr, ← ih (Nat.lcm acc p) n (by omega) (Nat.lcm_pos h0 (by omega)) hr]
    unfold msI
    rw [List.length_cons, Nat.pow_succ, Nat.mul_comm, fb_si_2, ← fb_si_sub]
    refine fb_si_cong (fun m hm => ?_)
    have hm32 : m < 32 := Nat.lt_of_lt_of_le hm (Nat.le_trans (Nat.pow_le_pow_right (by omega) (show r.length ≤ 5 by omega)) (by decide))
    obtain ⟨s1, s2⟩ := sg_even m hm32
    have a1 : aoL (p :: r) (2 * m) acc = aoL r m acc := by
      show aoL r (2 * m / 2) (if 2 * m % 2 = 1 then Nat.lcm acc p else acc) = _
      rw [if_neg (by omega), show 2 * m / 2 = m by omega]
    have a2 : aoL (p :: r) (2 * m + 1) acc = aoL r m (Nat.lcm acc p) := by
      show aoL r ((2 * m + 1) / 2) (if (2 * m + 1) % 2 = 1 then Nat.lcm acc p else acc) = _
      rw [if_pos (by omega), show (2 * m + 1) / 2 = m by omega]
    rw [s1, s2, a1, a2, Int.neg_mul]; omega
theorem bitCount_c : ∀ m, m < 64 → (Jn_bitCount (nI m) μ00).map Prod.fst = some (nI (popN m)) := by decide +kernel
theorem iZ_nI (n : Nat) : nI n = Int32.ofInt (n : Int) := (Int32.ofInt_eq_ofNat (n := n)).symm
theorem dry_c {μ : Mu} {l : List Int32} {q : List Nat} (h : RwC μ 29 6 2 30 l) (hq : l = q.map nI) (hp : ∀ p ∈ q, 2 ≤ p ∧ p ≤ 30) {n : Nat} (hn : n ≤ 10000) : Th_dryMinutes 45 18 (nI n) μ = some (nI (fb_ct (dvB q 1) n), μ) := by
  have hh := h
  obtain ⟨h0, h1, h3, hl, hn10, hv⟩ := h
  have hlen : q.length = l.length := by rw [hq]; simp
  have h64 : 2 ^ l.length ≤ 64 := Nat.le_trans (Nat.pow_le_pow_right (by omega) hl) (by decide)
  have fin := msI_cnt q 1 n (by omega) (by omega) (fun p h => by have := hp p h; omega)
  rw [show nI (fb_ct (dvB q 1) n) = Int32.ofInt ((fb_ct (dvB q 1) n : Nat) : Int) from iZ_nI _, ← fin, hlen]
  suffices K : Th_dryMinutes_4 45 18 (nI n) FU (Int32.ofInt (msI q 1 n 0)) (nI 0) μ = some (Int32.ofInt (msI q 1 n (2 ^ l.length)), μ) from K
  unfold Th_dryMinutes_4
  refine lp_fu (F := fun kb => Th_dryMinutes_4b 45 18 kb (nI n)) (z := fun _ _ _ => none) (2 ^ l.length) (fun k A => A (Int32.ofInt (msI q 1 n k)) (nI k) μ = some (Int32.ofInt (msI q 1 n (2 ^ l.length)), μ)) (by omega) ?_ ?_ 0 (Nat.zero_le _)
  · intro A
    show Th_dryMinutes_4b 45 18 A (nI n) _ (nI (2 ^ l.length)) μ = _
    unfold Th_dryMinutes_4b
    simp only [Nat.reduceAdd]
    rw [gF_eq, h3, shl1 _ (by omega), if_pos (nI_le (Nat.le_refl _) (by omega))]
  · intro k A hk ih
    show Th_dryMinutes_4b 45 18 A (nI n) _ (nI k) μ = _
    have hle := aoL_le q k 1 (fun p h => by have := hp p h; omega)
    have hpos : 0 < aoL q k 1 := by
      have : ∀ (q : List Nat) (m acc : Nat), (∀ p ∈ q, 2 ≤ p ∧ p ≤ 30) → 0 < acc → 0 < aoL q m acc := by
        intro q
        induction q with
        | nil => intro m acc _ h; exact h
        | cons p r ih =>
          intro m acc hp h
          obtain ⟨p1, p2⟩ := hp p List.mem_cons_self
          refine ih (m / 2) _ (fun x hx => hp x (List.mem_cons_of_mem _ hx)) ?_
          split
          · exact Nat.lcm_pos h (by omega)
          · exact h
      exact this q k 1 hp (by omega)
    have h30 : 30 ^ q.length ≤ 729000000 := Nat.le_trans (Nat.pow_le_pow_right (by omega) (show q.length ≤ 6 by omega)) (by decide)
    have hb : Jn_bitCount (nI k) μ = some (nI (popN k), μ) := by
      have e := bitCount_c k (by omega)
      have e2 : (Jn_bitCount (nI k) μ).map Prod.fst = (Jn_bitCount (nI k) μ00).map Prod.fst := rfl
      rw [e] at e2
      unfold Jn_bitCount at e2 ⊢
      simp only [Option.map_some, Option.some.injEq] at e2
      rw [e2]
    have hpop : popN k ≤ 6 := by unfold popN; omega
    unfold Th_dryMinutes_4b Th_dryMinutes_51
    simp only [Nat.reduceAdd]
    rw [gF_eq, h3, shl1 _ (by omega), if_neg (nI_ge hk (by omega)), atOnce_c hh hq hp (by omega), cl_eq, show jmax 1 (nI (aoL q k 1)) = nI (max 1 (aoL q k 1)) from jmax_nI (a := 1) (by omega) (by omega), show max 1 (aoL q k 1) = aoL q k 1 by omega, nz_eq (nI_ne0 hpos (by omega)), hb, cl_eq, pk_div (by omega) hpos (by omega), show jrem (nI (popN k)) 2 = nI (popN k % 2) from jrem_nI (b := 2) (by omega) (by omega) (by omega), nI_1]
    have e : msI q 1 n (k + 1) = msI q 1 n k + sgI k * ((n / aoL q k 1 : Nat) : Int) := fb_si_succ _ _
    rw [e] at ih
    unfold sgI at ih
    by_cases z : popN k % 2 = 0
    · rw [if_pos (by rw [z]; rfl), iZ_nI, ← Int32.ofInt_add]
      rw [if_pos z, Int.one_mul] at ih
      exact ih
    · rw [if_neg (fun y : nI (popN k % 2) = 0 => z ((nI_eq (b := 0) (by omega) (by omega)).mp y)), iZ_nI, ← Int32.ofInt_neg, ← Int32.ofInt_add]
      rw [if_neg z, Int.neg_mul, Int.one_mul] at ih
      exact ih
theorem th_drips {μ ν : Mu} {l : List Int32} (h : RwC μ 29 6 2 30 l) (hm : RwM ν 59 51 88 6 l) (hok : RwOk 2 30 l) (n : Int32) : Same (Sf_drips 0 n μ) (Mo_drips 59 n ν) := by
  have hl : l.length ≤ 6 := h.2.2.2.1
  have h3 : μ 29 3 = nI l.length := h.2.2.1
  obtain ⟨q, hq, hlen, hp⟩ := rw_nat (lo := 2) (hi := 30) (by omega) (by omega) hok
  have hm1 : RwM (up2 ν 59 0 0) 59 51 88 6 l := rwM_congr (up2_off (Or.inr (by omega))) (up2_ne (by omega)) hm
  have hgd : ∀ k, l.getD k 0 = nI (q.getD k 0) := fun k => by rw [hq]; exact map_getD q k
  have hmem : ∀ k, k < l.length → 2 ≤ q.getD k 0 ∧ q.getD k 0 ≤ 30 := fun k hk => hp _ (by
    rw [List.getD_eq_getElem?_getD, List.getElem?_eq_getElem (by omega)]; exact List.getElem_mem _)
  unfold Sf_drips Mo_drips
  rw [pF_eq]
  generalize up2 ν 59 0 0 = ν1 at hm1
  obtain ⟨m1, m2, m3, m4⟩ := hm1
  have hc : ∀ o : Option (Int32 × Mu), cl o (fun x2 μ1 => some (x2, μ1)) = o := fun o => by cases o <;> rfl
  by_cases c : n = -1
  · rw [if_pos c, if_pos c, hc]
    have hM : Mo_drips_14 59 FU 1 0 ν1 = some (if l.length = 0 then -1 else nI (lcL q 1), ν1) := by
      suffices K : ∀ d k acc fu, k + d = l.length → 1 ≤ acc → acc ≤ 30 ^ k → d < fu → Mo_drips_14 59 fu (nI acc) (nI k) ν1 = some (if l.length = 0 then -1 else nI (lcL (q.drop k) acc), ν1) from K l.length 0 1 FU (by omega) (by omega) (by omega) (by have := FU_big; omega)
      intro d
      induction d with
      | zero =>
        intro k acc fu hk h1a ha hf
        obtain ⟨f, rfl⟩ : ∃ f, fu = f + 1 := ⟨fu - 1, by omega⟩
        show Mo_drips_14b 59 (Mo_drips_14 59 f) (nI acc) (nI k) ν1 = _
        unfold Mo_drips_14b
        rw [gF_eq, gF_eq, m1, if_pos (nI_le (by omega) (by omega)), List.drop_eq_nil_of_le (by omega)]
        by_cases z : l.length = 0
        · rw [if_pos (by rw [z]; rfl), if_pos z]
        · rw [if_neg (nI_ne0 (by omega) (by omega)), if_neg z]; rfl
      | succ d ih =>
        intro k acc fu hk h1a ha hf
        obtain ⟨f, rfl⟩ : ∃ f, fu = f + 1 := ⟨fu - 1, by omega⟩
        obtain ⟨p1, p2⟩ := hmem k (by omega)
        have ha5 : acc ≤ 30 ^ 5 := Nat.le_trans ha (Nat.pow_le_pow_right (by omega) (by omega))
        have h305 : (30 : Nat) ^ 5 = 24300000 := by decide
        show Mo_drips_14b 59 (Mo_drips_14 59 f) (nI acc) (nI k) ν1 = _
        unfold Mo_drips_14b Mo_common
        simp only [Nat.reduceAdd]
        rw [gF_eq, m1, if_neg (nI_ge (by omega) (by omega)), ldA_nI (by omega) (by omega), m4 k (by omega), hgd, drop_at 0 (by omega)]
        show _ = some (if l.length = 0 then -1 else nI (lcL (q.drop (k + 1)) (Nat.lcm acc (q.getD k 0))), ν1)
        generalize hpk : q.getD k 0 = p at p1 p2
        have hg := gcd_pos' (a := acc) (show 0 < p by omega)
        have hgle : Nat.gcd acc p ≤ p := Nat.gcd_le_right acc (by omega)
        rw [common_m ν1 p acc FU (by omega) (by omega) (by have := FU_big; omega), cl_eq, nz_eq (nI_ne0 hg (by omega)), ldA_nI (by omega) (by omega), m4 k (by omega), hgd, hpk, pk_div (by omega) hg (by omega), pk_mul, lcm_m, nI_1]
        exact ih (k + 1) (Nat.lcm acc p) f (by omega) (Nat.lcm_pos (by omega) (by omega)) (by rw [Nat.pow_succ]; exact Nat.le_trans (lcm_le acc p) (Nat.mul_le_mul ha p2)) (by omega)
    have hC : Th_allAtOnce 45 18 μ = some (if l.length = 0 then -1 else nI (lcL q 1), μ) := by
      unfold Th_allAtOnce
      simp only [Nat.reduceAdd]
      rw [gF_eq, h3]
      by_cases z : l.length = 0
      · rw [if_pos (by rw [z]; rfl), if_pos z]
      · have h64 : 2 ^ l.length ≤ 64 := Nat.le_trans (Nat.pow_le_pow_right (by omega) hl) (by decide)
        have hp1 : 1 ≤ 2 ^ l.length := Nat.pow_pos (by omega)
        rw [if_neg (nI_ne0 (by omega) (by omega)), if_neg z, gF_eq, h3, shl1 _ (by omega), show nI (2 ^ l.length) - 1 = nI (2 ^ l.length - 1) from pk_sub (b := 1) hp1, atOnce_c h hq hp (by omega), cl_eq, ← hlen, aoL_all]
    exact same_i hC hM
  · rw [if_neg c, if_neg c, within_eq, isIn_eq, cl_eq, cl_eq]
    by_cases c1 : n < 0 ∨ 10000 < n
    · rw [if_pos c1, if_pos rfl, if_pos rfl]; exact same_i rfl rfl
    · rw [if_neg c1, if_neg (show ¬ (1 : Int32) = 0 by decide), if_neg (show ¬ (1 : Int32) = 0 by decide), hc]
      obtain ⟨a, a1, a2, rfl⟩ := nI_rng (lo := 0) (n := 10000) (by omega) (by omega) (fun z => c1 (Or.inl z)) (fun z => c1 (Or.inr z))
      refine same_i (dry_c h hq hp a2) (μ2 := ν1) ?_
      have hdry : ∀ m, m < 10000 → Mo_isDry 59 (nI (m + 1)) ν1 = some (if dvB q 1 m then 1 else 0, ν1) := by
        intro m hmm
        have hall : dvB q 1 m = decide (∀ j, j < l.length → ¬ q.getD j 0 ∣ m + 1) := by
          refine bool_iff ?_
          unfold dvB
          simp only [decide_eq_true_eq]
          constructor
          · rintro ⟨_, h2⟩ j hj
            exact h2 _ (by rw [List.getD_eq_getElem?_getD, List.getElem?_eq_getElem (by omega)]; exact List.getElem_mem _)
          · intro h2
            refine ⟨Nat.one_dvd _, fun p hpm => ?_⟩
            obtain ⟨j, hj, e⟩ := List.mem_iff_getElem.mp hpm
            have := h2 j (by omega)
            rw [List.getD_eq_getElem?_getD, List.getElem?_eq_getElem hj] at this
            rw [← e]; exact this
        rw [hall]
        unfold Mo_isDry
        suffices K : (∀ j, j < 0 → ¬ q.getD j 0 ∣ m + 1) → Mo_isDry_2 59 (nI (m + 1)) FU (nI 0) ν1 = some (if decide (∀ j, j < l.length → ¬ q.getD j 0 ∣ m + 1) = true then 1 else 0, ν1) from K (fun j hj => absurd hj (by omega))
        unfold Mo_isDry_2
        refine lp_fu (F := fun kb => Mo_isDry_2b 59 kb (nI (m + 1))) (z := fun _ _ => none) l.length (fun k A => (∀ j, j < k → ¬ q.getD j 0 ∣ m + 1) → A (nI k) ν1 = some (if decide (∀ j, j < l.length → ¬ q.getD j 0 ∣ m + 1) = true then 1 else 0, ν1)) (by omega) ?_ ?_ 0 (by omega)
        · intro A hj
          show Mo_isDry_2b 59 A (nI (m + 1)) (nI l.length) ν1 = _
          unfold Mo_isDry_2b
          rw [gF_eq, m1, if_pos (nI_le (Nat.le_refl _) (by omega)), decide_eq_true hj, if_pos rfl]
        · intro k A hk ih hj
          obtain ⟨p1, p2⟩ := hmem k hk
          show Mo_isDry_2b 59 A (nI (m + 1)) (nI k) ν1 = _
          unfold Mo_isDry_2b
          simp only [Nat.reduceAdd]
          rw [gF_eq, m1, if_neg (nI_ge hk (by omega)), ldA_nI (by omega) (by omega), m4 k hk, hgd, nz_eq (nI_ne0 (by omega) (by omega)), jrem_nI (by omega) (by omega) (by omega), nI_1]
          have hmod := Nat.mod_lt (m + 1) (show 0 < q.getD k 0 by omega)
          by_cases z : (m + 1) % q.getD k 0 = 0
          · rw [if_pos (by rw [z]; rfl), decide_eq_false (fun y => y k hk (Nat.dvd_of_mod_eq_zero z)), if_neg (by decide)]
          · rw [if_neg (fun y : nI ((m + 1) % q.getD k 0) = 0 => z ((nI_eq (b := 0) (by omega) (by omega)).mp y))]
            refine ih (fun j h1 => ?_)
            by_cases y : j = k
            · subst y; exact fun w => z (Nat.mod_eq_zero_of_dvd w)
            · exact hj j (by omega)
      suffices K : Mo_drips_80 59 (nI a) FU (nI (fb_ct (dvB q 1) 0)) (nI (0 + 1)) ν1 = some (nI (fb_ct (dvB q 1) a), ν1) from K
      unfold Mo_drips_80
      refine lp_fu (F := fun kb => Mo_drips_80b 59 kb (nI a)) (z := fun _ _ _ => none) a (fun k A => A (nI (fb_ct (dvB q 1) k)) (nI (k + 1)) ν1 = some (nI (fb_ct (dvB q 1) a), ν1)) (by omega) ?_ ?_ 0 (by omega)
      · intro A
        show Mo_drips_80b 59 A (nI a) _ (nI (a + 1)) ν1 = _
        unfold Mo_drips_80b
        rw [if_pos (nI_lt (by omega) (by omega))]
      · intro k A hk ih
        show Mo_drips_80b 59 A (nI a) _ (nI (k + 1)) ν1 = _
        unfold Mo_drips_80b Mo_drips_97
        rw [if_neg (nI_nlt (by omega) (by omega)), hdry k (by omega), cl_eq, nI_1, nI_1]
        rw [fb_ct_succ] at ih
        by_cases z : dvB q 1 k = true
        · rw [if_pos z, if_neg (by decide)]; rw [if_pos z] at ih; exact ih
        · rw [if_neg z, if_pos rfl]; rw [if_neg z, Nat.add_zero] at ih; exact ih
