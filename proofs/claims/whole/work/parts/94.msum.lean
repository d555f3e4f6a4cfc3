/-! L3: THE REFERENCE READS A SUM -/
def FrQ (μ μ' : Mu) : Prop := (∀ k, k ∉ [59, 71, 72] → μ' k = μ k) ∧ (∀ i, i < 800 → μ' 71 i = μ 71 i ∧ μ' 72 i = μ 72 i) ∧ ∀ j, j ∉ [10, 11, 12, 13, 23, 27, 28] → μ' 59 j = μ 59 j
theorem frQ_refl (μ : Mu) : FrQ μ μ := ⟨fun _ _ => rfl, fun _ _ => ⟨rfl, rfl⟩, fun _ _ => rfl⟩
theorem frQ_trans {a b c : Mu} (h1 : FrQ a b) (h2 : FrQ b c) : FrQ a c := ⟨fun k h => (h2.1 k h).trans (h1.1 k h), fun i h => ⟨(h2.2.1 i h).1.trans (h1.2.1 i h).1, (h2.2.1 i h).2.trans (h1.2.1 i h).2⟩, fun j h => (h2.2.2 j h).trans (h1.2.2 j h)⟩
theorem frQ_59 {a b : Mu} {j : Nat} {v : Int32} (h1 : FrQ a b) (h : j ∈ [10, 11, 12, 13, 23, 27, 28]) : FrQ a (up2 b 59 j v) := ⟨fun k hk => (up2_ne (fun z => hk (by rw [z]; decide))).trans (h1.1 k hk), fun i hi => ⟨(up2_off (Or.inl (by decide))).trans (h1.2.1 i hi).1, (up2_off (Or.inl (by decide))).trans (h1.2.1 i hi).2⟩, fun i hi => (up2_off (Or.inr (fun z => hi (by rw [z]; exact h)))).trans (h1.2.2 i hi)⟩
theorem frQ_71 {a b : Mu} {j : Nat} {v : Int32} (h1 : FrQ a b) (h : 800 ≤ j) : FrQ a (up2 b 71 j v) := ⟨fun k hk => (up2_ne (fun z => hk (by rw [z]; decide))).trans (h1.1 k hk), fun i hi => ⟨(up2_off (Or.inr (by omega))).trans (h1.2.1 i hi).1, (up2_off (Or.inl (by decide))).trans (h1.2.1 i hi).2⟩, fun i hi => (up2_off (Or.inl (by decide))).trans (h1.2.2 i hi)⟩
theorem frQ_72 {a b : Mu} {j : Nat} {v : Int32} (h1 : FrQ a b) (h : 800 ≤ j) : FrQ a (up2 b 72 j v) := ⟨fun k hk => (up2_ne (fun z => hk (by rw [z]; decide))).trans (h1.1 k hk), fun i hi => ⟨(up2_off (Or.inl (by decide))).trans (h1.2.1 i hi).1, (up2_off (Or.inr (by omega))).trans (h1.2.1 i hi).2⟩, fun i hi => (up2_off (Or.inl (by decide))).trans (h1.2.2 i hi)⟩
theorem frQ_M {a b c : Mu} (h1 : FrQ a b) (h2 : FrM b c) : FrQ a c := ⟨fun k hk => (h2.1 k (fun z => hk (by rw [z]; decide))).trans (h1.1 k hk), fun i hi => ⟨by rw [h2.1 71 (by decide)]; exact (h1.2.1 i hi).1, by rw [h2.1 72 (by decide)]; exact (h1.2.1 i hi).2⟩, fun i hi => (h2.2 i (fun z => hi (by
  simp only [List.mem_cons, List.not_mem_nil, or_false] at z ⊢
  omega))).trans (h1.2.2 i hi)⟩
theorem moI_of {T : Nat → Nat} {n : Nat} {μ μ' : Mu} (hI : MoI T n μ) (h9 : μ' 59 9 = μ 59 9) (h64 : μ' 64 = μ 64) (h65 : μ' 65 = μ 65) : MoI T n μ' := ⟨hI.1, hI.2.1, h9.trans hI.2.2.1, fun i hi => by rw [h64]; exact hI.2.2.2.1 i hi, fun i hi => by rw [h65]; exact hI.2.2.2.2 i hi⟩
theorem moI_Q {T : Nat → Nat} {n : Nat} {μ μ' : Mu} (hI : MoI T n μ) (h : FrQ μ μ') : MoI T n μ' := moI_of hI (h.2.2 9 (by decide)) (h.1 64 (by decide)) (h.1 65 (by decide))
theorem tokM_of {T : Nat → Nat} {n p : Nat} {μ μ' : Mu} (h : ∀ j, j ∈ [10, 11, 12, 13] → μ' 59 j = μ 59 j) (ht : TokM T n p μ) : TokM T n p μ' := by
  unfold TokM at *
  rw [h 10 (by decide), h 11 (by decide), h 12 (by decide), h 13 (by decide)]; exact ht
/-- at the token from p on, these codes told -/
def CoM (T : Nat → Nat) (n p : Nat) (os : Cds) (ν : Mu) : Prop := MoI T n ν ∧ p ≤ n ∧ TokM T n p ν ∧ ν 59 23 = nI os.length ∧ os.length ≤ 400 ∧ ∀ i, i < os.length → ν 71 (800 + i) = nI (os.getD i (0, 0)).1 ∧ ν 72 (800 + i) = nI (os.getD i (0, 0)).2
def GdM (ν0 : Mu) (T : Nat → Nat) (n p : Nat) (os : Cds) (ν : Mu) : Prop := FrQ ν0 ν ∧ CoM T n p os ν
def ErM (ν0 : Mu) (e : Nat × Nat) (ν : Mu) : Prop := FrQ ν0 ν ∧ ν 59 27 = nI e.1 ∧ ν 59 28 = nI e.2
def StM (ν0 : Mu) (T : Nat → Nat) (n : Nat) (os : Cds) (x : PR) (r : Int32) (ν : Mu) : Prop := match x with
  | .error e => r = -1 ∧ ErM ν0 e ν
  | .ok q => r = 0 ∧ GdM ν0 T n q.2 (os ++ expL q.1) ν
theorem prp_prp (a b : Cds) (x : PR) : prp a (prp b x) = prp (a ++ b) x := by
  cases x with
  | error e => rfl
  | ok q => show Except.ok (a ++ (b ++ q.1), q.2) = Except.ok (a ++ b ++ q.1, q.2); rw [List.append_assoc]
theorem stM_prp {ν0 : Mu} {T : Nat → Nat} {n : Nat} {os d : Cds} {x : PR} {r : Int32} {ν : Mu} (h : StM ν0 T n (os ++ expL d) x r ν) : StM ν0 T n os (prp d x) r ν := by
  cases x with
  | error e => exact h
  | ok q =>
    have h' : r = 0 ∧ GdM ν0 T n q.2 ((os ++ expL d) ++ expL q.1) ν := h
    rw [List.append_assoc, ← expL_app] at h'
    exact h'
section Sums
variable {ν0 : Mu} {T : Nat → Nat} {n p : Nat} {os : Cds} {ν : Mu}
theorem gm_n (h : CoM T n p os ν) : n ≤ 400 := h.1.1
theorem tkM_rng (k : Nat) : tkM k ≤ 4 := by
  unfold tkM
  split
  · omega
  · split
    · omega
    · split
      · omega
      · split <;> omega
theorem tkM_4 {k : Nat} : tkM k = 4 → k ≠ 0 ∧ k ≠ 31 ∧ 24 < k ∧ k ≠ 30 := by
  unfold tkM
  split
  · intro z; cases z
  · split
    · intro z; cases z
    · split
      · intro z; cases z
      · split
        · intro z; cases z
        · intro _; omega
theorem tkM_2 {k : Nat} : tkM k = 2 → 1 ≤ k ∧ k ≤ 24 := by
  unfold tkM
  split
  · intro z; cases z
  · split
    · intro z; cases z
    · split
      · intro _; omega
      · split <;> (intro z; cases z)
theorem tkM_3 {k : Nat} : tkM k = 3 → k = 30 := by
  unfold tkM
  split
  · intro z; cases z
  · split
    · intro z; cases z
    · split
      · intro z; cases z
      · split
        · intro _; assumption
        · intro z; cases z
theorem tkM_w {k : Nat} (h : 1 ≤ k ∧ k ≤ 24) : tkM k = 2 := by
  unfold tkM
  rw [if_neg (by omega), if_neg (by omega), if_pos h.2]
theorem tkM_0 {k : Nat} : tkM k = 0 ↔ k = 0 := by
  unfold tkM
  split
  · exact ⟨fun _ => by assumption, fun _ => rfl⟩
  · rename_i h
    refine ⟨fun z => ?_, fun z => absurd z h⟩
    split at z
    · cases z
    · split at z
      · cases z
      · split at z <;> cases z
theorem rwn_inj : ∀ a, a < 25 → ∀ b, b < 25 → 1 ≤ a → 1 ≤ b → rwn a = rwn b → a = b := by decide +kernel
theorem rwn_lt : ∀ a, a < 25 → rwn a < 24 := by decide +kernel
theorem mo_isSign (h : TokM T n p ν) (hp : p ≤ n) {v : Int32} (c : Nat) (hv : v = nI c) (hc : c ∈ sgL) : Mo_isSign 59 v ν = some (if tK T n p = c then 1 else 0, ν) := by
  have hk63 := tK_lt (T := T) hp
  have hcc : ∀ d : Nat, d ∈ sgL → 40 ≤ d ∧ d < 63 ∧ tkM d = 4 := by decide
  obtain ⟨d1, d2, d3⟩ := hcc c hc
  have h4 := tkM_rng (tK T n p)
  unfold Mo_isSign
  rw [gF_eq, h.1, hv]
  by_cases q : tkM (tK T n p) = 4
  · have h13 : ν 59 13 = nI (tK T n p) := h.2.2.2.1 q
    rw [if_pos (show nI (tkM (tk T n p).1) = 4 by rw [show tkM (tk T n p).1 = 4 from q]; rfl), gF_eq, h13]
    by_cases y : tK T n p = c
    · rw [if_pos (by rw [y]), if_pos y]
    · rw [if_neg (fun z => y ((nI_eq (by omega) (by omega)).mp z)), if_neg y]
  · rw [if_neg (fun z : nI (tkM (tk T n p).1) = 4 => q ((nI_eq (b := 4) (by show tkM (tK T n p) < _; omega) (by omega)).mp z)), if_neg (fun z => q (by rw [z]; exact d3))]
theorem mo_isWord (h : TokM T n p ν) {v : Int32} (k : Nat) (hv : v = nI (rwn k)) (hk : 1 ≤ k ∧ k ≤ 24) : Mo_isWord 59 v ν = some (if tK T n p = k then 1 else 0, ν) := by
  have h4 := tkM_rng (tK T n p)
  have r1 := rwn_lt k (by omega)
  unfold Mo_isWord
  rw [gF_eq, h.1, hv]
  by_cases q : tkM (tK T n p) = 2
  · have h13 : ν 59 13 = nI (rwn (tK T n p)) := h.2.1 q
    have hw := tkM_2 q
    have r2 := rwn_lt (tK T n p) (by omega)
    rw [if_pos (show nI (tkM (tk T n p).1) = 2 by rw [show tkM (tk T n p).1 = 2 from q]; rfl), gF_eq, h13]
    by_cases y : tK T n p = k
    · rw [if_pos (by rw [y]), if_pos y]
    · rw [if_neg (fun z => y (rwn_inj _ (by omega) _ (by omega) hw.1 hk.1 ((nI_eq (by omega) (by omega)).mp z))), if_neg y]
  · rw [if_neg (fun z : nI (tkM (tk T n p).1) = 2 => q ((nI_eq (b := 2) (by show tkM (tK T n p) < _; omega) (by omega)).mp z)), if_neg (fun z => q (by rw [z]; exact tkM_w hk))]
theorem gm_reads (h : GdM ν0 T n p os ν) : Ev (Mo_reads 59 ν) (fun _ ν' => GdM ν0 T n (tE T n p) os ν') := by
  obtain ⟨hF, hI, hp, ht, h23, hl, hc⟩ := h
  refine ev_mono (mo_reads hI (tE_le hp) ht.2.2.2.2.2) (fun _ ν' q => ?_)
  obtain ⟨q1, q2⟩ := q
  refine ⟨frQ_M hF q2, moI_fr q2 hI, tE_le hp, q1, (q2.2 23 (by decide)).trans h23, hl, fun i hi => ?_⟩
  rw [q2.1 71 (by decide), q2.1 72 (by decide)]; exact hc i hi
theorem gm_errs (h : GdM ν0 T n p os ν) {v : Int32} (k : Nat) (hv : v = nI k) : Ev (Mo_errs 59 v ν) (fun r ν' => r = -1 ∧ ErM ν0 (k, tF T n p) ν') := by
  obtain ⟨hF, hI, hp, ht, h23, hl, hc⟩ := h
  unfold Mo_errs
  rw [pF_eq, gF_eq, up2_off (Or.inr (by decide)), ht.2.2.2.2.1, pF_eq, hv]
  exact ev_some ⟨rfl, frQ_59 (frQ_59 hF (by decide)) (by decide), by rw [up2_off (Or.inr (by decide)), up2_same], up2_same _ _ _ _⟩
theorem gm_emits (h : GdM ν0 T n p os ν) (hl4 : os.length < 400) {v1 v2 : Int32} (a b : Nat) (h1 : v1 = nI a) (h2 : v2 = nI b) : Ev (Mo_emits 59 v1 v2 ν) (fun _ ν' => GdM ν0 T n p (os ++ [(a, b)]) ν') := by
  obtain ⟨hF, hI, hp, ht, h23, hl, hc⟩ := h
  unfold Mo_emits
  simp only [Nat.reduceAdd]
  have hadd : (800 : Int32) + nI os.length = nI (800 + os.length) := nI_add 800 os.length
  rw [gF_eq, h23, hadd, stA_nI (by omega) (by omega), gF_eq, up2_off (Or.inl (by decide)), h23, hadd, stA_nI (by omega) (by omega), gF_eq, up2_off (Or.inl (by decide)), up2_off (Or.inl (by decide)), h23, pF_eq, nI_1, h1, h2]
  refine ev_some ⟨frQ_59 (frQ_72 (frQ_71 hF (by omega)) (by omega)) (by decide), moI_of hI ?_ ?_ ?_, hp, tokM_of (fun j hj => ?_) ht, ?_, ?_, fun i hi => ?_⟩
  · rw [up2_off (Or.inr (by decide)), up2_off (Or.inl (by decide)), up2_off (Or.inl (by decide))]
  · rw [up2_ne (by decide), up2_ne (by decide), up2_ne (by decide)]
  · rw [up2_ne (by decide), up2_ne (by decide), up2_ne (by decide)]
  · rw [up2_off (Or.inr (fun z => by rw [z] at hj; exact absurd hj (by decide))), up2_off (Or.inl (by decide)), up2_off (Or.inl (by decide))]
  · rw [up2_same, List.length_append]; rfl
  · rw [List.length_append]; show os.length + 1 ≤ 400; omega
  · rw [List.length_append] at hi
    have hi2 : i < os.length + 1 := hi
    have k1 : up2 (up2 (up2 ν 71 (800 + os.length) (nI a)) 72 (800 + os.length) (nI b)) 59 23 (nI (os.length + 1)) 71 (800 + i) = up2 ν 71 (800 + os.length) (nI a) 71 (800 + i) := by rw [up2_off (Or.inl (by decide)), up2_off (Or.inl (by decide))]
    have k2 : up2 (up2 (up2 ν 71 (800 + os.length) (nI a)) 72 (800 + os.length) (nI b)) 59 23 (nI (os.length + 1)) 72 (800 + i) = up2 (up2 ν 71 (800 + os.length) (nI a)) 72 (800 + os.length) (nI b) 72 (800 + i) := by rw [up2_off (Or.inl (by decide))]
    rw [k1, k2]
    by_cases z : i = os.length
    · have hg : (os ++ [(a, b)]).getD i (0, 0) = (a, b) := by
        rw [z, List.getD_eq_getElem?_getD, List.getElem?_append_right (Nat.le_refl _), Nat.sub_self]; rfl
      rw [hg, z, up2_same, up2_same]; exact ⟨rfl, rfl⟩
    · have hg : (os ++ [(a, b)]).getD i (0, 0) = os.getD i (0, 0) := by
        rw [List.getD_eq_getElem?_getD, List.getD_eq_getElem?_getD, List.getElem?_append_left (by omega)]
      rw [hg, up2_off (Or.inr (by omega)), up2_off (Or.inr (by omega)), up2_off (Or.inl (by decide))]; exact hc i (by omega)
theorem ask_rng : ∀ k, k < 25 → 1 ≤ k → ((7 ≤ rwn k ∧ rwn k ≤ 16) ↔ (8 ≤ k ∧ k < 18)) := by decide +kernel
theorem gm_unit (h : GdM ν0 T n p os ν) (hl4 : os.length < 400) : Ev (Mo_readUnit 59 ν) (fun r ν' => StM ν0 T n os (unS T n p) r ν') := by
  have ht := h.2.2.2.1
  have hp := h.2.2.1
  have h4 := tkM_rng (tK T n p)
  unfold unS
  have go : ∀ (a b : Nat) (v1 v2 : Int32) (c : Nat × Nat), v1 = nI a → v2 = nI b → exp1 c = [(a, b)] → Ev (Mo_readUnit_71 59 v2 v1 ν) (fun r ν' => StM ν0 T n os (.ok ([c], tE T n p)) r ν') := by
    intro a b v1 v2 c h1 h2 h3
    unfold Mo_readUnit_71
    refine ev_cl (ev_mono (gm_emits h hl4 a b h1 h2) (fun _ ν1 q1 => ev_cl (ev_mono (gm_reads q1) (fun _ ν2 q2 => ev_some ⟨rfl, ?_⟩))))
    show GdM ν0 T n (tE T n p) (os ++ (exp1 c ++ [])) ν2
    rw [List.append_nil, h3]; exact q2
  have no : tK T n p ≠ 30 → ¬ (8 ≤ tK T n p ∧ tK T n p < 18) → Ev (Mo_readUnit_23 59 ν) (fun r ν' => StM ν0 T n os (if tK T n p = 30 then .ok ([(30, tV T n p)], tE T n p) else if 8 ≤ tK T n p ∧ tK T n p < 18 then .ok ([(tK T n p, 0)], tE T n p) else .error (1, tF T n p)) r ν') := by
    intro c1 c2
    rw [if_neg c1, if_neg c2]
    unfold Mo_readUnit_23 Mo_readUnit_24
    rw [if_pos rfl, gF_eq, ht.1, if_neg (fun z : nI (tkM (tk T n p).1) = 3 => c1 (tkM_3 ((nI_eq (b := 3) (by show tkM (tK T n p) < _; omega) (by omega)).mp z)))]
    exact ev_cl (ev_mono (gm_errs h 1 rfl) (fun r ν1 q1 => ev_some q1))
  unfold Mo_readUnit
  rw [gF_eq, ht.1]
  by_cases q : tkM (tK T n p) = 2
  · have h13 : ν 59 13 = nI (rwn (tK T n p)) := ht.2.1 q
    have hw := tkM_2 q
    have r2 := rwn_lt (tK T n p) (by omega)
    have hr := ask_rng (tK T n p) (by omega) hw.1
    rw [if_pos (show nI (tkM (tk T n p).1) = 2 by rw [show tkM (tk T n p).1 = 2 from q]; rfl), gF_eq, h13]
    unfold Mo_canAsk
    rw [isIn_eq, cl_eq, zg_eq (by split; exact Or.inl rfl; exact Or.inr rfl), cl_eq]
    by_cases c : 8 ≤ tK T n p ∧ tK T n p < 18
    · have hc := hr.mpr c
      rw [if_neg (show ¬ (nI (rwn (tK T n p)) < 7 ∨ 16 < nI (rwn (tK T n p))) by
        rintro (z | z)
        · exact nI_nlt (b := 7) hc.1 (by omega) z
        · exact nI_nlt (a := 16) hc.2 (by omega) z), if_neg (show ¬ (1 : Int32) = 0 by decide), if_neg (show ¬ tK T n p = 30 by omega), if_pos c]
      unfold Mo_readUnit_24 Mo_readUnit_43 Mo_readUnit_53
      rw [if_neg (show ¬ (1 : Int32) = 0 by decide), if_neg (show ¬ (1 : Int32) = 0 by decide), if_neg (show ¬ (1 : Int32) = 0 by decide), gF_eq, h13]
      refine go 1 (permW (tK T n p - 8)) 1 _ (tK T n p, 0) rfl ?_ ?_
      · show nI (rwn (tK T n p)) - nI 7 = _
        rw [pk_sub hc.1]
        unfold rwn
        rw [if_pos c]
        congr 1; omega
      · show exp1 (tK T n p, 0) = _
        unfold exp1
        rw [if_neg (show ¬ tK T n p = 30 by omega), if_pos c]
    · rw [if_pos (show nI (rwn (tK T n p)) < 7 ∨ 16 < nI (rwn (tK T n p)) by
        by_cases z : rwn (tK T n p) < 7
        · exact Or.inl (nI_lt (b := 7) z (by omega))
        · exact Or.inr (nI_lt (a := 16) (by
            by_cases y : rwn (tK T n p) ≤ 16
            · exact absurd (hr.mp ⟨by omega, y⟩) c
            · omega) (by omega))), if_pos rfl]
      exact no (by omega) c
  · rw [if_neg (fun z : nI (tkM (tk T n p).1) = 2 => q ((nI_eq (b := 2) (by show tkM (tK T n p) < _; omega) (by omega)).mp z))]
    by_cases c : tK T n p = 30
    · have q3 : tkM (tK T n p) = 3 := by rw [c]; rfl
      have h13 : ν 59 13 = nI (tV T n p) := ht.2.2.1 q3
      rw [if_pos c]
      unfold Mo_readUnit_23 Mo_readUnit_24
      rw [if_pos rfl, gF_eq, ht.1, if_pos (show nI (tkM (tk T n p).1) = 3 by rw [show tkM (tk T n p).1 = 3 from q3]; rfl)]
      unfold Mo_readUnit_43 Mo_readUnit_53
      rw [if_pos rfl, if_pos rfl, gF_eq, h13]
      exact go 0 (tV T n p) 0 _ (30, tV T n p) rfl rfl rfl
    · refine no c (fun z => q (tkM_w (by omega)))
end Sums
theorem suL_w {T : Nat → Nat} {n m p k : Nat} (h1 : tK T n p ≠ 42) (h2 : tK T n p ≠ 47) : suL T n (m + 1) (some k) p = prp [(k, 0)] (suL T n (m + 1) none p) := by
  rw [suL_succ, suL_succ, if_neg h1, if_neg h2, if_neg h1, if_neg h2]
  by_cases c : tK T n p = 43 ∨ tK T n p = 45
  · rw [if_pos c, if_pos c]
    cases unS T n (tE T n p) with
    | error e => rfl
    | ok q =>
      show prp (wL (some k) ++ q.1) (suL T n m (some (tK T n p)) q.2) = prp [(k, 0)] (prp (wL none ++ q.1) (suL T n m (some (tK T n p)) q.2))
      rw [prp_prp]; rfl
  · rw [if_neg c, if_neg c]; rfl
theorem gm_prodL {ν0 : Mu} {T : Nat → Nat} {n : Nat} : ∀ (m p fuel : Nat) (os : Cds) (ν : Mu), n - p < m → n - p < fuel → os.length ≤ p → GdM ν0 T n p os ν → Ev (Mo_readProduct_10 59 fuel ν) (fun r ν' => (r = -1 ∧ ∃ e, ErM ν0 e ν' ∧ ∀ w, suL T n m w p = .error e) ∨ (r = 0 ∧ ∃ c p1 m1, p ≤ p1 ∧ n - p1 < m1 + 1 ∧ GdM ν0 T n p1 (os ++ expL c) ν' ∧ xl c + p ≤ p1 ∧ (tK T n p1 ≠ 42 ∧ tK T n p1 ≠ 47) ∧ ∀ w, suL T n m w p = prp c (suL T n (m1 + 1) w p1))) := by
  intro m
  induction m with
  | zero => intro p fuel os ν hm; omega
  | succ m ih =>
    intro p fuel os ν hm hfu hl h
    obtain ⟨f, rfl⟩ : ∃ k, fuel = k + 1 := ⟨fuel - 1, by omega⟩
    have ht := h.2.2.2.1
    have hp := h.2.2.1
    have hn := gm_n h.2
    have hE := tE_le (T := T) hp
    show Ev (Mo_readProduct_10b 59 (Mo_readProduct_10 59 f) ν) _
    unfold Mo_readProduct_10b
    rw [mo_isSign (v := 42) ht hp 42 rfl (by decide), cl_eq]
    by_cases c1 : tK T n p = 42
    · have hg := tE_gt (T := T) hp (by omega)
      rw [if_pos c1, if_neg (show ¬ (1 : Int32) = 0 by decide)]
      unfold Mo_readProduct_28
      rw [mo_isSign (v := 42) ht hp 42 rfl (by decide), cl_eq, if_pos c1]
      refine ev_cl (ev_mono (gm_reads h) (fun _ ν1 h1 => ?_))
      rw [if_neg (show ¬ (1 : Int32) = 0 by decide)]
      unfold Mo_readProduct_57 Mo_readProduct_74 Mo_readProduct_94
      rw [if_neg (show ¬ (1 : Int32) = 0 by decide)]
      refine ev_cl (ev_mono (gm_unit h1 (by omega)) (fun r ν2 h2 => ?_))
      cases hu : unS T n (tE T n p) with
      | error er =>
        rw [hu] at h2
        rw [if_pos h2.1]
        refine ev_some (Or.inl ⟨rfl, er, h2.2, fun w => ?_⟩)
        rw [suL_succ, if_pos c1, hu]; rfl
      | ok q =>
        rw [hu] at h2
        obtain ⟨a1, a2, a3, a4⟩ := un_sz (c := q.1) (p' := q.2) hE hu
        have hl2 : (os ++ expL q.1).length = os.length + 1 := by rw [List.length_append]; exact congrArg (os.length + ·) a3
        rw [h2.1, if_neg (show ¬ (0 : Int32) = -1 by decide), if_neg (show ¬ (1 : Int32) = 0 by decide)]
        refine ev_cl (ev_mono (gm_emits h2.2 (by omega) 4 0 rfl rfl) (fun _ ν3 h3 => ?_))
        refine ev_mono (ih q.2 f _ ν3 (by omega) (by omega) (by rw [List.length_append, hl2]; show os.length + 1 + 1 ≤ q.2; omega) h3) (fun r ν4 h4 => ?_)
        rcases h4 with ⟨e1, e2, e3, e4⟩ | ⟨e1, c, p1, m1, e2, e3, e4, e5, e6, e7⟩
        · refine Or.inl ⟨e1, e2, e3, fun w => ?_⟩
          rw [suL_succ, if_pos c1, hu]
          show prp (q.1 ++ [(42, 0)]) (suL T n m w q.2) = _
          rw [e4]; rfl
        · refine Or.inr ⟨e1, q.1 ++ [(42, 0)] ++ c, p1, m1, by omega, e3, ?_, ?_, e6, fun w => ?_⟩
          · rw [expL_app, expL_app, ← List.append_assoc, ← List.append_assoc]; exact e4
          · rw [xl_app, xl_app, a3, xl_one (c := (42, 0)) (by decide)]; omega
          · rw [suL_succ, if_pos c1, hu]
            show prp (q.1 ++ [(42, 0)]) (suL T n m w q.2) = _
            rw [e7, prp_prp]
    rw [if_neg c1, if_pos rfl, mo_isSign (v := 47) ht hp 47 rfl (by decide), cl_eq]
    by_cases c2 : tK T n p = 47
    · have hg := tE_gt (T := T) hp (by omega)
      rw [if_pos c2, if_neg (show ¬ (1 : Int32) = 0 by decide)]
      unfold Mo_readProduct_28
      rw [mo_isSign (v := 42) ht hp 42 rfl (by decide), cl_eq, if_neg c1]
      refine ev_cl (ev_mono (gm_reads h) (fun _ ν1 h1 => ?_))
      rw [if_pos rfl, gF_eq, h1.2.2.2.1.1]
      have h4 := tkM_rng (tK T n (tE T n p))
      by_cases d1 : tK T n (tE T n p) = 30
      · have q3 : tkM (tK T n (tE T n p)) = 3 := by rw [d1]; rfl
        have hg2 := tE_gt (T := T) hE (by omega)
        have hE2 := tE_le (T := T) hE
        have hv := tV_lt hE d1
        have h13 : ν1 59 13 = nI (tV T n (tE T n p)) := h1.2.2.2.1.2.2.1 q3
        rw [if_pos (show nI (tkM (tk T n (tE T n p)).1) = 3 by rw [show tkM (tk T n (tE T n p)).1 = 3 from q3]; rfl)]
        unfold Mo_readProduct_57
        rw [if_pos rfl, gF_eq, h13]
        by_cases d2 : tV T n (tE T n p) = 0
        · rw [if_pos (by rw [d2]; rfl)]
          refine ev_cl (ev_mono (gm_errs h1 2 rfl) (fun r ν2 h2 => ev_some (Or.inl ⟨h2.1, _, h2.2, fun w => ?_⟩)))
          rw [suL_succ, if_neg c1, if_pos c2, if_pos d1, if_pos d2]
        · rw [if_neg (fun z : nI (tV T n (tE T n p)) = 0 => d2 ((nI_eq (b := 0) (by omega) (by omega)).mp z))]
          unfold Mo_readProduct_74 Mo_readProduct_94
          refine ev_cl (ev_mono (gm_unit h1 (by omega)) (fun r ν2 h2 => ?_))
          have hu : unS T n (tE T n p) = .ok ([(30, tV T n (tE T n p))], tE T n (tE T n p)) := by unfold unS; rw [if_pos d1]
          rw [hu] at h2
          rw [h2.1, if_neg (show ¬ (0 : Int32) = -1 by decide), if_pos rfl]
          have h3 : GdM ν0 T n (tE T n (tE T n p)) (os ++ [(0, tV T n (tE T n p))]) ν2 := h2.2
          have hl2 : (os ++ [(0, tV T n (tE T n p))]).length = os.length + 1 := by rw [List.length_append]; rfl
          refine ev_cl (ev_mono (gm_emits h3 (by omega) 5 0 rfl rfl) (fun _ ν3 h3 => ?_))
          refine ev_mono (ih _ f _ ν3 (by omega) (by omega) (by rw [List.length_append, hl2]; show os.length + 1 + 1 ≤ _; omega) h3) (fun r ν4 h4 => ?_)
          rcases h4 with ⟨e1, e2, e3, e4⟩ | ⟨e1, c, p1, m1, e2, e3, e4, e5, e6, e7⟩
          · refine Or.inl ⟨e1, e2, e3, fun w => ?_⟩
            rw [suL_succ, if_neg c1, if_pos c2, if_pos d1, if_neg d2, e4]; rfl
          · refine Or.inr ⟨e1, [(47, tV T n (tE T n p))] ++ c, p1, m1, by omega, e3, ?_, ?_, e6, fun w => ?_⟩
            · have hx : expL ([(47, tV T n (tE T n p))] ++ c) = [(0, tV T n (tE T n p))] ++ ([(5, 0)] ++ expL c) := rfl
              rw [hx, ← List.append_assoc, ← List.append_assoc]; exact e4
            · rw [xl_app, xl_div]; omega
            · rw [suL_succ, if_neg c1, if_pos c2, if_pos d1, if_neg d2, e7, prp_prp]
      · rw [if_neg (fun z : nI (tkM (tk T n (tE T n p)).1) = 3 => d1 (tkM_3 ((nI_eq (b := 3) (by show tkM (tK T n (tE T n p)) < _; omega) (by omega)).mp z)))]
        refine ev_cl (ev_mono (gm_errs h1 1 rfl) (fun r ν2 h2 => ev_some (Or.inl ⟨h2.1, _, h2.2, fun w => ?_⟩)))
        rw [suL_succ, if_neg c1, if_pos c2, if_neg d1]
    · rw [if_neg c2, if_pos rfl]
      refine ev_some (Or.inr ⟨rfl, [], p, m, Nat.le_refl _, hm, ?_, ?_, ⟨c1, c2⟩, fun w => ?_⟩)
      · show GdM ν0 T n p (os ++ []) ν
        rw [List.append_nil]; exact h
      · rw [xl_nil]; omega
      · cases suL T n (m + 1) w p with
        | error e => rfl
        | ok q => rfl
theorem gm_sumL {ν0 : Mu} {T : Nat → Nat} {n : Nat} : ∀ (d m p fuel : Nat) (os : Cds) (ν : Mu), n - p ≤ d → n - p < m + 1 → n - p < fuel → os.length ≤ p → (tK T n p ≠ 42 ∧ tK T n p ≠ 47) → GdM ν0 T n p os ν → Ev (Mo_readSum_10 59 fuel ν) (fun r ν' => StM ν0 T n os (suL T n (m + 1) none p) r ν') := by
  intro d
  induction d with
  | zero =>
    intro m p fuel os ν hd hm hfu hl hk h
    obtain ⟨f, rfl⟩ : ∃ k, fuel = k + 1 := ⟨fuel - 1, by omega⟩
    have ht := h.2.2.2.1
    have hp := h.2.2.1
    have h0 : tK T n p = 0 := tK_n (by omega)
    show Ev (Mo_readSum_10b 59 (Mo_readSum_10 59 f) ν) _
    unfold Mo_readSum_10b
    rw [mo_isSign (v := 43) ht hp 43 rfl (by decide), cl_eq, if_neg (show ¬ tK T n p = 43 by omega), if_pos rfl, mo_isSign (v := 45) ht hp 45 rfl (by decide), cl_eq, if_neg (show ¬ tK T n p = 45 by omega), if_pos rfl, suL_succ, if_neg (show ¬ tK T n p = 42 by omega), if_neg (show ¬ tK T n p = 47 by omega), if_neg (show ¬ (tK T n p = 43 ∨ tK T n p = 45) by omega)]
    refine ev_some ⟨rfl, ?_⟩
    show GdM ν0 T n p (os ++ []) ν
    rw [List.append_nil]; exact h
  | succ d ih =>
    intro m p fuel os ν hd hm hfu hl hk h
    obtain ⟨f, rfl⟩ : ∃ k, fuel = k + 1 := ⟨fuel - 1, by omega⟩
    have ht := h.2.2.2.1
    have hp := h.2.2.1
    have hn := gm_n h.2
    have hE := tE_le (T := T) hp
    show Ev (Mo_readSum_10b 59 (Mo_readSum_10 59 f) ν) _
    unfold Mo_readSum_10b
    rw [mo_isSign (v := 43) ht hp 43 rfl (by decide), cl_eq, suL_succ, if_neg hk.1, if_neg hk.2]
    by_cases c3 : tK T n p = 43 ∨ tK T n p = 45
    · have hg := tE_gt (T := T) hp (by omega)
      rw [if_pos c3]
      have main : ∀ (o : Nat) (v : Int32), v = nI o → exp1 (tK T n p, 0) = [(o, 0)] → Ev (Mo_readSum_42 59 (Mo_readSum_10 59 f) v ν) (fun r ν' => StM ν0 T n os (pbd (unS T n (tE T n p)) (fun c p1 => prp (wL none ++ c) (suL T n m (some (tK T n p)) p1))) r ν') := by
        intro o v hv ho
        unfold Mo_readSum_42 Mo_readProduct
        refine ev_cl (ev_mono (gm_reads h) (fun _ ν1 h1 => ev_cl (ev_cl (ev_mono (gm_unit h1 (by omega)) (fun r ν2 h2 => ?_)))))
        cases hu : unS T n (tE T n p) with
        | error er =>
          rw [hu] at h2
          rw [if_pos h2.1]
          refine ev_some ?_
          rw [if_pos rfl]
          exact ev_some ⟨rfl, h2.2⟩
        | ok q =>
          rw [hu] at h2
          obtain ⟨a1, a2, a3, a4⟩ := un_sz (c := q.1) (p' := q.2) hE hu
          have hl2 : (os ++ expL q.1).length = os.length + 1 := by rw [List.length_append]; exact congrArg (os.length + ·) a3
          rw [h2.1, if_neg (show ¬ (0 : Int32) = -1 by decide)]
          refine ev_mono (gm_prodL m q.2 FU _ ν2 (by omega) (by unfold FU; omega) (by omega) h2.2) (fun r ν3 h3 => ?_)
          show Ev _ (fun r ν' => StM ν0 T n os (prp (wL none ++ q.1) (suL T n m (some (tK T n p)) q.2)) r ν')
          rcases h3 with ⟨e1, e2, e3, e4⟩ | ⟨e1, c, p1, m1, e2, e3, e4, e5, e6, e7⟩
          · rw [if_pos e1, e4]
            exact ev_some ⟨rfl, e3⟩
          · have hl3 : (os ++ expL q.1 ++ expL c).length = os.length + 1 + xl c := by rw [List.length_append, hl2]; rfl
            rw [e1, if_neg (show ¬ (0 : Int32) = -1 by decide), e7, prp_prp, suL_w e6.1 e6.2, prp_prp]
            refine ev_cl (ev_mono (gm_emits e4 (by have := e4.2.2.1; omega) o 0 hv rfl) (fun _ ν4 h4 => ?_))
            refine ev_mono (ih m1 p1 f _ ν4 (by omega) e3 (by omega) (by rw [List.length_append, hl3]; show os.length + 1 + xl c + 1 ≤ p1; omega) e6 h4) (fun r ν5 h5 => stM_prp ?_)
            have hx : expL (wL none ++ q.1 ++ c ++ [(tK T n p, 0)]) = expL q.1 ++ expL c ++ [(o, 0)] := by
              rw [expL_app, expL_app]
              show expL q.1 ++ expL c ++ (exp1 (tK T n p, 0) ++ []) = _
              rw [ho, List.append_nil]
            rw [hx, ← List.append_assoc, ← List.append_assoc]; exact h5
      have hval : ν 59 13 = nI (tK T n p) := by
        rcases c3 with c3 | c3
        · exact ht.2.2.2.1 (by show tkM (tK T n p) = 4; rw [c3]; rfl)
        · exact ht.2.2.2.1 (by show tkM (tK T n p) = 4; rw [c3]; rfl)
      have m28 : Ev (Mo_readSum_28 59 (Mo_readSum_10 59 f) ν) (fun r ν' => StM ν0 T n os (pbd (unS T n (tE T n p)) (fun c p1 => prp (wL none ++ c) (suL T n m (some (tK T n p)) p1))) r ν') := by
        unfold Mo_readSum_28
        rw [gF_eq, hval]
        by_cases c : tK T n p = 43
        · rw [if_pos (show nI (tK T n p) = 43 by rw [c]; rfl)]
          exact main 2 2 rfl (by rw [c]; rfl)
        · rw [if_neg (fun z : nI (tK T n p) = 43 => c ((tK_is hp 43 (by omega)).mp z))]
          have c45 : tK T n p = 45 := by omega
          exact main 3 3 rfl (by rw [c45]; rfl)
      by_cases c : tK T n p = 43
      · rw [if_pos c, if_neg (show ¬ (1 : Int32) = 0 by decide)]; exact m28
      · have c45 : tK T n p = 45 := by omega
        rw [if_neg c, if_pos rfl, mo_isSign (v := 45) ht hp 45 rfl (by decide), cl_eq, if_pos c45, if_neg (show ¬ (1 : Int32) = 0 by decide)]; exact m28
    · rw [if_neg c3, if_neg (fun z => c3 (Or.inl z)), if_pos rfl, mo_isSign (v := 45) ht hp 45 rfl (by decide), cl_eq, if_neg (fun z => c3 (Or.inr z)), if_pos rfl]
      refine ev_some ⟨rfl, ?_⟩
      show GdM ν0 T n p (os ++ []) ν
      rw [List.append_nil]; exact h
theorem gm_sum {ν0 : Mu} {T : Nat → Nat} {n p : Nat} {os : Cds} {ν : Mu} (h : GdM ν0 T n p os ν) (hl : os.length ≤ p) (hl4 : os.length < 400) : Ev (Mo_readSum 59 ν) (fun r ν' => StM ν0 T n os (suS T n p) r ν') := by
  have hp := h.2.2.1
  have hn := gm_n h.2
  unfold Mo_readSum Mo_readProduct suS
  refine ev_cl (ev_cl (ev_mono (gm_unit h hl4) (fun r ν2 h2 => ?_)))
  cases hu : unS T n p with
  | error er =>
    rw [hu] at h2
    rw [if_pos h2.1]
    refine ev_some ?_
    rw [if_pos rfl]
    exact ev_some ⟨rfl, h2.2⟩
  | ok q =>
    rw [hu] at h2
    obtain ⟨a1, a2, a3, a4⟩ := un_sz (c := q.1) (p' := q.2) hp hu
    have hl2 : (os ++ expL q.1).length = os.length + 1 := by rw [List.length_append]; exact congrArg (os.length + ·) a3
    rw [h2.1, if_neg (show ¬ (0 : Int32) = -1 by decide)]
    refine ev_mono (gm_prodL 401 q.2 FU _ ν2 (by omega) (by unfold FU; omega) (by omega) h2.2) (fun r ν3 h3 => ?_)
    show Ev _ (fun r ν' => StM ν0 T n os (prp q.1 (suL T n 401 none q.2)) r ν')
    rcases h3 with ⟨e1, e2, e3, e4⟩ | ⟨e1, c, p1, m1, e2, e3, e4, e5, e6, e7⟩
    · rw [if_pos e1, e4]
      exact ev_some ⟨rfl, e3⟩
    · have hl3 : (os ++ expL q.1 ++ expL c).length = os.length + 1 + xl c := by rw [List.length_append, hl2]; rfl
      rw [e1, if_neg (show ¬ (0 : Int32) = -1 by decide), e7, prp_prp]
      refine ev_mono (gm_sumL (n - p1) m1 p1 FU _ ν3 (Nat.le_refl _) e3 (by unfold FU; omega) (by omega) e6 e4) (fun r ν5 h5 => stM_prp ?_)
      rw [expL_app, ← List.append_assoc]; exact h5
