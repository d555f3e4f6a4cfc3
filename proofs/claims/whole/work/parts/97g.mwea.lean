/-! L3: THE REFERENCE READS WEATHER, HEIRS -/
theorem deed_word : ∀ k, k < 25 → 1 ≤ k → ((19 ≤ rwn k ∧ rwn k ≤ 22) ↔ (20 ≤ k ∧ k ≤ 23)) ∧ (20 ≤ k → rwn k = k - 1) := by decide +kernel
theorem mo_kind {T : Nat → Nat} {n p : Nat} {ν : Mu} (ht : TokM T n p ν) (hp : p ≤ n) : Mo_kindOfDeed 59 ν = some (if tK T n p = 14 then 0 else if 20 ≤ tK T n p ∧ tK T n p ≤ 23 then nI (tK T n p - 19) else -1, ν) := by
  have h4 := tkM_rng (tK T n p)
  unfold Mo_kindOfDeed
  rw [mo_isWord (v := 9) ht 14 rfl (by omega), cl_eq]
  by_cases c14 : tK T n p = 14
  · rw [if_pos c14, if_neg (show ¬ (1 : Int32) = 0 by decide), if_pos c14]
  rw [if_neg c14, if_pos rfl, if_neg c14, gF_eq, ht.1]
  by_cases q : tkM (tK T n p) = 2
  · have h13 : ν 59 13 = nI (rwn (tK T n p)) := ht.2.1 q
    have hw := tkM_2 q
    have r2 := rwn_lt (tK T n p) (by omega)
    obtain ⟨d1, d2⟩ := deed_word (tK T n p) (by omega) hw.1
    rw [if_pos (show nI (tkM (tk T n p).1) = 2 by rw [show tkM (tk T n p).1 = 2 from q]; rfl), gF_eq, h13, isIn_eq, cl_eq]
    by_cases c : 20 ≤ tK T n p ∧ tK T n p ≤ 23
    · have c' := d1.mpr c
      rw [if_neg (show ¬ (nI (rwn (tK T n p)) < 19 ∨ 22 < nI (rwn (tK T n p))) by
        rintro (z | z)
        · exact nI_nlt (b := 19) c'.1 (by omega) z
        · exact nI_nlt (a := 22) c'.2 (by omega) z), if_neg (show ¬ (1 : Int32) = 0 by decide), gF_eq, h13, if_pos c, d2 c.1]
      show some (nI 1 + nI (tK T n p - 1) - nI 19, ν) = _
      rw [nI_add, pk_sub (by omega)]
      congr 3; omega
    · rw [if_pos (show nI (rwn (tK T n p)) < 19 ∨ 22 < nI (rwn (tK T n p)) by
        by_cases z : rwn (tK T n p) < 19
        · exact Or.inl (nI_lt (b := 19) z (by omega))
        · exact Or.inr (nI_lt (a := 22) (by
            by_cases y : rwn (tK T n p) ≤ 22
            · exact absurd (d1.mp ⟨by omega, y⟩) c
            · omega) (by omega))), if_pos rfl, if_neg c]
  · rw [if_neg (fun z : nI (tkM (tk T n p).1) = 2 => q ((nI_eq (b := 2) (by show tkM (tK T n p) < _; omega) (by omega)).mp z)), if_neg (fun z => q (tkM_w (by omega)))]
def DeedOk (ν0 : Mu) (a : Nat) (w : WLn) (ν : Mu) : Prop := ν 76 a = nI w.1 ∧ ν 76 (a + 1) = nI w.2.1 ∧ ν 76 (a + 2) = nI w.2.2.1 ∧ ν 76 (a + 3) = nI w.2.2.2 ∧ ∀ i, i < a → ν 76 i = ν0 76 i
def DeR (ν0 : Mu) (T : Nat → Nat) (n a : Nat) (x : ER (WLn × Nat)) (r : Int32) (ν : Mu) : Prop := match x with
  | .error e => r = -1 ∧ FrX ν0 ν ∧ ν 59 27 = nI e.1 ∧ ν 59 28 = nI e.2
  | .ok q => r = 0 ∧ XM ν0 T n q.2 ν ∧ DeedOk ν0 a q.1 ν
section Deeds
variable {T : Nat → Nat} {n p P a d k x : Nat} {ν0 ν : Mu}
theorem de_152 (h : XM ν0 T n p ν) (ha : 64 ≤ a ∧ a + 4 ≤ 128) (h0 : ν 76 a = nI d) (h1 : ν 76 (a + 1) = nI k) (h2 : ν 76 (a + 2) = nI x) (ho : ∀ i, i < a → ν 76 i = ν0 76 i) (y : Nat) (hy : y < 10000) {v s : Int32} (hv : v = nI a) (hs : s = nI (a + 3)) : Ev (Mo_readDeed_152 59 v (nI y) s ν) (fun r ν' => DeR ν0 T n a (mkS T n (d, k, x, y) p) r ν') := by
  unfold Mo_readDeed_152
  simp only [Nat.reduceAdd]
  rw [hv, hs, stA_nI (by omega) (by omega), show nI a + 3 = nI (a + 3) from nI_add a 3, ldA_nI (by omega) (by omega), up2_same, if_neg (nI_n1 hy)]
  have x2 : XM ν0 T n p (up2 ν 76 (a + 3) (nI y)) := xm_up h (Or.inr (Or.inr (Or.inl ⟨rfl, by omega⟩)))
  have ok2 : DeedOk ν0 a (d, k, x, y) (up2 ν 76 (a + 3) (nI y)) := by
    refine ⟨?_, ?_, ?_, up2_same _ _ _ _, fun i hi => ?_⟩
    · rw [up2_off (Or.inr (by omega))]; exact h0
    · rw [up2_off (Or.inr (by omega))]; exact h1
    · rw [up2_off (Or.inr (by omega))]; exact h2
    · rw [up2_off (Or.inr (by omega))]; exact ho i hi
  generalize up2 ν 76 (a + 3) (nI y) = ν2 at x2 ok2 ⊢
  refine ev_cl (ev_mono (gm_mark (d, k, x, y) (xm_g x2)) (fun r ν3 h3 => ev_some ?_))
  cases hm : mkS T n (d, k, x, y) p with
  | error e =>
    rw [hm] at h3
    exact ⟨h3.1, frX_Q x2.1 h3.2.1, h3.2.2.1, h3.2.2.2⟩
  | ok q =>
    have hq := (mk_sz h.2.2.1 hm).2.2
    rw [hm] at h3
    refine ⟨h3.1, xm_Q x2 h3.2, ?_⟩
    rw [hq]
    obtain ⟨o1, o2, o3, o4, o5⟩ := ok2
    have e76 := h3.2.1.1 76 (by decide)
    exact ⟨by rw [e76]; exact o1, by rw [e76]; exact o2, by rw [e76]; exact o3, by rw [e76]; exact o4, fun i hi => by rw [e76]; exact o5 i hi⟩
theorem de_114 (h : XM ν0 T n p ν) (ha : 64 ≤ a ∧ a + 4 ≤ 128) (h0 : ν 76 a = nI d) (h1 : ν 76 (a + 1) = nI k) (ho : ∀ i, i < a → ν 76 i = ν0 76 i) (hx : x < 10000) (hk3 : k < 5) {v vk s : Int32} (hv : v = nI a) (hs : s = nI (a + 2)) (hvk : vk = nI k) : Ev (Mo_readDeed_114 59 v vk (nI x) s ν) (fun r ν' => DeR ν0 T n a (if k = 3 then ebd (nmS T n p 0 10) (fun y => mkS T n (d, k, x, y.1) y.2) else mkS T n (d, k, x, 0) p) r ν') := by
  unfold Mo_readDeed_114
  simp only [Nat.reduceAdd]
  rw [hv, hs, hvk, stA_nI (by omega) (by omega), show nI a + 2 = nI (a + 2) from nI_add a 2, show nI a + 3 = nI (a + 3) from nI_add a 3, ldA_nI (by omega) (by omega), up2_same, if_neg (nI_n1 hx)]
  have x2 : XM ν0 T n p (up2 ν 76 (a + 2) (nI x)) := xm_up h (Or.inr (Or.inr (Or.inl ⟨rfl, by omega⟩)))
  have o0 : up2 ν 76 (a + 2) (nI x) 76 a = nI d := by rw [up2_off (Or.inr (by omega))]; exact h0
  have o1 : up2 ν 76 (a + 2) (nI x) 76 (a + 1) = nI k := by rw [up2_off (Or.inr (by omega))]; exact h1
  have o2 : up2 ν 76 (a + 2) (nI x) 76 (a + 2) = nI x := up2_same _ _ _ _
  have oo : ∀ i, i < a → up2 ν 76 (a + 2) (nI x) 76 i = ν0 76 i := fun i hi => by rw [up2_off (Or.inr (by omega))]; exact ho i hi
  generalize up2 ν 76 (a + 2) (nI x) = ν2 at x2 o0 o1 o2 oo ⊢
  by_cases c : k = 3
  · rw [if_pos (show nI k = 3 by rw [c]; rfl), if_pos c]
    refine ev_cl (ev_mono (gm_num (xm_g x2) 0 10 rfl rfl (by omega) (by omega)) (fun r ν3 h3 => ?_))
    cases hm : nmS T n p 0 10 with
    | error e =>
      rw [hm] at h3
      unfold Mo_readDeed_152
      simp only [Nat.reduceAdd]
      rw [stA_nI (by omega) (by omega), show nI a + 3 = nI (a + 3) from nI_add a 3, ldA_nI (by omega) (by omega), up2_same, if_pos h3.1]
      exact ev_some ⟨rfl, frX_up (frX_Q x2.1 h3.2.1) (Or.inr (Or.inr (Or.inl ⟨rfl, by omega⟩))), by rw [up2_off (Or.inl (by decide))]; exact h3.2.2.1, by rw [up2_off (Or.inl (by decide))]; exact h3.2.2.2⟩
    | ok y =>
      have hy := (nm_sz x2.2.2.1 hm).2.2.2.2
      rw [hm] at h3
      have e76 := h3.2.1.1 76 (by decide)
      rw [h3.1]
      exact de_152 (xm_Q x2 h3.2) ha (by rw [e76]; exact o0) (by rw [e76]; exact o1) (by rw [e76]; exact o2) (fun i hi => by rw [e76]; exact oo i hi) y.1 hy rfl rfl
  · rw [if_neg (fun z : nI k = 3 => c ((nI_eq (b := 3) (by omega) (by omega)).mp z)), if_neg c]
    exact de_152 x2 ha o0 o1 o2 oo 0 (by omega) rfl rfl
theorem gm_deed (hC : CoM T n p [] ν) (cw : tK T n p = 19) (h6 : ν 59 6 = nI P) (hP : P ≤ 16) (ha : 64 ≤ a ∧ a + 4 ≤ 128) : Ev (Mo_readDeed 59 (nI a) ν) (fun r ν' => DeR ν T n a (weL T n P (tE T n p)) r ν') := by
  have hp := hC.2.1
  have hE := tE_le (T := T) hp
  unfold Mo_readDeed weL
  simp only [Nat.reduceAdd]
  refine ev_cl (ev_mono (gm_told (v := 18) ⟨frQ_refl ν, hC⟩ 19 0 1000 (by omega) rfl rfl rfl (by omega) (by omega)) (fun r ν1 h1 => ?_))
  rw [if_pos cw] at h1
  rw [stA_nI (by omega) (by omega), ldA_nI (by omega) (by omega), up2_same]
  cases hu : nmS T n (tE T n p) 0 1000 with
  | error e =>
    rw [hu] at h1
    rw [if_pos h1.1]
    exact ev_some ⟨rfl, frX_up (frX_Q (frX_refl ν) h1.2.1) (Or.inr (Or.inr (Or.inl ⟨rfl, by omega⟩))), by rw [up2_off (Or.inl (by decide))]; exact h1.2.2.1, by rw [up2_off (Or.inl (by decide))]; exact h1.2.2.2⟩
  | ok d =>
    obtain ⟨a1, a2, a3, a4, a5⟩ := nm_sz hE hu
    rw [hu] at h1
    rw [h1.1, if_neg (nI_n1 a5)]
    have x2 : XM ν T n d.2 (up2 ν1 76 a (nI d.1)) := xm_up ⟨frX_Q (frX_refl ν) h1.2.1, h1.2.2⟩ (Or.inr (Or.inr (Or.inl ⟨rfl, by omega⟩)))
    have s0 : up2 ν1 76 a (nI d.1) 76 a = nI d.1 := up2_same _ _ _ _
    have so : ∀ i, i < a → up2 ν1 76 a (nI d.1) 76 i = ν 76 i := fun i hi => by rw [up2_off (Or.inr (by omega)), h1.2.1.1 76 (by decide)]
    generalize up2 ν1 76 a (nI d.1) = ν2 at x2 s0 so ⊢
    show Ev _ (fun r ν' => DeR ν T n a (if tK T n d.2 = 14 then ebd (nmS T n (tE T n d.2) 0 10) (fun x => mkS T n (d.1, 0, x.1, 0) x.2)
        else if tK T n d.2 = 20 then ebd (nmS T n (tE T n d.2) 1 1000) (fun x => mkS T n (d.1, 1, x.1, 0) x.2)
        else if tK T n d.2 = 21 then mkS T n (d.1, 2, 0, 0) (tE T n d.2)
        else if tK T n d.2 = 22 then ebd (nmS T n (tE T n d.2) 0 P) (fun q => ebd (nmS T n q.2 0 10) (fun x => mkS T n (d.1, 3, q.1, x.1) x.2))
        else if tK T n d.2 = 23 then ebd (nmS T n (tE T n d.2) 0 P) (fun q => mkS T n (d.1, 4, q.1, 0) q.2)
        else .error (1, tF T n d.2) : ER (WLn × Nat)) r ν')
    rw [mo_kind x2.2.2.2.1 a2, cl_eq]
    -- a kind that is there
    have step : ∀ (k : Nat) (v : Int32) (Q : Int32 → Mu → Prop) (g : Int32 → Mu → Option (Int32 × Mu)), v = nI k → k < 5 → (∀ ν4, XM ν T n (tE T n d.2) ν4 → ν4 76 a = nI d.1 → ν4 76 (a + 1) = nI k → (∀ i, i < a → ν4 76 i = ν 76 i) → Ev (g v ν4) Q) → Ev (if v = ((-1)) then cl (Mo_errs 59 1 ν2) (fun x17 μ16 => some (x17, μ16)) else cl (Mo_reads 59 ν2) (fun _ μ7 => stA μ7 76 128 (nI a + 1) v (fun μ8 => g v μ8))) Q := by
      intro k v Q g hv hk5 hg
      rw [hv, if_neg (nI_n1 (by omega))]
      refine ev_cl (ev_mono (gm_reads (xm_g x2)) (fun _ ν3 g3 => ?_))
      have e76 := g3.1.1 76 (by decide)
      rw [show nI a + 1 = nI (a + 1) from nI_add a 1, stA_nI (by omega) (by omega), ← hv]
      refine hg _ (xm_up (xm_Q x2 g3) (Or.inr (Or.inr (Or.inl ⟨rfl, by omega⟩)))) ?_ ?_ (fun i hi => ?_)
      · rw [up2_off (Or.inr (by omega)), e76]; exact s0
      · rw [up2_same, hv]
      · rw [up2_off (Or.inr (by omega)), e76]; exact so i hi
    have bad : ∀ (p' : Nat) (ν4 : Mu) (e : Nat × Nat) (r : Int32) (ν5 : Mu) (vk : Int32), XM ν T n p' ν4 → r = -1 ∧ ErM ν4 e ν5 → Ev (Mo_readDeed_114 59 (nI a) vk r (nI a + 2) ν5) (fun r ν' => DeR ν T n a (.error e) r ν') := by
      intro p' ν4 e r ν5 vk x4 h5
      unfold Mo_readDeed_114
      simp only [Nat.reduceAdd]
      rw [show nI a + 2 = nI (a + 2) from nI_add a 2, stA_nI (by omega) (by omega), ldA_nI (by omega) (by omega), up2_same, if_pos h5.1]
      exact ev_some ⟨rfl, frX_up (frX_Q x4.1 h5.2.1) (Or.inr (Or.inr (Or.inl ⟨rfl, by omega⟩))), by rw [up2_off (Or.inl (by decide))]; exact h5.2.2.1, by rw [up2_off (Or.inl (by decide))]; exact h5.2.2.2⟩
    by_cases c14 : tK T n d.2 = 14
    · rw [if_pos c14, if_pos c14]
      refine step 0 0 _ (fun x6 μ8 => (if x6 = 2 then Mo_readDeed_114 59 (nI a) x6 0 (nI a + 2) μ8 else (if x6 = 0 then cl (Mo_readNumber 59 0 9 μ8) (fun x15 μ14 => Mo_readDeed_114 59 (nI a) x6 x15 (nI a + 2) μ14) else (if x6 = 1 then cl (Mo_readNumber 59 1 999 μ8) (fun x13 μ12 => Mo_readDeed_114 59 (nI a) x6 x13 (nI a + 2) μ12) else gF μ8 59 6 (fun x9 => cl (Mo_readNumber 59 0 (x9 - 1) μ8) (fun x11 μ10 => Mo_readDeed_114 59 (nI a) x6 x11 (nI a + 2) μ10)))))) rfl (by omega) (fun ν4 x4 t0 t1 to => ?_)
      show Ev (if (0 : Int32) = 2 then _ else _) _
      rw [if_neg (by decide), if_pos rfl]
      refine ev_cl (ev_mono (gm_num (xm_g x4) 0 10 rfl rfl (by omega) (by omega)) (fun r5 ν5 h5 => ?_))
      cases hm : nmS T n (tE T n d.2) 0 10 with
      | error e =>
        rw [hm] at h5
        exact bad _ ν4 e r5 ν5 _ x4 h5
      | ok y =>
        have hy := (nm_sz x4.2.2.1 hm).2.2.2.2
        rw [hm] at h5
        have e76 := h5.2.1.1 76 (by decide)
        rw [h5.1]
        exact de_114 (k := 0) (xm_Q x4 h5.2) ha (by rw [e76]; exact t0) (by rw [e76]; exact t1) (fun i hi => by rw [e76]; exact to i hi) hy (by omega) rfl (nI_add a 2) rfl
    rw [if_neg c14, if_neg c14]
    by_cases c20 : tK T n d.2 = 20
    · rw [if_pos (show 20 ≤ tK T n d.2 ∧ tK T n d.2 ≤ 23 by omega), if_pos c20, c20]
      refine step 1 (nI 1) _ (fun x6 μ8 => (if x6 = 2 then Mo_readDeed_114 59 (nI a) x6 0 (nI a + 2) μ8 else (if x6 = 0 then cl (Mo_readNumber 59 0 9 μ8) (fun x15 μ14 => Mo_readDeed_114 59 (nI a) x6 x15 (nI a + 2) μ14) else (if x6 = 1 then cl (Mo_readNumber 59 1 999 μ8) (fun x13 μ12 => Mo_readDeed_114 59 (nI a) x6 x13 (nI a + 2) μ12) else gF μ8 59 6 (fun x9 => cl (Mo_readNumber 59 0 (x9 - 1) μ8) (fun x11 μ10 => Mo_readDeed_114 59 (nI a) x6 x11 (nI a + 2) μ10)))))) rfl (by omega) (fun ν4 x4 t0 t1 to => ?_)
      show Ev (if nI 1 = 2 then _ else _) _
      rw [if_neg (by decide), if_neg (by decide), if_pos (show nI 1 = (1 : Int32) from rfl)]
      refine ev_cl (ev_mono (gm_num (xm_g x4) 1 1000 rfl rfl (by omega) (by omega)) (fun r5 ν5 h5 => ?_))
      cases hm : nmS T n (tE T n d.2) 1 1000 with
      | error e =>
        rw [hm] at h5
        exact bad _ ν4 e r5 ν5 _ x4 h5
      | ok y =>
        have hy := (nm_sz x4.2.2.1 hm).2.2.2.2
        rw [hm] at h5
        have e76 := h5.2.1.1 76 (by decide)
        rw [h5.1]
        exact de_114 (k := 1) (xm_Q x4 h5.2) ha (by rw [e76]; exact t0) (by rw [e76]; exact t1) (fun i hi => by rw [e76]; exact to i hi) hy (by omega) rfl (nI_add a 2) rfl
    rw [if_neg c20]
    by_cases c21 : tK T n d.2 = 21
    · rw [if_pos (show 20 ≤ tK T n d.2 ∧ tK T n d.2 ≤ 23 by omega), if_pos c21, c21]
      refine step 2 (nI 2) _ (fun x6 μ8 => (if x6 = 2 then Mo_readDeed_114 59 (nI a) x6 0 (nI a + 2) μ8 else (if x6 = 0 then cl (Mo_readNumber 59 0 9 μ8) (fun x15 μ14 => Mo_readDeed_114 59 (nI a) x6 x15 (nI a + 2) μ14) else (if x6 = 1 then cl (Mo_readNumber 59 1 999 μ8) (fun x13 μ12 => Mo_readDeed_114 59 (nI a) x6 x13 (nI a + 2) μ12) else gF μ8 59 6 (fun x9 => cl (Mo_readNumber 59 0 (x9 - 1) μ8) (fun x11 μ10 => Mo_readDeed_114 59 (nI a) x6 x11 (nI a + 2) μ10)))))) rfl (by omega) (fun ν4 x4 t0 t1 to => ?_)
      show Ev (if nI 2 = 2 then _ else _) _
      rw [if_pos (show nI 2 = (2 : Int32) from rfl)]
      exact de_114 (k := 2) (x := 0) x4 ha t0 t1 to (by omega) (by omega) rfl (nI_add a 2) rfl
    rw [if_neg c21]
    by_cases c22 : tK T n d.2 = 22
    · rw [if_pos (show 20 ≤ tK T n d.2 ∧ tK T n d.2 ≤ 23 by omega), if_pos c22, c22]
      refine step 3 (nI 3) _ (fun x6 μ8 => (if x6 = 2 then Mo_readDeed_114 59 (nI a) x6 0 (nI a + 2) μ8 else (if x6 = 0 then cl (Mo_readNumber 59 0 9 μ8) (fun x15 μ14 => Mo_readDeed_114 59 (nI a) x6 x15 (nI a + 2) μ14) else (if x6 = 1 then cl (Mo_readNumber 59 1 999 μ8) (fun x13 μ12 => Mo_readDeed_114 59 (nI a) x6 x13 (nI a + 2) μ12) else gF μ8 59 6 (fun x9 => cl (Mo_readNumber 59 0 (x9 - 1) μ8) (fun x11 μ10 => Mo_readDeed_114 59 (nI a) x6 x11 (nI a + 2) μ10)))))) rfl (by omega) (fun ν4 x4 t0 t1 to => ?_)
      show Ev (if nI 3 = 2 then _ else _) _
      rw [if_neg (by decide), if_neg (by decide), if_neg (by decide), gF_eq, (x4.1.2.2.2.2 6 (by decide)).trans h6]
      refine ev_cl (ev_mono (gm_num (xm_g x4) 0 P rfl rfl (by omega) (by omega)) (fun r5 ν5 h5 => ?_))
      cases hm : nmS T n (tE T n d.2) 0 P with
      | error e =>
        rw [hm] at h5
        exact bad _ ν4 e r5 ν5 _ x4 h5
      | ok y =>
        have hy := (nm_sz x4.2.2.1 hm).2.2.2.2
        rw [hm] at h5
        have e76 := h5.2.1.1 76 (by decide)
        rw [h5.1]
        exact de_114 (k := 3) (xm_Q x4 h5.2) ha (by rw [e76]; exact t0) (by rw [e76]; exact t1) (fun i hi => by rw [e76]; exact to i hi) hy (by omega) rfl (nI_add a 2) rfl
    rw [if_neg c22]
    by_cases c23 : tK T n d.2 = 23
    · rw [if_pos (show 20 ≤ tK T n d.2 ∧ tK T n d.2 ≤ 23 by omega), if_pos c23, c23]
      refine step 4 (nI 4) _ (fun x6 μ8 => (if x6 = 2 then Mo_readDeed_114 59 (nI a) x6 0 (nI a + 2) μ8 else (if x6 = 0 then cl (Mo_readNumber 59 0 9 μ8) (fun x15 μ14 => Mo_readDeed_114 59 (nI a) x6 x15 (nI a + 2) μ14) else (if x6 = 1 then cl (Mo_readNumber 59 1 999 μ8) (fun x13 μ12 => Mo_readDeed_114 59 (nI a) x6 x13 (nI a + 2) μ12) else gF μ8 59 6 (fun x9 => cl (Mo_readNumber 59 0 (x9 - 1) μ8) (fun x11 μ10 => Mo_readDeed_114 59 (nI a) x6 x11 (nI a + 2) μ10)))))) rfl (by omega) (fun ν4 x4 t0 t1 to => ?_)
      show Ev (if nI 4 = 2 then _ else _) _
      rw [if_neg (by decide), if_neg (by decide), if_neg (by decide), gF_eq, (x4.1.2.2.2.2 6 (by decide)).trans h6]
      refine ev_cl (ev_mono (gm_num (xm_g x4) 0 P rfl rfl (by omega) (by omega)) (fun r5 ν5 h5 => ?_))
      cases hm : nmS T n (tE T n d.2) 0 P with
      | error e =>
        rw [hm] at h5
        exact bad _ ν4 e r5 ν5 _ x4 h5
      | ok y =>
        have hy := (nm_sz x4.2.2.1 hm).2.2.2.2
        rw [hm] at h5
        have e76 := h5.2.1.1 76 (by decide)
        rw [h5.1]
        exact de_114 (k := 4) (xm_Q x4 h5.2) ha (by rw [e76]; exact t0) (by rw [e76]; exact t1) (fun i hi => by rw [e76]; exact to i hi) hy (by omega) rfl (nI_add a 2) rfl
    rw [if_neg c23, if_neg (show ¬ (20 ≤ tK T n d.2 ∧ tK T n d.2 ≤ 23) by omega), if_pos rfl]
    exact ev_cl (ev_mono (gm_errs (xm_g x2) 1 rfl) (fun r ν3 g3 => ev_some ⟨g3.1, frX_Q x2.1 g3.2.1, g3.2.2.1, g3.2.2.2⟩))
end Deeds
def weM (R : List WLn) (ν : Mu) : Prop := ∀ l, l < R.length → ν 76 (64 + 4 * l) = nI (R.getD l w0).1 ∧ ν 76 (64 + 4 * l + 1) = nI (R.getD l w0).2.1 ∧ ν 76 (64 + 4 * l + 2) = nI (R.getD l w0).2.2.1 ∧ ν 76 (64 + 4 * l + 3) = nI (R.getD l w0).2.2.2
theorem lineM_weather {T : Nat → Nat} {n P : Nat} (hP : P ≤ 16) : LineM weM T n P 19 (weL T n P) (fun kb2 v1 μ1 => cl (Mo_readDeed 59 (64 + (4 * v1)) μ1) (fun x7 μ6 => (if x7 = ((-1)) then some ((-1), μ6) else kb2 (v1 + 1) μ6))) := by
  intro kb ν p R Q hC cw h6 hk hR hok her
  have hv : (64 : Int32) + 4 * nI R.length = nI (64 + 4 * R.length) := by
    show nI 64 + nI 4 * nI R.length = _
    rw [pk_mul, nI_add]
  show Ev (cl (Mo_readDeed 59 (64 + 4 * nI R.length) ν) _) Q
  rw [hv]
  refine ev_cl (ev_mono (gm_deed (P := P) hC cw h6 hP (by omega)) (fun r ν1 h1 => ?_))
  cases hm : weL T n P (tE T n p) with
  | error e =>
    rw [hm] at h1
    rw [if_pos h1.1]
    exact ev_some (her e ν1 hm h1.2.1 h1.2.2.1 h1.2.2.2)
  | ok q =>
    rw [hm] at h1
    obtain ⟨g1, g2, g3, g4, g5, g6, g7⟩ := h1
    rw [g1, if_neg (show ¬ (0 : Int32) = -1 by decide)]
    refine hok q.1 q.2 ν1 hm g2.1 g2.2 (fun l hl => ?_)
    rw [List.length_append] at hl
    have hl2 : l < R.length + 1 := hl
    by_cases z : l = R.length
    · rw [z, getD_last]; exact ⟨g3, g4, g5, g6⟩
    · rw [getD_front (by omega), g7 _ (by omega), g7 _ (by omega), g7 _ (by omega), g7 _ (by omega)]; exact hR l (by omega)
/-! HEIRS -/
def hupS (R : List (Nat × Nat)) : Nat → Int32 := R.foldl (fun f x => upd f x.1 (nI (x.2 + 1))) (fun _ => 0)
theorem hupS_push (R : List (Nat × Nat)) (x : Nat × Nat) : hupS (R ++ [x]) = upd (hupS R) x.1 (nI (x.2 + 1)) := by
  unfold hupS; rw [List.foldl_append]; rfl
def heM (R : List (Nat × Nat)) (ν : Mu) : Prop := ∀ a, a < 16 → ν 77 (16 + a) = hupS R a
theorem lineM_heirs {T : Nat → Nat} {n P : Nat} (hP : P ≤ 16) : LineM heM T n P 18 (heL T n P) (fun kb26 v1 μ1 => cl (Mo_readHeir 59 μ1) (fun x7 μ6 => (if x7 = ((-1)) then some ((-1), μ6) else kb26 (v1 + 1) μ6))) := by
  intro kb ν p R Q hC cw h6 hk hR hok her
  have hp := hC.2.1
  have hE := tE_le (T := T) hp
  unfold heL at hok her
  show Ev (cl (Mo_readHeir 59 ν) _) Q
  unfold Mo_readHeir
  rw [gF_eq, h6]
  refine ev_cl (ev_cl (ev_mono (gm_told (v := 17) ⟨frQ_refl ν, hC⟩ 18 0 P (by omega) rfl rfl rfl (by omega) (by omega)) (fun r ν1 h1 => ?_)))
  rw [if_pos cw] at h1
  cases hu : nmS T n (tE T n p) 0 P with
  | error e =>
    rw [hu] at h1 her
    rw [if_pos h1.1]
    refine ev_some ?_
    rw [if_pos rfl]
    exact ev_some (her e ν1 rfl (frX_Q (frX_refl ν) h1.2.1) h1.2.2.1 h1.2.2.2)
  | ok s =>
    obtain ⟨a1, a2, a3, a4, a5⟩ := nm_sz hE hu
    rw [hu] at h1 hok her
    have x1 : XM ν T n s.2 ν1 := ⟨frX_Q (frX_refl ν) h1.2.1, h1.2.2⟩
    rw [h1.1, if_neg (nI_n1 a5), mo_isWord (v := 23) x1.2.2.2.1 24 rfl (by omega), cl_eq]
    have heq : ∀ (y : ER ((Nat × Nat) × Nat)), (if tK T n s.2 = 24 then ebd (nmU T n (tE T n s.2) P s.1) (fun b => mkS T n (s.1, b.1) b.2) else .error (1, tF T n s.2)) = y → ebd (Except.ok s) (fun a => if tK T n a.2 = 24 then ebd (nmU T n (tE T n a.2) P a.1) (fun b => mkS T n (a.1, b.1) b.2) else .error (1, tF T n a.2)) = y := fun y hy => hy
    by_cases c : tK T n s.2 = 24
    · have hE2 := tE_le (T := T) a2
      rw [if_pos c, if_neg (show ¬ (1 : Int32) = 0 by decide)]
      refine ev_cl (ev_mono (gm_reads (xm_g x1)) (fun _ ν2 g2 => ?_))
      have x2 := xm_Q x1 g2
      have ht2 := x2.2.2.2.1
      have h4 := tkM_rng (tK T n (tE T n s.2))
      have hfull : ∀ (y : ER ((Nat × Nat) × Nat)), ebd (nmU T n (tE T n s.2) P s.1) (fun b => mkS T n (s.1, b.1) b.2) = y → (if tK T n s.2 = 24 then ebd (nmU T n (tE T n s.2) P s.1) (fun b => mkS T n (s.1, b.1) b.2) else .error (1, tF T n s.2)) = y := fun y hy => by rw [if_pos c]; exact hy
      -- a number that is not the same
      have go : (nmU T n (tE T n s.2) P s.1 = nmS T n (tE T n s.2) 0 P) → Ev (Mo_readHeir_62 59 (nI s.1) ν2) (fun x7 μ6 => Ev (if x7 = ((-1)) then some ((-1), μ6) else kb (nI R.length + 1) μ6) Q) := by
        intro hn
        unfold Mo_readHeir_62
        rw [gF_eq, (x2.1.2.2.2.2 6 (by decide)).trans h6]
        refine ev_cl (ev_mono (gm_num (xm_g x2) 0 P rfl rfl (by omega) (by omega)) (fun r3 ν3 h3 => ?_))
        cases hv : nmS T n (tE T n s.2) 0 P with
        | error e =>
          rw [hv] at h3
          rw [if_pos h3.1]
          refine ev_some ?_
          rw [if_pos rfl]
          exact ev_some (her e ν3 (heq _ (hfull _ (by rw [hn, hv]; rfl))) (frX_Q x2.1 h3.2.1) h3.2.2.1 h3.2.2.2)
        | ok b =>
          obtain ⟨b1, b2, b3, b4, b5⟩ := nm_sz hE2 hv
          rw [hv] at h3
          have x3 := xm_Q x2 h3.2
          have hadd : (16 : Int32) + nI s.1 = nI (16 + s.1) := nI_add 16 s.1
          simp only [Nat.reduceAdd]
          rw [h3.1, if_neg (nI_n1 b5), hadd, nI_1, stA_nI (by omega) (by omega)]
          have x4 : XM ν T n b.2 (up2 ν3 77 (16 + s.1) (nI (b.1 + 1))) := xm_up x3 (Or.inr (Or.inr (Or.inr ⟨rfl, by omega⟩)))
          have rm : heM (R ++ [(s.1, b.1)]) (up2 ν3 77 (16 + s.1) (nI (b.1 + 1))) := by
            intro a ha
            rw [hupS_push]
            by_cases z : a = s.1
            · rw [z, up2_same]
              show _ = upd (hupS R) s.1 (nI (b.1 + 1)) s.1
              rw [fu_same]
            · rw [up2_off (Or.inr (by omega))]
              show _ = upd (hupS R) s.1 (nI (b.1 + 1)) a
              rw [fu_off z, h3.2.1.1 77 (by decide), g2.1.1 77 (by decide), h1.2.1.1 77 (by decide)]
              exact hR a ha
          generalize up2 ν3 77 (16 + s.1) (nI (b.1 + 1)) = ν4 at x4 rm ⊢
          refine ev_cl (ev_mono (gm_mark (s.1, b.1) (xm_g x4)) (fun r5 ν5 h5 => ev_some ?_))
          have hf2 : ∀ (y : ER ((Nat × Nat) × Nat)), mkS T n (s.1, b.1) b.2 = y → ebd (nmU T n (tE T n s.2) P s.1) (fun b => mkS T n (s.1, b.1) b.2) = y := fun y hy => by rw [hn, hv]; exact hy
          cases hm : mkS T n (s.1, b.1) b.2 with
          | error e =>
            rw [hm] at h5
            rw [if_pos h5.1]
            exact ev_some (her e ν5 (heq _ (hfull _ (hf2 _ hm))) (frX_Q x4.1 h5.2.1) h5.2.2.1 h5.2.2.2)
          | ok y =>
            have hy := (mk_sz b2 hm).2.2
            rw [hm] at h5
            rw [h5.1, if_neg (show ¬ (0 : Int32) = -1 by decide)]
            have x6 := xm_Q x4 h5.2
            refine hok (s.1, b.1) y.2 ν5 (heq _ (hfull _ (hf2 _ (by rw [hm, ← hy])))) x6.1 x6.2 (fun a ha => ?_)
            rw [h5.2.1.1 77 (by decide)]; exact rm a ha
      rw [gF_eq, ht2.1]
      by_cases c30 : tK T n (tE T n s.2) = 30
      · have q3 : tkM (tK T n (tE T n s.2)) = 3 := by rw [c30]; rfl
        have h13 : ν2 59 13 = nI (tV T n (tE T n s.2)) := ht2.2.2.1 q3
        have hv := tV_lt hE2 c30
        rw [if_pos (show nI (tkM (tk T n (tE T n s.2)).1) = 3 by rw [show tkM (tk T n (tE T n s.2)).1 = 3 from q3]; rfl), gF_eq, h13]
        by_cases ce : tV T n (tE T n s.2) = s.1
        · rw [if_pos (by rw [ce])]
          refine ev_cl (ev_mono (gm_errs (xm_g x2) 2 rfl) (fun r5 ν5 h5 => ev_some ?_))
          rw [if_pos h5.1]
          refine ev_some (her _ ν5 (heq _ (hfull _ ?_)) (frX_Q x2.1 h5.2.1) h5.2.2.1 h5.2.2.2)
          unfold nmU
          rw [if_pos c30, if_neg (fun z => z.2 ce)]; rfl
        · rw [if_neg (fun z => ce ((nI_eq (by omega) (by omega)).mp z))]
          refine go ?_
          unfold nmU nmS
          rw [if_pos c30, if_pos c30]
          by_cases y : tV T n (tE T n s.2) < P
          · rw [if_pos ⟨y, ce⟩, if_pos ⟨Nat.zero_le _, y⟩]
          · rw [if_neg (fun z => y z.1), if_neg (fun z => y z.2)]
      · rw [if_neg (fun z : nI (tkM (tk T n (tE T n s.2)).1) = 3 => c30 (tkM_3 ((nI_eq (b := 3) (by show tkM (tK T n (tE T n s.2)) < _; omega) (by omega)).mp z)))]
        refine go ?_
        unfold nmU nmS
        rw [if_neg c30, if_neg c30]
    · rw [if_neg c, if_pos rfl]
      refine ev_cl (ev_mono (gm_errs (xm_g x1) 1 rfl) (fun r5 ν5 h5 => ev_some ?_))
      rw [if_pos h5.1]
      exact ev_some (her _ ν5 (heq _ (by rw [if_neg c])) (frX_Q x1.1 h5.2.1) h5.2.2.1 h5.2.2.2)
