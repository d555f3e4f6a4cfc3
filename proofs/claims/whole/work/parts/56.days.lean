/-! L3: THE SPEC KEEPS WHAT HOLDS -/
theorem sp_spill {P : Nat} {th : Int32} {S : St} {L : LawL} {H : Nat → Int32} (hs : SpOk P S.1 L H) {p : Nat} (hp : p < P) (hz : S.1 (86 + p) = 0) : SpOk P (spillS P th L H S p).1 L H := by
  have hP := hs.1.1
  have n1 : NOk P (upd S.1 (38 + p) (S.1 (38 + p) + 1)) := nok_upd hs.1 _ _ (by omega) (by omega)
  obtain ⟨kn, sn, hkn, -, -, hk9, -⟩ := askN_rng (L := L) (H := H) n1 (p := p) (word := 1) hp (by omega)
  have n3 := nok_upd n1 (54 + p) ((upd S.1 (38 + p) (S.1 (38 + p) + 1)) (54 + p) + askN P (upd S.1 (38 + p) (S.1 (38 + p) + 1)) L H p 1) (by omega) (by omega)
  have n4 : NOk P (getsS (upd (upd S.1 (38 + p) (S.1 (38 + p) + 1)) (54 + p) ((upd S.1 (38 + p) (S.1 (38 + p) + 1)) (54 + p) + askN P (upd S.1 (38 + p) (S.1 (38 + p) + 1)) L H p 1)) p (askN P (upd S.1 (38 + p) (S.1 (38 + p) + 1)) L H p 1)) := by
    rw [hkn] at n3 ⊢
    exact nok_gets n3 hp (by rw [fu_off (by omega), fu_off (by omega)]; exact hz) (by omega)
  exact ⟨nok_note (S := (getsS (upd (upd S.1 (38 + p) (S.1 (38 + p) + 1)) (54 + p) ((upd S.1 (38 + p) (S.1 (38 + p) + 1)) (54 + p) + askN P (upd S.1 (38 + p) (S.1 (38 + p) + 1)) L H p 1)) p (askN P (upd S.1 (38 + p) (S.1 (38 + p) + 1)) L H p 1), S.2)) n4 _ _ _, hs.2⟩
theorem sp_feast {P : Nat} {th : Int32} {S : St} {L : LawL} {H : Nat → Int32} (hs : SpOk P S.1 L H) : ∀ k, k ≤ P → SpOk P (feastF P th L H S k).1.1 L H := by
  intro k
  induction k with
  | zero => exact fun _ => hs
  | succ k ih =>
    intro hk
    have e : feastF P th L H S (k + 1) = if (feastF P th L H S k).1.1 (102 + k) = 0 then feastF P th L H S k else (spillS P th L H (feastF P th L H S k).1 k, (feastF P th L H S k).2 + 1) := rfl
    rw [e]
    by_cases z : (feastF P th L H S k).1.1 (102 + k) = 0
    · rw [if_pos z]; exact ih (by omega)
    · rw [if_neg z]
      exact sp_spill (ih (by omega)) (by omega) (seat_alive (ih (by omega)).1 (by omega) z)
theorem sp_die {P : Nat} {th : Int32} {S : St} {L : LawL} {H : Nat → Int32} (hs : SpOk P S.1 L H) {p : Nat} (hp : p < P) : SpOk P (dieS th H S p).1 L H := by
  have hP := hs.1.1
  obtain ⟨sl, hsl, hse⟩ := hs.1.2.1 p hp
  have n4 := nok_note (th := th) (S := (upd (upd (upd S.1 (86 + p) 1) (102 + p) 0) (22 + p) 0, S.2)) (nok_die0 hs.1 hp) 5 (nI p) (S.1 (22 + p))
  refine ⟨?_, hs.2⟩
  unfold dieS
  simp only
  generalize noteB th (upd (upd (upd S.1 (86 + p) 1) (102 + p) 0) (22 + p) 0, S.2) 5 (nI p) (S.1 (22 + p)) = S1 at n4
  by_cases c : H p = 0
  · rw [if_pos c]; exact nok_upd n4 5 _ (by omega) (by omega)
  · rw [if_neg c]
    rcases heir_cases hs.2.2 (p := p) (by omega) with z | ⟨q, hq, z⟩
    · exact absurd z c
    · have eq1 : (H p).toNatClampNeg - 1 = q := by rw [z, nI_clamp (by omega)]; omega
      rw [eq1]
      by_cases ha : S1.1 (86 + q) = 0
      · rw [if_pos ha]
        have n5 : NOk P (getsS S1.1 q (S.1 (22 + p))) := by rw [hse]; exact nok_gets n4 hq ha (by omega)
        exact nok_note (S := (getsS S1.1 q (S.1 (22 + p)), S1.2)) n5 _ _ _
      · rw [if_neg ha]; exact nok_upd n4 5 _ (by omega) (by omega)
theorem sp_sweep {P : Nat} {th : Int32} {S : St} {L : LawL} {H : Nat → Int32} (hs : SpOk P S.1 L H) {p : Nat} (hp : p < P) : SpOk P (sweepS th S p).1 L H :=
  ⟨nok_note (S := (upd (upd S.1 5 (S.1 5 + S.1 (22 + p))) (22 + p) 0, S.2)) (nok_salt (s := 0) (nok_upd hs.1 5 _ (by omega) (by omega)) hp (by omega) (Or.inr rfl)) _ _ _, hs.2⟩
theorem sp_cattle {P : Nat} {th : Int32} {S : St} {L : LawL} {H : Nat → Int32} (hs : SpOk P S.1 L H) (n : Nat) : SpOk P (cattleS P th S n).1 L H :=
  ⟨nok_cow hs.1 (lickI_le P (sal S.1) n) (Nat.le_refl _) (cowF_rng hs.1.2.2.2.2.2 P), hs.2⟩
theorem sp_upd {P : Nat} {S : St} {L : LawL} {H : Nat → Int32} (hs : SpOk P S.1 L H) (i : Nat) (v : Int32) (h1 : i ≠ 2) (h2 : i < 22 ∨ (38 ≤ i ∧ i < 86)) : SpOk P (upd S.1 i v) L H := ⟨nok_upd hs.1 i v h1 h2, hs.2⟩
theorem sp_comes {P : Nat} {th : Int32} {S : St} {L : LawL} {H : Nat → Int32} {w : WLn} (hs : SpOk P S.1 L H) (h3 : w.2.1 = 3 → w.2.2.1 < P) (h4 : w.2.1 = 4 → w.2.2.1 < P) (h5 : w.2.1 ≤ 4) : SpOk P (comesS P th L H w S).1.1 L H := by
  have hP := hs.1.1
  unfold comesS
  by_cases c0 : w.2.1 = 0
  · rw [if_pos c0]; exact sp_upd hs 3 _ (by omega) (by omega)
  rw [if_neg c0]
  by_cases c1 : w.2.1 = 1
  · rw [if_pos c1]; exact sp_cattle hs _
  rw [if_neg c1]
  by_cases c2 : w.2.1 = 2
  · rw [if_pos c2]; exact sp_feast hs P (Nat.le_refl _)
  rw [if_neg c2]
  by_cases c3 : w.2.1 = 3
  · rw [if_pos c3]; have := h3 c3; exact sp_upd hs _ _ (by omega) (by omega)
  rw [if_neg c3]
  by_cases c4 : S.1 (86 + w.2.2.1) = 0
  · rw [if_pos c4]; exact sp_die hs (h4 (by omega))
  · rw [if_neg c4]; exact hs
theorem sp_wea {P : Nat} {th : Int32} {S : St} {L : LawL} {H : Nat → Int32} {W : List WLn} (hs : SpOk P S.1 L H) (hW : WOk P W) : ∀ k, k ≤ W.length → SpOk P (weaF P th L H W S k).1.1 L H := by
  intro k
  induction k with
  | zero => exact fun _ => hs
  | succ k ih =>
    intro hk
    have e : weaF P th L H W S (k + 1) = if (weaF P th L H W S k).1.1 0 = nI (W.getD k w0).1 then ((comesS P th L H (W.getD k w0) (weaF P th L H W S k).1).1, (weaF P th L H W S k).2 + (comesS P th L H (W.getD k w0) (weaF P th L H W S k).1).2) else weaF P th L H W S k := rfl
    rw [e]
    obtain ⟨a1, a2, a3, a4, a5, a6⟩ := hW.2 k (by omega)
    by_cases z : (weaF P th L H W S k).1.1 0 = nI (W.getD k w0).1
    · rw [if_pos z]; exact sp_comes (ih (by omega)) a5 a6 a2
    · rw [if_neg z]; exact ih (by omega)
theorem hapS_alive {th : Int32} {S : St} {v : Int32} {i : Nat} (hi : i ≠ 1) : (hapS th S v).1.1 i = S.1 i := by
  unfold hapS
  by_cases c : th = 0
  · rw [if_pos c]
    by_cases d : v ≤ 0
    · rw [if_pos d]
    · rw [if_neg d]; exact fu_off hi
  · rw [if_neg c]
theorem sp_hap {P : Nat} {th : Int32} {S : St} {L : LawL} {H : Nat → Int32} (hs : SpOk P S.1 L H) (v : Int32) : SpOk P (hapS th S v).1.1 L H := by
  unfold hapS
  by_cases c : th = 0
  · rw [if_pos c]
    by_cases d : v ≤ 0
    · rw [if_pos d]; exact hs
    · rw [if_neg d]; exact sp_upd hs 1 _ (by omega) (by omega)
  · rw [if_neg c]; exact hs
theorem sp_pers {P : Nat} {th : Int32} {x : St × Nat} {L : LawL} {H : Nat → Int32} (hs : SpOk P x.1.1 L H) : ∀ k, k ≤ P → SpOk P (persF P th L H x k).1.1 L H := by
  intro k
  induction k with
  | zero => exact fun _ => hs
  | succ k ih =>
    intro hk
    have e : persF P th L H x (k + 1) = if (persF P th L H x k).1.1 (86 + k) = 0 then (if (hapS th (persF P th L H x k).1 (askN P (persF P th L H x k).1.1 L H k 0)).2 then (spillS P th L H (hapS th (persF P th L H x k).1 (askN P (persF P th L H x k).1.1 L H k 0)).1 k, (persF P th L H x k).2 + 1) else ((hapS th (persF P th L H x k).1 (askN P (persF P th L H x k).1.1 L H k 0)).1, (persF P th L H x k).2)) else persF P th L H x k := rfl
    rw [e]
    have i0 := ih (by omega)
    by_cases z : (persF P th L H x k).1.1 (86 + k) = 0
    · rw [if_pos z]
      by_cases y : (hapS th (persF P th L H x k).1 (askN P (persF P th L H x k).1.1 L H k 0)).2 = true
      · rw [if_pos y]
        exact sp_spill (sp_hap i0 _) (by omega) (by rw [hapS_alive (by omega)]; exact z)
      · rw [if_neg y]; exact sp_hap i0 _
    · rw [if_neg z]; exact i0
theorem runN_ok {P : Nat} {S : St} {L : LawL} {H : Nat → Int32} (hs : SpOk P S.1 L H) {p s : Nat} (h16 : s < 16) (hp : p < P) (hz : S.1 (86 + p) = 0) : NOk P (runN P S.1 p s (askN P S.1 L H p 2)) := by
  have hP := hs.1.1
  obtain ⟨k, sl, e1, e2, h1, h2, -, -, h3⟩ := askN_rng (L := L) (H := H) hs.1 (p := p) (word := 2) hp (by omega)
  have h3' := h3 rfl
  unfold runN
  simp only
  have n2 : NOk P (upd (upd S.1 (22 + p) (S.1 (22 + p) - askN P S.1 L H p 2)) 4 (S.1 4 + askN P S.1 L H p 2 - askN P S.1 L H p 2 / 2)) := by
    rw [e1, e2, pk_sub h3']
    exact nok_upd (nok_salt hs.1 hp (by omega) (Or.inl hz)) 4 _ (by omega) (by omega)
  by_cases c : whoN P S.1 (s + 1) = -1
  · rw [if_pos c]; exact nok_upd n2 4 _ (by omega) (by omega)
  · rw [if_neg c]
    rcases whoN_is (P := P) (N := S.1) (s := s + 1) with ⟨q, hq, e, hseat, _⟩ | ⟨e, _⟩
    · rw [e, nI_clamp (by omega)]
      have hd : askN P S.1 L H p 2 / 2 = nI (k / 2) := by rw [e1]; exact pk_div (d := 2) (by omega) (by omega) (by omega)
      rw [hd] at n2 ⊢
      refine nok_gets n2 hq ?_ (by omega)
      rw [fu_off (by omega), fu_off (by omega)]
      exact seat_alive hs.1 hq (by rw [hseat]; exact nI_ne0 (by omega) (by omega))
    · exact absurd e c
theorem whoN_cases {P : Nat} (hP : P ≤ 16) (N : Nat → Int32) (s : Nat) : whoN P N s = -1 ∨ ∃ p, p < P ∧ whoN P N s = nI p ∧ N (102 + p) = nI (s + 1) := by
  rcases whoN_is (P := P) (N := N) (s := s) with ⟨q, hq, e, hseat, _⟩ | ⟨e, _⟩
  · exact Or.inr ⟨q, hq, e, hseat⟩
  · exact Or.inl e
theorem sp_run {P : Nat} {th : Int32} {S : St} {L : LawL} {H : Nat → Int32} (hs : SpOk P S.1 L H) {s : Nat} (h16 : s < 16) : SpOk P (runOffS P th L H S s).1 L H := by
  have hP := hs.1.1
  unfold runOffS
  rcases whoN_cases hP S.1 s with e | ⟨p, hp, e, he⟩
  · rw [if_pos e]; exact hs
  · rw [e, if_neg (by rw [n1_ne (by omega)]; exact id), nI_clamp (by omega)]
    by_cases c : S.1 (22 + p) ≤ 0
    · rw [if_pos c]; exact hs
    rw [if_neg c]
    by_cases d : askN P S.1 L H p 2 = 0
    · rw [if_pos d]; exact hs
    rw [if_neg d]
    exact ⟨nok_note (S := (runN P S.1 p s (askN P S.1 L H p 2), S.2)) (runN_ok hs h16 hp (seat_alive hs.1 hp (by rw [he]; exact nI_ne0 (by omega) (by omega)))) _ _ _, hs.2⟩
theorem sp_seat {P : Nat} {th : Int32} {S : St} {L : LawL} {H : Nat → Int32} (hs : SpOk P S.1 L H) : ∀ k, k ≤ 16 → SpOk P (seatF P th L H S k).1 L H := by
  intro k
  induction k with
  | zero => exact fun _ => hs
  | succ k ih => exact fun hk => sp_run (ih (by omega)) (by omega)
theorem sp_goes {P : Nat} {th : Int32} {S : St} {L : LawL} {H : Nat → Int32} {W : List WLn} (hs : SpOk P S.1 L H) (hW : WOk P W) : SpOk P (goesS P th L H W S).1.1 L H :=
  sp_upd (sp_seat (sp_pers (sp_wea hs hW W.length (Nat.le_refl _)) P (Nat.le_refl _)) 16 (Nat.le_refl _)) 0 _ (by omega) (by omega)
