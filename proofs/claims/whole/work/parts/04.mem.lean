/-! MEMORY RULES -/
theorem clx_nm : ∀ (ci : Nat) (r : vw_C), vwCl[ci]? = some r → ∀ a, a < r.2.2 → ∀ b, b < r.2.2 → a ≠ b → (r.2.1 a).2.1 ≠ (r.2.1 b).2.1 := by
  intro ci r h
  match ci, h with
  | 0, h => cases h; exact nmX0
  | 1, h => cases h; exact nmX1
  | 2, h => cases h; exact nmX2
  | 3, h => cases h; exact nmX3
  | 4, h => cases h; exact nmX4
  | 5, h => cases h; exact nmX5
  | 6, h => cases h; exact nmX7
  | 7, h => cases h; exact nmX8
  | 8, h => cases h; exact nmX9
  | 9, h => cases h; exact nmX10
  | 10, h => cases h; exact nmX11
  | k + 11, h => simp [vwCl] at h
theorem clx_ty : ∀ (ci : Nat) (r : vw_C), vwCl[ci]? = some r → ∃ ty : Nat → FieldType, ∀ k, k < r.2.2 → parseFieldDescriptor (r.2.1 k).2.2.1 = some (ty k) := by
  intro ci r h
  match ci, h with
  | 0, h => cases h; exact ⟨_, tyX0_ok⟩
  | 1, h => cases h; exact ⟨_, tyX1_ok⟩
  | 2, h => cases h; exact ⟨_, tyX2_ok⟩
  | 3, h => cases h; exact ⟨_, tyX3_ok⟩
  | 4, h => cases h; exact ⟨_, tyX4_ok⟩
  | 5, h => cases h; exact ⟨_, tyX5_ok⟩
  | 6, h => cases h; exact ⟨_, tyX7_ok⟩
  | 7, h => cases h; exact ⟨_, tyX8_ok⟩
  | 8, h => cases h; exact ⟨_, tyX9_ok⟩
  | 9, h => cases h; exact ⟨_, tyX10_ok⟩
  | 10, h => cases h; exact ⟨_, tyX11_ok⟩
  | k + 11, h => simp [vwCl] at h
theorem mem_pl {big ws : List Cond} (ps : List Nat) (hp : ws = ps.filterMap (fun i => big[i]?)) : ∀ w ∈ ws, w ∈ big := by
  intro w hw
  rw [hp] at hw
  obtain ⟨i, -, hi⟩ := List.mem_filterMap.mp hw
  exact List.mem_of_getElem? hi
theorem clin0 : ∀ w ∈ u_ws RX0 TX0 4, w ∈ lw_tbl := mem_pl [389, 391, 393, 395] (by decide +kernel)
theorem clin1 : ∀ w ∈ u_ws RX1 TX1 10, w ∈ lw_tbl := mem_pl [195, 197, 199, 201, 203, 205, 207, 209, 211, 213] (by decide +kernel)
theorem clin2 : ∀ w ∈ u_ws RX2 TX2 8, w ∈ lw_tbl := mem_pl [242, 244, 246, 248, 250, 252, 254, 256] (by decide +kernel)
theorem clin3 : ∀ w ∈ u_ws RX3 TX3 4, w ∈ lw_tbl := mem_pl [370, 372, 374, 376] (by decide +kernel)
theorem clin4 : ∀ w ∈ u_ws RX4 TX4 13, w ∈ lw_tbl := mem_pl [444, 446, 448, 450, 452, 454, 456, 458, 460, 462, 464, 466, 468] (by decide +kernel)
theorem clin5 : ∀ w ∈ u_ws RX5 TX5 4, w ∈ lw_tbl := mem_pl [298, 300, 302, 304] (by decide +kernel)
theorem clin6 : ∀ w ∈ u_ws RX7 TX7 5, w ∈ lw_tbl := mem_pl [266, 268, 270, 272, 274] (by decide +kernel)
theorem clin7 : ∀ w ∈ u_ws RX8 TX8 3, w ∈ lw_tbl := mem_pl [409, 411, 413] (by decide +kernel)
theorem clin8 : ∀ w ∈ u_ws RX9 TX9 11, w ∈ lw_tbl := mem_pl [339, 341, 343, 345, 347, 349, 351, 353, 355, 357, 359] (by decide +kernel)
theorem clin9 : ∀ w ∈ u_ws RX10 TX10 9, w ∈ lw_tbl := mem_pl [481, 483, 485, 487, 489, 491, 493, 495, 497] (by decide +kernel)
theorem clin10 : ∀ w ∈ u_ws RX11 TX11 69, w ∈ lw_tbl := mem_pl [1399, 1401, 1403, 1405, 1407, 1409, 1411, 1413, 1415, 1417, 1419, 1421, 1423, 1425, 1427, 1429, 1431, 1433, 1435, 1437, 1439, 1441, 1443, 1445, 1447, 1449, 1451, 1453, 1455, 1457, 1459, 1461, 1463, 1465, 1467, 1469, 1471, 1473, 1475, 1477, 1479, 1481, 1483, 1485, 1487, 1489, 1491, 1493, 1495, 1497, 1499, 1501, 1503, 1505, 1507, 1509, 1511, 1513, 1515, 1517, 1519, 1521, 1523, 1525, 1527, 1529, 1531, 1533, 1535] (by decide +kernel)
theorem clx_in : ∀ (ci : Nat) (r : vw_C), vwCl[ci]? = some r → ∀ w ∈ u_ws r.1 r.2.1 r.2.2, w ∈ lw_tbl := by
  intro ci r h
  match ci, h with
  | 0, h => cases h; exact clin0
  | 1, h => cases h; exact clin1
  | 2, h => cases h; exact clin2
  | 3, h => cases h; exact clin3
  | 4, h => cases h; exact clin4
  | 5, h => cases h; exact clin5
  | 6, h => cases h; exact clin6
  | 7, h => cases h; exact clin7
  | 8, h => cases h; exact clin8
  | 9, h => cases h; exact clin9
  | 10, h => cases h; exact clin10
  | k + 11, h => simp [vwCl] at h
theorem lay_ok (C : String) (T : u_T) (N : Nat) : ∀ w ∈ u_ws C T N, tq_ok w = true := by
  intro w hw
  obtain ⟨k, -, rfl⟩ := List.mem_map.mp hw
  unfold u_lay
  split <;> rfl
theorem clx_hts {U : State} (hT : Tw U) {ci : Nat} {r : vw_C} (h : vwCl[ci]? = some r) (A : Array Value) : ∀ w ∈ u_ws r.1 r.2.1 r.2.2, w.before A U = true :=
  fun w hw => hT w (clx_in ci r h w hw) (lay_ok _ _ _ w hw) A
theorem mmOk_kept {G : Gx} {m : Mm} {k : Nat} {q : Nat × Nat} {H H' : Heap} (h : H'[G.1 + k]? = H[G.1 + k]?) (hk : mmOk G m k q H) : mmOk G m k q H' := by
  obtain ⟨kd, n⟩ := q
  match kd, hk with
  | 0, hk => exact h.trans hk
  | 1, hk => exact h.trans hk
  | ci + 2, hk =>
    obtain ⟨r, h1, h2, h3⟩ := hk
    exact ⟨r, h1, h2, h3.kept h⟩
theorem mmOk_congr {G : Gx} {m m' : Mm} {k : Nat} {q : Nat × Nat} {H : Heap} (h1 : m'.1 k = m.1 k) (h2 : m'.2.1 k = m.2.1 k) (hk : mmOk G m k q H) : mmOk G m' k q H := by
  obtain ⟨kd, n⟩ := q
  match kd, hk with
  | 0, hk => show _ = some (arrV _ _ (fun j => .int (m'.1 k j))); rw [h1]; exact hk
  | 1, hk => show _ = some (arrV _ _ (fun j => va_rf ((m'.2.1 k j).map _))); rw [h2]; exact hk
  | ci + 2, hk =>
    obtain ⟨r, g1, g2, g3⟩ := hk
    exact ⟨r, g1, g2, g3.to (fun j _ => by unfold mmV; rw [h1, h2])⟩
theorem rel_set {G : Gx} {m m' : Mm} {H H' : Heap} {a : Nat} (hR : Rel G m H) (hsh : m'.2.2 = m.2.2) (h1 : ∀ k, k ≠ a → m'.1 k = m.1 k) (h2 : ∀ k, k ≠ a → m'.2.1 k = m.2.1 k) (hz : H'.size = H.size) (oq : ∀ q, q ≠ G.1 + a → H'[q]? = H[q]?) (hna : ∀ q, m.2.2[a]? = some q → mmOk G m' a q H') : Rel G m' H' := by
  refine ⟨fun k q hk => ?_, ?_, fun q hq => ?_⟩
  · rw [hsh] at hk
    by_cases e : k = a
    · subst e; exact hna q hk
    · exact mmOk_kept (oq _ (by omega)) (mmOk_congr (h1 k e) (h2 k e) (hR.1 k q hk))
  · rw [hz, hR.2.1]; unfold mmN; rw [hsh]
  · rw [oq q (by omega)]; exact hR.2.2 q hq
theorem up2_ne {μ : Mu} {a i k : Nat} {v : Int32} (h : k ≠ a) : up2 μ a i v k = μ k := by
  funext j
  simp [up2, h]
theorem up2_row (μ : Mu) (a i : Nat) (v : Int32) : up2 μ a i v a = upd (μ a) i v := by
  funext j
  simp [up2, upd]
theorem up2r_ne {y : Nat → Nat → Option Nat} {a i k : Nat} {v : Option Nat} (h : k ≠ a) : up2r y a i v k = y k := by
  funext j
  simp [up2r, h]
/-- a field's link: pool entry idx of class own is field k of class ci -/
def Fl (own : String) (idx ci k : Nat) (ty : FieldType) (fin : Bool) : Prop := ∃ r : vw_C, vwCl[ci]? = some r ∧ k < r.2.2 ∧ Cond.fieldLink own idx (r.2.1 k).1 (r.2.1 k).2.1 (r.2.1 k).2.2.1 ∈ lw_tbl ∧ parseFieldDescriptor (r.2.1 k).2.2.1 = some ty ∧ (r.2.1 k).2.2.2 = fin ∧ (r.2.1 k).1 = r.1
section Mem
variable {ρ υ : Type} {X : Cx} {l : Launch} {G : Gx} {cc : ByteArray} {nL d : Nat} {ret : Option FieldType} {own : String} {y0 : Ly} {em : υ → Mm} {rv : ρ → Option Value} {tp : ρ → Mm → Prop} {pc : Nat} {L : List (Nat × Value)} {st : List Value} {m : Mm} {o : Option (ρ × υ)}
theorem J_getV {idx ci k a n : Nat} {ty : FieldType} {fin : Bool} (hX : Ok X l G cc nL ret own) (hd : decode cc pc = .ok (.getfield idx, 3)) (hl : Fl own idx ci k ty fin) (hs : m.2.2[a]? = some (ci + 2, n)) (kk : J X G nL d y0 em rv tp (pc + 3) L (mmV G m a ci k :: st) m o) : J X G nL d y0 em rv tp pc L (.ref (G.1 + a) :: st) m o := by
  obtain ⟨p, l', e, s, mi, args, below, meth, c⟩ := X
  obtain ⟨rfl, hx, hb, hml, hr, hown, hlk, hK⟩ := hX
  intro r u h
  obtain ⟨h1, h2, h3⟩ := kk r u h
  refine ⟨h1, h2, fun ls H locs a' b c' d' => ?_⟩
  obtain ⟨q, g1, g2, g3, g4, g5⟩ := hl
  obtain ⟨q', f1, f2, f3⟩ := b.1 a _ hs
  cases f1.symm.trans g1
  obtain ⟨cell, e1, e2, e3, e4⟩ := f3
  obtain ⟨hS, hfc, kC, hkC, hkind⟩ := hK.1.1 ci _ g1
  obtain ⟨cf, kf, fi, f, hi, hsl⟩ := hS k g2
  refine W.getf hx hb hown (hK.2.1 _ g3 rfl _) hi (u_facts hfc hkC (u_lays (clx_hts hK.2.1 g1 args) (fun _ z => z) g2) hi).1 e1 (by rw [e3]; exact fun z => by cases z) (v := mmV G m a ci k) ?_ rfl rfl hd (h3 ls H locs a' b c' d')
  rw [hsl]; exact e4 k g2
theorem J_gi {idx ci k a n : Nat} {ty : FieldType} {fin : Bool} (hX : Ok X l G cc nL ret own) (hd : decode cc pc = .ok (.getfield idx, 3)) (hl : Fl own idx ci k ty fin) (hs : m.2.2[a]? = some (ci + 2, n)) (hr : mmR ci k = false) (kk : J X G nL d y0 em rv tp (pc + 3) L (.int (m.1 a k) :: st) m o) : J X G nL d y0 em rv tp pc L (.ref (G.1 + a) :: st) m o := by
  refine J_getV hX hd hl hs ?_
  rw [show mmV G m a ci k = .int (m.1 a k) by unfold mmV; rw [hr]; rfl]
  exact kk
theorem J_gr {idx ci k a n x : Nat} {ty : FieldType} {fin : Bool} (hX : Ok X l G cc nL ret own) (hd : decode cc pc = .ok (.getfield idx, 3)) (hl : Fl own idx ci k ty fin) (hs : m.2.2[a]? = some (ci + 2, n)) (hr : mmR ci k = true) (hv : m.2.1 a k = some x) (kk : J X G nL d y0 em rv tp (pc + 3) L (.ref (G.1 + x) :: st) m o) : J X G nL d y0 em rv tp pc L (.ref (G.1 + a) :: st) m o := by
  refine J_getV hX hd hl hs ?_
  rw [show mmV G m a ci k = .ref (G.1 + x) by unfold mmV; rw [hr, hv]; rfl]
  exact kk
theorem J_gn {idx ci k a n : Nat} {ty : FieldType} {fin : Bool} (hX : Ok X l G cc nL ret own) (hd : decode cc pc = .ok (.getfield idx, 3)) (hl : Fl own idx ci k ty fin) (hs : m.2.2[a]? = some (ci + 2, n)) (hr : mmR ci k = true) (hv : m.2.1 a k = none) (kk : J X G nL d y0 em rv tp (pc + 3) L (.null :: st) m o) : J X G nL d y0 em rv tp pc L (.ref (G.1 + a) :: st) m o := by
  refine J_getV hX hd hl hs ?_
  rw [show mmV G m a ci k = .null by unfold mmV; rw [hr, hv]; rfl]
  exact kk
theorem J_ald {a n : Nat} {i : Int32} {f : Int32 → Option (ρ × υ)} (hX : Ok X l G cc nL ret own) (hd : decode cc pc = .ok (.iaload, 1)) (hs : m.2.2[a]? = some (0, n)) (kk : J X G nL d y0 em rv tp (pc + 1) L (.int (m.1 a i.toNatClampNeg) :: st) m (f (m.1 a i.toNatClampNeg))) : J X G nL d y0 em rv tp pc L (.int i :: .ref (G.1 + a) :: st) m (ldA m.1 a n i f) := by
  obtain ⟨p, l', e, s, mi, args, below, meth, c⟩ := X
  obtain ⟨rfl, hx, hb, hml, hr, hown, hlk, hK⟩ := hX
  intro r u h
  unfold ldA at h
  split at h
  case isFalse => cases h
  case isTrue hin =>
    obtain ⟨h1, h2, h3⟩ := kk r u h
    refine ⟨h1, h2, fun ls H locs a' b c' d' => ?_⟩
    have hin := inB_in hin
    have hlt : i.toNatClampNeg < n := Nat.not_le.mp fun q => hin (Or.inr q)
    exact W.iald (v := .int (m.1 a i.toNatClampNeg)) hx hb (b.1 a _ hs) ((hK.1.2 0 _ rfl).1 n (fun j => .int (m.1 a j))) (fun q => by cases q) (by rw [arrV_size]; exact hin) (arrV_read _ _ hlt) rfl rfl hd (h3 ls H locs a' b c' d')
theorem J_ast {a n : Nat} {i x : Int32} {f : Mu → Option (ρ × υ)} (hX : Ok X l G cc nL ret own) (hd : decode cc pc = .ok (.iastore, 1)) (hs : m.2.2[a]? = some (0, n)) (kk : J X G nL d y0 em rv tp (pc + 1) L st (up2 m.1 a i.toNatClampNeg x, m.2) (f (up2 m.1 a i.toNatClampNeg x))) : J X G nL d y0 em rv tp pc L (.int x :: .int i :: .ref (G.1 + a) :: st) m (stA m.1 a n i x f) := by
  obtain ⟨p, l', e, s, mi, args, below, meth, c⟩ := X
  obtain ⟨rfl, hx, hb, hml, hr, hown, hlk, hK⟩ := hX
  intro r u h
  unfold stA at h
  split at h
  case isFalse => cases h
  case isTrue hin =>
    obtain ⟨h1, h2, h3⟩ := kk r u h
    refine ⟨h1, h2, fun ls H locs a' b c' d' => ?_⟩
    have hin := inB_in hin
    have hlt : i.toNatClampNeg < n := Nat.not_le.mp fun q => hin (Or.inr q)
    refine W.iast hx hb (b.1 a _ hs) ((hK.1.2 0 _ rfl).1 n (fun j => .int (m.1 a j))) (fun q => by cases q) (by rw [arrV_size]; exact hin) rfl rfl hd fun H1 e1 z oq => ?_
    refine h3 ls H1 _ a' (rel_set (a := a) b rfl (fun k hk => up2_ne hk) (fun _ _ => rfl) z oq (fun q hq => ?_)) (fun q hq => ?_) d'
    · cases hs.symm.trans hq
      show H1[G.1 + a]? = some (arrV _ _ (fun j => .int (up2 m.1 a i.toNatClampNeg x a j)))
      rw [e1, arrV_store, up2_row]
      congr 2
      funext j
      by_cases hj : j = i.toNatClampNeg
      · simp [updV, upd, hj]
      · simp [updV, upd, hj]
    · rcases List.mem_append.mp hq with z1 | z1
      · exact c' q z1
      · rw [List.mem_singleton.mp z1]; exact Nat.le_add_right _ _
theorem J_alen {a n : Nat} (hX : Ok X l G cc nL ret own) (hd : decode cc pc = .ok (.arraylength, 1)) (hs : m.2.2[a]? = some (0, n)) {v : Int32} (hv : Int32.ofNat n = v) (kk : J X G nL d y0 em rv tp (pc + 1) L (.int v :: st) m o) : J X G nL d y0 em rv tp pc L (.ref (G.1 + a) :: st) m o := by
  obtain ⟨p, l', e, s, mi, args, below, meth, c⟩ := X
  obtain ⟨rfl, hx, hb, hml, hr, hown, hlk, hK⟩ := hX
  intro r u h
  obtain ⟨h1, h2, h3⟩ := kk r u h
  refine ⟨h1, h2, fun ls H locs a' b c' d' => ?_⟩
  exact W.alen (n := v) hx hb (b.1 a _ hs) ((hK.1.2 0 _ rfl).1 n (fun j => .int (m.1 a j))) (by rw [arrV_size]; exact hv) rfl rfl hd (h3 ls H locs a' b c' d')
end Mem
