/-! MORE RULES: Math.min, Math.max, System.arraycopy, long answers, new cells, rows of references -/
def cp2 (μ : Mu) (a0 sp a1 dp n : Nat) : Mu := fun k j => if k = a1 then va_cpy (μ a0) (μ a1) sp dp n j else μ k j
def cpOk (n0 n1 : Nat) (sp dp n : Int32) : Bool := !(decide (sp < 0) || decide (dp < 0) || decide (n < 0)) && decide (sp.toNatClampNeg + n.toNatClampNeg ≤ n0) && decide (dp.toNatClampNeg + n.toNatClampNeg ≤ n1)
def cpA {α : Type} (μ : Mu) (a0 n0 : Nat) (sp : Int32) (a1 n1 : Nat) (dp n : Int32) (f : Mu → Option α) : Option α := if cpOk n0 n1 sp dp n = true then f (cp2 μ a0 sp.toNatClampNeg a1 dp.toNatClampNeg n.toNatClampNeg) else none
section R2
variable {ρ υ : Type} {X : Cx} {l : Launch} {G : Gx} {cc : ByteArray} {nL d : Nat} {ret : Option FieldType} {own : String} {y0 : Ly} {em : υ → Mm} {rv : ρ → Option Value} {tp : ρ → Mm → Prop} {pc : Nat} {L : List (Nat × Value)} {st : List Value} {m : Mm} {o : Option (ρ × υ)}
theorem wi_min : Cond.code Lib.Math.min.name Lib.Math.min.code 2 (some .int) ∈ lw_tbl ∧ Cond.static Lib.Math.min.name ∈ lw_tbl ∧ Cond.initialized "java/lang/Math" ∈ lw_tbl := ⟨(mq mt_2 202 (by decide +kernel)), (mq mt_2 201 (by decide +kernel)), (mq mt_1 9 (by decide +kernel))⟩
theorem wi_max : Cond.code Lib.Math.max.name Lib.Math.max.code 2 (some .int) ∈ lw_tbl ∧ Cond.static Lib.Math.max.name ∈ lw_tbl ∧ Cond.initialized "java/lang/Math" ∈ lw_tbl := ⟨(mq mt_1 167 (by decide +kernel)), (mq mt_1 166 (by decide +kernel)), (mq mt_1 9 (by decide +kernel))⟩
theorem wi_acp : Cond.native arraycopyName ∈ lw_tbl ∧ Cond.static arraycopyName ∈ lw_tbl ∧ Cond.initialized "java/lang/System" ∈ lw_tbl := ⟨(mq mt_2 199 (by decide +kernel)), (mq mt_2 198 (by decide +kernel)), (mq mt_1 14 (by decide +kernel))⟩
theorem J_mmin {x y : Int32} {idx : Nat} (hX : Ok X l G cc nL ret own) (hd : decode cc pc = .ok (.invokestatic idx, 3)) (hl : Cond.methodLink own idx Lib.Math.min.name ∈ lw_tbl) (hw : (st.map fun v => v.category).sum ≤ 8) (hdd : 1 ≤ d) (k : J X G nL d y0 em rv tp (pc + 3) L (.int (jmin x y) :: st) m o) : J X G nL d y0 em rv tp pc L (.int y :: .int x :: st) m o := by
  obtain ⟨p, l', e, s, mi, args, below, meth, c⟩ := X
  obtain ⟨rfl, hx, hb, hml, hr, hown, hlk, hK⟩ := hX
  intro r u h
  obtain ⟨h1, h2, h3⟩ := k r u h
  refine ⟨h1, h2, fun ls H locs a b c' d' => ?_⟩
  have n1 := mmN_le (a := m.2) (b := (em u).2) h1
  have s1 := mmS_le (a := m.2) (b := (em u).2) h1
  exact va_mmin hx hb (hml.trans a.1.symm) hown (hK.2.1 _ hl rfl _) (hK.2.1 _ wi_min.2.1 rfl _) (hK.2.1 _ wi_min.2.2 rfl _) (hK.2.1 _ wi_min.1 rfl _) hdd (by show _ + 13 ≤ 64 * d; omega) (by show _ ≤ mmN (em u).2 - mmN y0; omega) (by show _ ≤ mmS (em u).2 - mmS y0; omega) hd (h3 ls H locs a b c' d')
theorem J_mmax {x y : Int32} {idx : Nat} (hX : Ok X l G cc nL ret own) (hd : decode cc pc = .ok (.invokestatic idx, 3)) (hl : Cond.methodLink own idx Lib.Math.max.name ∈ lw_tbl) (hw : (st.map fun v => v.category).sum ≤ 8) (hdd : 1 ≤ d) (k : J X G nL d y0 em rv tp (pc + 3) L (.int (jmax x y) :: st) m o) : J X G nL d y0 em rv tp pc L (.int y :: .int x :: st) m o := by
  obtain ⟨p, l', e, s, mi, args, below, meth, c⟩ := X
  obtain ⟨rfl, hx, hb, hml, hr, hown, hlk, hK⟩ := hX
  intro r u h
  obtain ⟨h1, h2, h3⟩ := k r u h
  refine ⟨h1, h2, fun ls H locs a b c' d' => ?_⟩
  have n1 := mmN_le (a := m.2) (b := (em u).2) h1
  have s1 := mmS_le (a := m.2) (b := (em u).2) h1
  exact va_mmax hx hb (hml.trans a.1.symm) hown (hK.2.1 _ hl rfl _) (hK.2.1 _ wi_max.2.1 rfl _) (hK.2.1 _ wi_max.2.2 rfl _) (hK.2.1 _ wi_max.1 rfl _) hdd (by show _ + 13 ≤ 64 * d; omega) (by show _ ≤ mmN (em u).2 - mmN y0; omega) (by show _ ≤ mmS (em u).2 - mmS y0; omega) hd (h3 ls H locs a b c' d')
theorem J_lret {tp : Int64 → Mm → Prop} {u : υ} {v : Int64} (hX : Ok X l G cc nL (some .long) own) (hd : decode cc pc = .ok (.lreturn, 1)) (hu : em u = m) (ht : tp v m) : J X G nL d y0 em rvL tp pc L [.long v] m (some (v, u)) := by
  obtain ⟨p, l', e, s, mi, args, below, meth, c⟩ := X
  obtain ⟨rfl, hx, hb, hml, hr, hown, hlk, hK⟩ := hX
  intro r u' h
  cases h
  rw [hu]
  exact ⟨List.prefix_refl _, ht, fun ls H locs a' b c' d' => W.lret hx hb hr (conq b hK) c' hd⟩
theorem i32_clamp {z : Int32} (hz : ¬ z < 0) : z.toInt = (z.toNatClampNeg : Int) := by
  have hz0 : (0 : Int) ≤ z.toInt := by
    have := Int32.not_lt.mp hz
    simpa using Int32.le_iff_toInt_le.mp this
  show z.toInt = ((z.toInt.toNat : Nat) : Int)
  omega
theorem J_acp {a0 a1 n0 n1 : Nat} {sp dp n : Int32} {idx : Nat} {f : Mu → Option (ρ × υ)} (hX : Ok X l G cc nL ret own) (hd : decode cc pc = .ok (.invokestatic idx, 3)) (hl : Cond.methodLink own idx arraycopyName ∈ lw_tbl) (hs0 : m.2.2[a0]? = some (0, n0)) (hs1 : m.2.2[a1]? = some (0, n1)) (hw : (st.map fun v => v.category).sum ≤ 8) (hdd : 2 ≤ d)
    (kk : ∀ μ1, J X G nL d y0 em rv tp (pc + 3) L st (μ1, m.2) (f μ1)) : J X G nL d y0 em rv tp pc L (.int n :: .int dp :: .ref (G.1 + a1) :: .int sp :: .ref (G.1 + a0) :: st) m (cpA m.1 a0 n0 sp a1 n1 dp n f) := by
  obtain ⟨p, l', e, s, mi, args, below, meth, c⟩ := X
  obtain ⟨rfl, hx, hb, hml, hr, hown, hlk, hK⟩ := hX
  intro r u h
  unfold cpA at h
  split at h
  case isFalse => cases h
  case isTrue hok =>
    simp only [cpOk, Bool.and_eq_true, Bool.not_eq_true', Bool.or_eq_false_iff, decide_eq_false_iff_not, decide_eq_true_eq] at hok
    obtain ⟨⟨⟨⟨h1, h2⟩, h3⟩, h4⟩, h5⟩ := hok
    obtain ⟨g1, g2, g3⟩ := kk _ r u h
    refine ⟨g1, g2, fun ls H locs a' b c' d' => ?_⟩
    have hc0 : H[G.1 + a0]? = some (arrV G.2.2.1 n0 (fun j => .int (m.1 a0 j))) := b.1 a0 _ hs0
    have hc1 : H[G.1 + a1]? = some (arrV G.2.2.1 n1 (fun j => .int (m.1 a1 j))) := b.1 a1 _ hs1
    intro T hT X0
    have hroom : 2 * 0 + (st.map fun v => v.category).sum + (nativeFrameWords "java/lang/System" "arraycopy" 5 + 11) ≤ 64 * d := by
      have hnw : nativeFrameWords "java/lang/System" "arraycopy" 5 ≤ 60 := by decide +kernel
      omega
    obtain ⟨-, k0, hk0, cm0, hkk0⟩ := (hK.1.2 0 _ rfl).1 n0 (fun j => .int (m.1 a0 j))
    obtain ⟨-, k1, hk1, cm1, hkk1⟩ := (hK.1.2 0 _ rfl).1 n1 (fun j => .int (m.1 a1 j))
    obtain ⟨vm', X', step⟩ := X0.arraycopy hx hown (hK.2.1 _ hl rfl _) (hK.2.1 _ wi_acp.1 rfl _) (hK.2.1 _ wi_acp.2.1 rfl _) (hK.2.1 _ wi_acp.2.2 rfl _) (src := G.1 + a0) (dst := G.1 + a1) (cs := arrV G.2.2.1 n0 (fun j => .int (m.1 a0 j))) (cd := arrV G.2.2.1 n1 (fun j => .int (m.1 a1 j))) (srcPos := sp) (destPos := dp) (n := n) (by rw [hT]; exact hc0) (by rw [hT]; exact hc1)
      (fun _ h => by cases h) (fun _ h => by cases h) (fun h => by cases h) (fun h => by cases h) hk0 hk1 hkk0 hkk1 (by simp [refKind]) h1 h2 h3
      (by rw [i32_clamp h1, i32_clamp h3, arrV_size]; omega)
      (by rw [i32_clamp h2, i32_clamp h3, arrV_size]; omega)
      (fun vm₁ _ i hi => by
        have e : (arrV G.2.2.1 n0 (fun j => .int (m.1 a0 j))).slots.getD (sp.toNatClampNeg + i) .null = .int (m.1 a0 (sp.toNatClampNeg + i)) := by
          rw [Array.getD_eq_getD_getElem?, arrV_read _ _ (by omega)]
          rfl
        refine ⟨?_, ?_⟩
        · rw [e]; rfl
        · rw [e]; exact trivial)
      (g := F0 mi pc ls (.int n :: .int dp :: .ref (G.1 + a1) :: .int sp :: .ref (G.1 + a0) :: st)) rfl (by rw [hml]; exact a'.1) (rest := st) rfl (by rw [hb]; exact hd) (by show 1 ≤ d; omega) hroom
    have e1 : copied (arrV G.2.2.1 n0 (fun j => .int (m.1 a0 j))) (arrV G.2.2.1 n1 (fun j => .int (m.1 a1 j))) sp dp n = arrV G.2.2.1 n1 (fun j => .int (va_cpy (m.1 a0) (m.1 a1) sp.toNatClampNeg dp.toNatClampNeg n.toNatClampNeg j)) := va_copied (fun z => .int z) G.2.2.1 G.2.2.1 (m.1 a0) (m.1 a1) h4
    rw [e1] at X' step
    generalize hce : arrV G.2.2.1 n1 (fun j => Value.int (va_cpy (m.1 a0) (m.1 a1) sp.toNatClampNeg dp.toNatClampNeg n.toNatClampNeg j)) = ce at X' step
    have hl1 : G.1 + a1 < H.size := (Array.getElem?_eq_some_iff.mp hc1).1
    have hheap : ((T.setVm vm').setCell (G.1 + a1) ce).heap = H.setIfInBounds (G.1 + a1) ce := by rw [← hT]; rfl
    have oq : ∀ q : Nat, q ≠ G.1 + a1 → (H.setIfInBounds (G.1 + a1) ce)[q]? = H[q]? := fun q hq => by simp [Array.getElem?_setIfInBounds, Ne.symm hq]
    have hrel : Rel G (cp2 m.1 a0 sp.toNatClampNeg a1 dp.toNatClampNeg n.toNatClampNeg, m.2) (H.setIfInBounds (G.1 + a1) ce) := rel_set (a := a1) b rfl (fun k hk => by funext j; simp [cp2, hk]) (fun _ _ => rfl) (by simp) oq (fun q hq => by
      cases hs1.symm.trans hq
      show (H.setIfInBounds (G.1 + a1) ce)[G.1 + a1]? = _
      rw [← hce]
      simp [Array.getElem?_setIfInBounds, hl1, cp2])
    obtain ⟨t, z1, z2⟩ := g3 ls _ _ a' hrel (fun q hq => by
      rcases List.mem_append.mp hq with z | z
      · exact c' q z
      · obtain ⟨w, -, hw⟩ := List.mem_map.mp z
        rw [← hw]; exact Nat.le_add_right _ _) d' _ hheap X'
    exact ⟨t, step t z1, z2⟩
end R2
theorem lsw_ne {x c : Int32} (h : ¬ x = c) (k : Int) (hk : c.toInt = k) : ¬ k = x.toInt := fun e => h (i32_eq.mpr (by rw [hk, e]))
