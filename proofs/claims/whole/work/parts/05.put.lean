/-! WRITES, NEW CELLS, RETURNS -/
section Put
variable {ρ υ : Type} {X : Cx} {l : Launch} {G : Gx} {cc : ByteArray} {nL d : Nat} {ret : Option FieldType} {own : String} {y0 : Ly} {em : υ → Mm} {rv : ρ → Option Value} {tp : ρ → Mm → Prop} {pc : Nat} {L : List (Nat × Value)} {st : List Value} {m : Mm} {o : Option (ρ × υ)}
theorem locs_put {base : Nat} {locs : List Loc} {a k : Nat} (c' : ∀ q ∈ locs, base ≤ q.base) : ∀ q ∈ locs ++ [⟨base + a, k⟩], base ≤ q.base := by
  intro q hq
  rcases List.mem_append.mp hq with z1 | z1
  · exact c' q z1
  · rw [List.mem_singleton.mp z1]; exact Nat.le_add_right _ _
/-- a field's new value: any, of the field's kind -/
theorem J_putV {idx ci k a n : Nat} {ty : FieldType} {v : Value} {m1 : Mm} (hX : Ok X l G cc nL ret own) (hd : decode cc pc = .ok (.putfield idx, 3)) (hl : Fl own idx ci k ty false) (hs : m.2.2[a]? = some (ci + 2, n)) (hn : narrow ty v = v) (hf : fits ty v = true)
    (q1 : m1.2.2 = m.2.2) (q2 : ∀ k, k ≠ a → m1.1 k = m.1 k) (q3 : ∀ k, k ≠ a → m1.2.1 k = m.2.1 k) (q4 : ∀ j, mmV G m1 a ci j = if j = k then v else mmV G m a ci j)
    (kk : J X G nL d y0 em rv tp (pc + 3) L st m1 o) : J X G nL d y0 em rv tp pc L (v :: .ref (G.1 + a) :: st) m o := by
  obtain ⟨p, l', e, s, mi, args, below, meth, c⟩ := X
  obtain ⟨rfl, hx, hb, hml, hr, hown, hlk, hK⟩ := hX
  intro r u h
  obtain ⟨h1, h2, h3⟩ := kk r u h
  refine ⟨by rw [← q1]; exact h1, h2, fun ls H locs a' b c' d' => ?_⟩
  obtain ⟨q, g1, g2, g3, g4, g5, g6⟩ := hl
  obtain ⟨q', f1, f2, f3⟩ := id (b.1 a _ hs)
  cases f1.symm.trans g1
  obtain ⟨cell, e1, e2, e3, e4⟩ := f3
  obtain ⟨hS, hfc, kC, hkC, hkind⟩ := hK.1.1 ci _ g1
  obtain ⟨cf, kf, fi, f, hi, hsl⟩ := hS k g2
  obtain ⟨ty0, hty⟩ := clx_ty ci q g1
  have hts := clx_hts hK.2.1 g1 args
  have hap := va_apart (own := own) hts (fun _ z => z) ty0 hty (clx_nm ci q g1) hK.1 g1
  have hlay := hts _ (u_in_lay g2)
  unfold u_lay at hlay
  rw [if_neg (by rw [g5]; decide)] at hlay
  have hst := (u_facts hfc hkC (u_lays hts (fun _ z => z) g2) hi).1
  have h6 := u_store hfc hkC hkind hlay hi g4 hn hf
  refine W.putK hx hb (f := f) ⟨hown, hK.2.1 _ g3 rfl _, ⟨_, _, _, hi⟩, hst⟩ (by rw [e2]; exact h6) e1 e3 (by rw [hsl]; exact k2_hasslot (e4 k g2)) rfl rfl hd fun H' e1' e2' e3' => ?_
  rw [hsl] at e1' ⊢
  have hrel : Rel G m1 H' := rel_set (a := a) b q1 q2 q3 e2' e3' (fun q hq => by
    cases hs.symm.trans hq
    exact ⟨_, g1, f2, t_OB.to (V := updV (fun j => mmV G m a ci j) k v) ⟨_, e1', e2, e3, t_set e4 hap g2 v⟩ (fun j _ => by rw [q4 j]; rfl)⟩)
  have hh := h3 ls H' (locs ++ [⟨G.1 + a, (G.2.1.2 ci) k⟩]) a' hrel (locs_put c') (by rw [q1]; exact d')
  have e5 : mmN m1.2 = mmN m.2 := by unfold mmN; rw [q1]
  have e6 : mmS m1.2 = mmS m.2 := by unfold mmS; rw [q1]
  rw [e5, e6] at hh
  exact hh
theorem mmV_up (G : Gx) (m : Mm) (a ci k : Nat) (v : Int32) (hr : mmR ci k = false) (j : Nat) : mmV G (up2 m.1 a k v, m.2) a ci j = if j = k then .int v else mmV G m a ci j := by
  unfold mmV
  by_cases h : j = k
  · subst h; simp [hr, up2]
  · simp [h, up2]
theorem mmV_upr (G : Gx) (m : Mm) (a ci k : Nat) (v : Option Nat) (hr : mmR ci k = true) (j : Nat) : mmV G (m.1, up2r m.2.1 a k v, m.2.2) a ci j = if j = k then va_rf (v.map (fun x => G.1 + x)) else mmV G m a ci j := by
  unfold mmV
  by_cases h : j = k
  · subst h; simp [hr, up2r]
  · simp [h, up2r]
theorem J_pi {idx ci k a n : Nat} {v : Int32} (hX : Ok X l G cc nL ret own) (hd : decode cc pc = .ok (.putfield idx, 3)) (hl : Fl own idx ci k .int false) (hs : m.2.2[a]? = some (ci + 2, n)) (hr : mmR ci k = false) (kk : J X G nL d y0 em rv tp (pc + 3) L st (up2 m.1 a k v, m.2) o) : J X G nL d y0 em rv tp pc L (.int v :: .ref (G.1 + a) :: st) m o :=
  J_putV (m1 := (up2 m.1 a k v, m.2)) hX hd hl hs rfl rfl rfl (fun _ h => up2_ne h) (fun _ _ => rfl) (mmV_up G m a ci k v hr) kk
theorem nar_z {v : Int32} (h : v = 0 ∨ v = 1) : narrow .boolean (.int v) = .int v ∧ fits .boolean (.int v) = true := by
  rcases h with rfl | rfl <;> exact ⟨by decide +kernel, by decide +kernel⟩
theorem J_pz {idx ci k a n : Nat} {v : Int32} (hX : Ok X l G cc nL ret own) (hd : decode cc pc = .ok (.putfield idx, 3)) (hl : Fl own idx ci k .boolean false) (hs : m.2.2[a]? = some (ci + 2, n)) (hr : mmR ci k = false) (hz : v = 0 ∨ v = 1) (kk : J X G nL d y0 em rv tp (pc + 3) L st (up2 m.1 a k v, m.2) o) : J X G nL d y0 em rv tp pc L (.int v :: .ref (G.1 + a) :: st) m o :=
  J_putV (m1 := (up2 m.1 a k v, m.2)) hX hd hl hs (nar_z hz).1 (nar_z hz).2 rfl (fun _ h => up2_ne h) (fun _ _ => rfl) (mmV_up G m a ci k v hr) kk
theorem J_pr {idx ci k a n x : Nat} {C : String} (hX : Ok X l G cc nL ret own) (hd : decode cc pc = .ok (.putfield idx, 3)) (hl : Fl own idx ci k (.object C) false) (hs : m.2.2[a]? = some (ci + 2, n)) (hr : mmR ci k = true) (kk : J X G nL d y0 em rv tp (pc + 3) L st (m.1, up2r m.2.1 a k (some x), m.2.2) o) : J X G nL d y0 em rv tp pc L (.ref (G.1 + x) :: .ref (G.1 + a) :: st) m o :=
  J_putV (m1 := (m.1, up2r m.2.1 a k (some x), m.2.2)) hX hd hl hs rfl rfl rfl (fun _ _ => rfl) (fun _ h => up2r_ne h) (mmV_upr G m a ci k (some x) hr) kk
/-- a final field, in its class's constructor -/
def OkI (X : Cx) : Prop := match X with
  | (_, _, _, _, _, _, _, meth, _) => meth.name = "<init>"
theorem J_putF {idx ci k a n : Nat} {ty : FieldType} {v : Value} {m1 : Mm} (hX : Ok X l G cc nL ret own) (hI : OkI X) (hd : decode cc pc = .ok (.putfield idx, 3)) (hl : Fl own idx ci k ty true) (hc : ∀ r, vwCl[ci]? = some r → r.1 = own) (hs : m.2.2[a]? = some (ci + 2, n)) (hn : narrow ty v = v) (hf : fits ty v = true)
    (q1 : m1.2.2 = m.2.2) (q2 : ∀ k, k ≠ a → m1.1 k = m.1 k) (q3 : ∀ k, k ≠ a → m1.2.1 k = m.2.1 k) (q4 : ∀ j, mmV G m1 a ci j = if j = k then v else mmV G m a ci j)
    (kk : J X G nL d y0 em rv tp (pc + 3) L st m1 o) : J X G nL d y0 em rv tp pc L (v :: .ref (G.1 + a) :: st) m o := by
  obtain ⟨p, l', e, s, mi, args, below, meth, c⟩ := X
  obtain ⟨rfl, hx, hb, hml, hr, hown, hlk, hK⟩ := hX
  intro r u h
  obtain ⟨h1, h2, h3⟩ := kk r u h
  refine ⟨by rw [← q1]; exact h1, h2, fun ls H locs a' b c' d' => ?_⟩
  obtain ⟨q, g1, g2, g3, g4, g5, g6⟩ := hl
  obtain ⟨q', f1, f2, f3⟩ := id (b.1 a _ hs)
  cases f1.symm.trans g1
  obtain ⟨cell, e1, e2, e3, e4⟩ := f3
  obtain ⟨hS, hfc, kC, hkC, hkind⟩ := hK.1.1 ci _ g1
  obtain ⟨cf, kf, fi, f, hi, hsl⟩ := hS k g2
  obtain ⟨ty0, hty⟩ := clx_ty ci q g1
  have hts := clx_hts hK.2.1 g1 args
  have hap := va_apart (own := own) hts (fun _ z => z) ty0 hty (clx_nm ci q g1) hK.1 g1
  have hlay := hts _ (u_in_lay g2)
  unfold u_lay at hlay
  rw [if_pos g5] at hlay
  have hst := (u_facts hfc hkC (u_lays hts (fun _ z => z) g2) hi).1
  have hcf : mi.cls = cf := by
    obtain ⟨_, _, c', _, _, _, -, -, hf', -, -, -, hown2, -⟩ := Cond.laysFinal_spec hlay
    have e1 : c' = cf := by have := hi.symm.trans hf'; simp at this; exact this.1.symm
    rw [g6, hc q g1] at hown2
    rw [← e1]; exact Option.some.inj (hown.symm.trans hown2)
  have h6 := u_fits hfc hkC hkind (Or.inr hlay) hi g4 hn hf
  refine W.putFinK hx hb hown (hK.2.1 _ g3 rfl _) hi hst hcf hI (by rw [e2]; exact h6) e1 e3 (by rw [hsl]; exact k2_hasslot (e4 k g2)) rfl rfl hd fun H' e1' e2' e3' => ?_
  rw [hsl] at e1' ⊢
  have hrel : Rel G m1 H' := rel_set (a := a) b q1 q2 q3 e2' e3' (fun q hq => by
    cases hs.symm.trans hq
    exact ⟨_, g1, f2, t_OB.to (V := updV (fun j => mmV G m a ci j) k v) ⟨_, e1', e2, e3, t_set e4 hap g2 v⟩ (fun j _ => by rw [q4 j]; rfl)⟩)
  have hh := h3 ls H' (locs ++ [⟨G.1 + a, (G.2.1.2 ci) k⟩]) a' hrel (locs_put c') (by rw [q1]; exact d')
  have e5 : mmN m1.2 = mmN m.2 := by unfold mmN; rw [q1]
  have e6 : mmS m1.2 = mmS m.2 := by unfold mmS; rw [q1]
  rw [e5, e6] at hh
  exact hh
theorem J_pfi {idx ci k a n : Nat} {v : Int32} (hX : Ok X l G cc nL ret own) (hI : OkI X) (hd : decode cc pc = .ok (.putfield idx, 3)) (hl : Fl own idx ci k .int true) (hc : ∀ r, vwCl[ci]? = some r → r.1 = own) (hs : m.2.2[a]? = some (ci + 2, n)) (hr : mmR ci k = false) (kk : J X G nL d y0 em rv tp (pc + 3) L st (up2 m.1 a k v, m.2) o) : J X G nL d y0 em rv tp pc L (.int v :: .ref (G.1 + a) :: st) m o :=
  J_putF (m1 := (up2 m.1 a k v, m.2)) hX hI hd hl hc hs rfl rfl rfl (fun _ h => up2_ne h) (fun _ _ => rfl) (mmV_up G m a ci k v hr) kk
theorem J_pfz {idx ci k a n : Nat} {v : Int32} (hX : Ok X l G cc nL ret own) (hI : OkI X) (hd : decode cc pc = .ok (.putfield idx, 3)) (hl : Fl own idx ci k .boolean true) (hc : ∀ r, vwCl[ci]? = some r → r.1 = own) (hs : m.2.2[a]? = some (ci + 2, n)) (hr : mmR ci k = false) (hz : v = 0 ∨ v = 1) (kk : J X G nL d y0 em rv tp (pc + 3) L st (up2 m.1 a k v, m.2) o) : J X G nL d y0 em rv tp pc L (.int v :: .ref (G.1 + a) :: st) m o :=
  J_putF (m1 := (up2 m.1 a k v, m.2)) hX hI hd hl hc hs (nar_z hz).1 (nar_z hz).2 rfl (fun _ h => up2_ne h) (fun _ _ => rfl) (mmV_up G m a ci k v hr) kk
theorem J_pfr {idx ci k a n x : Nat} {ty : FieldType} (hX : Ok X l G cc nL ret own) (hI : OkI X) (hd : decode cc pc = .ok (.putfield idx, 3)) (hl : Fl own idx ci k ty true) (hc : ∀ r, vwCl[ci]? = some r → r.1 = own) (hs : m.2.2[a]? = some (ci + 2, n)) (hr : mmR ci k = true) (hn : narrow ty (.ref (G.1 + x)) = .ref (G.1 + x)) (hf : fits ty (.ref (G.1 + x)) = true) (kk : J X G nL d y0 em rv tp (pc + 3) L st (m.1, up2r m.2.1 a k (some x), m.2.2) o) : J X G nL d y0 em rv tp pc L (.ref (G.1 + x) :: .ref (G.1 + a) :: st) m o :=
  J_putF (m1 := (m.1, up2r m.2.1 a k (some x), m.2.2)) hX hI hd hl hc hs hn hf rfl (fun _ _ => rfl) (fun _ h => up2r_ne h) (mmV_upr G m a ci k (some x) hr) kk
/-! returns -/
def rvI : Int32 → Option Value := fun r => some (.int r)
def rvV : Unit → Option Value := fun _ => none
def rvA (G : Gx) : Nat → Option Value := fun r => some (.ref (G.1 + r))
def rvL : Int64 → Option Value := fun r => some (.long r)
def tpT {ρ : Type} : ρ → Mm → Prop := fun _ _ => True
def tpZ : Int32 → Mm → Prop := fun r _ => r = 0 ∨ r = 1
theorem conq {G : Gx} {m : Mm} {H : Heap} {s : State} {rv : Option Value} (hR : Rel G m H) (hK : Kw G s) {args : Array Value} : ∀ t : State, t.heap = H → s.WarmedH t.vm → ConQ G rv m args s (.returned rv) t := fun t ht hW => ⟨rfl, by rw [ht]; exact hR, kw_warm hW hK⟩
theorem J_iret {tp : Int32 → Mm → Prop} {u : υ} {v : Int32} (hX : Ok X l G cc nL (some .int) own) (hd : decode cc pc = .ok (.ireturn, 1)) (hu : em u = m) (ht : tp v m) : J X G nL d y0 em rvI tp pc L [.int v] m (some (v, u)) := by
  obtain ⟨p, l', e, s, mi, args, below, meth, c⟩ := X
  obtain ⟨rfl, hx, hb, hml, hr, hown, hlk, hK⟩ := hX
  intro r u' h
  cases h
  rw [hu]
  exact ⟨List.prefix_refl _, ht, fun ls H locs a' b c' d' => W.iret hx hb hr (conq b hK) c' hd⟩
theorem J_zret {tp : Int32 → Mm → Prop} {u : υ} {v : Int32} (hX : Ok X l G cc nL (some .boolean) own) (hd : decode cc pc = .ok (.ireturn, 1)) (hu : em u = m) (hz : v = 0 ∨ v = 1) (ht : tp v m) : J X G nL d y0 em rvI tp pc L [.int v] m (some (v, u)) := by
  obtain ⟨p, l', e, s, mi, args, below, meth, c⟩ := X
  obtain ⟨rfl, hx, hb, hml, hr, hown, hlk, hK⟩ := hX
  intro r u' h
  cases h
  rw [hu]
  exact ⟨List.prefix_refl _, ht, fun ls H locs a' b c' d' => W.zret hx hb hr (nar_z hz).1 (conq b hK) c' hd⟩
theorem J_vret {tp : Unit → Mm → Prop} {u : υ} (hX : Ok X l G cc nL none own) (hd : decode cc pc = .ok (.return_, 1)) (hu : em u = m) (ht : tp () m) : J X G nL d y0 em rvV tp pc L [] m (some ((), u)) := by
  obtain ⟨p, l', e, s, mi, args, below, meth, c⟩ := X
  obtain ⟨rfl, hx, hb, hml, hr, hown, hlk, hK⟩ := hX
  intro r u' h
  cases h
  rw [hu]
  exact ⟨List.prefix_refl _, ht, fun ls H locs a' b c' d' => W.vret hx hb hr (conq b hK) c' hd⟩
theorem J_aret {tp : Nat → Mm → Prop} {u : υ} {v : Nat} {C : String} (hX : Ok X l G cc nL (some (.object C)) own) (hd : decode cc pc = .ok (.areturn, 1)) (hu : em u = m) (ht : tp v m) : J X G nL d y0 em (rvA G) tp pc L [.ref (G.1 + v)] m (some (v, u)) := by
  obtain ⟨p, l', e, s, mi, args, below, meth, c⟩ := X
  obtain ⟨rfl, hx, hb, hml, hr, hown, hlk, hK⟩ := hX
  intro r u' h
  cases h
  rw [hu]
  exact ⟨List.prefix_refl _, ht, fun ls H locs a' b c' d' => W.aret hx hb hr (Or.inl ⟨_, rfl⟩) (Or.inr ⟨_, rfl⟩) (conq b hK) c' hd⟩
end Put
