/-! NEW CELLS: a memory with its layout; the model looks at the layout itself -/
noncomputable def ckP {α : Type} (P : Prop) (k : Option α) : Option α := @ite _ P (Classical.propDecidable P) k none
theorem ckP_pos {α : Type} {P : Prop} {k : Option α} (h : P) : ckP P k = k := if_pos h
def nwM (μ : Mu) (y : Ly) : Mu := fun k j => if k = mmN y then 0 else μ k j
def nwL (y : Ly) (kd n : Nat) : Ly := (fun k j => if k = mmN y then none else y.1 k j, y.2 ++ [(kd, n)])
def nwK {α : Type} (μ : Mu) (y : Ly) (kd n : Nat) (f : Nat → Mu → Ly → Option α) : Option α := f (mmN y) (nwM μ y) (nwL y kd n)
def nwV {α : Type} (μ : Mu) (y : Ly) (n : Int32) (f : Nat → Mu → Ly → Option α) : Option α := if ¬ n < 0 ∧ n.toNatClampNeg * 4 ≤ 536870912 then nwK μ y 0 n.toNatClampNeg f else none
/-- a reference of a row, or of a field: null, or a cell -/
def ldR {α : Type} (y : Ly) (a n : Nat) (i : Int32) (fN : Option α) (fS : Nat → Option α) : Option α := if inB i n = true then (match y.1 a i.toNatClampNeg with | none => fN | some x => fS x) else none
def gR {α : Type} (y : Ly) (a k : Nat) (fN : Option α) (fS : Nat → Option α) : Option α := match y.1 a k with | none => fN | some x => fS x
def pR {α : Type} (y : Ly) (a k x : Nat) (f : Ly → Option α) : Option α := f (up2r y.1 a k (some x), y.2)
def stR {α : Type} (y : Ly) (a n : Nat) (i : Int32) (x : Nat) (f : Ly → Option α) : Option α := if inB i n = true then f (up2r y.1 a i.toNatClampNeg (some x), y.2) else none
/-- a call that may make cells: what was there stays -/
noncomputable def clm {α ρ : Type} (y : Ly) (oc : Option (ρ × Mm)) (f : ρ → Mu → Ly → Option α) : Option α := match oc with
  | none => none
  | some q => ckP (y.2 <+: q.2.2.2) (f q.1 q.2.1 q.2.2)
def Cm {ρ : Type} (l : Launch) (G : Gx) (y : MethodName) (cc : ByteArray) (nL : Nat) (ret : Option FieldType) (d : Nat) (vs : List Value) (m : Mm) (rv : ρ → Option Value) (oc : Option (ρ × Mm)) : Prop :=
  ∀ (r : ρ) (u : Mm), oc = some (r, u) → Con l G y cc nL ret d vs m u (rv r)
theorem cm_of {ρ : Type} {l : Launch} {G : Gx} {y : MethodName} {cc : ByteArray} {nL : Nat} {ret : Option FieldType} {d : Nat} {vs : List Value} {m : Mm} {rv : ρ → Option Value} {oc : Option (ρ × Mm)}
    (hy : plainName y.cls = true) (hn : (lg_sl vs).length ≤ nL) (h : ∀ X : Cx, Ok X l G cc nL ret y.cls → (y.name = "<init>" → OkI X) → J X G nL d m.2 id rv tpT 0 (lv_args 0 vs) [] m oc) : Cm l G y cc nL ret d vs m rv oc := by
  intro r u e0
  refine Met.ofW (cc := cc) (maxL := nL) (ret := ret) hy rfl ?_
  intro p e s mi args below meth c s₁ B hml hv
  obtain ⟨rfl, hR, hK⟩ := hv
  have hown : s.vm.findClass y.cls = some mi.cls := findClass_of_methodNamed B.named
  obtain ⟨-, -, h3⟩ := h (p, l, e, s, mi, vs.toArray, below, meth, c) ⟨rfl, B.exec, B.bytes, hml, B.returns, hown, B.notSynchronized, hK⟩ (fun hi => (name_of_methodNamed B.named B.method).1.trans hi) r u e0
  have hh := h3 _ s.heap [] (lv_entry vs hn) hR (fun q hq => absurd hq List.not_mem_nil) (List.prefix_refl _)
  rw [Nat.sub_self, Nat.sub_self] at hh
  rw [lg_entry_eq]
  exact hh
theorem rel_new {G : Gx} {μ : Mu} {y : Ly} {H H' : Heap} {kd n : Nat} (hR : Rel G (μ, y) H) (hz : H'.size = G.1 + mmN y + 1) (oq : ∀ q, q < G.1 + mmN y → H'[q]? = H[q]?) (hna : mmOk G (nwM μ y, nwL y kd n) (mmN y) (kd, n) H') : Rel G (nwM μ y, nwL y kd n) H' := by
  refine ⟨fun k q hk => ?_, ?_, fun q hq => ?_⟩
  · by_cases e : k = mmN y
    · subst e
      have : (y.2 ++ [(kd, n)])[mmN y]? = some (kd, n) := by unfold mmN; simp
      cases this.symm.trans hk
      exact hna
    · have hlt : k < mmN y := by
        have h1 : k < (y.2 ++ [(kd, n)]).length := (List.getElem?_eq_some_iff.mp hk).1
        rw [List.length_append] at h1
        have h2 : y.2.length = mmN y := rfl
        simp at h1
        omega
      have hk2 : y.2[k]? = some q := by
        have := hk
        show y.2[k]? = some q
        rw [← List.getElem?_append_left (l₂ := [(kd, n)]) hlt]
        exact this
      exact mmOk_kept (oq _ (by omega)) (mmOk_congr (m := (μ, y)) (by funext j; simp [nwM, e]) (by funext j; simp [nwL, e]) (hR.1 k q hk2))
  · rw [hz]; unfold mmN nwL; simp; omega
  · rw [oq q (by have := hR.2.1; omega)]; exact hR.2.2 q hq
theorem nw_pre (y : Ly) (kd n : Nat) : y.2 <+: (nwL y kd n).2 := List.prefix_append _ _
theorem nw_N (y : Ly) (kd n : Nat) : mmN (nwL y kd n) = mmN y + 1 := by unfold mmN nwL; simp
theorem nw_S (y : Ly) (kd n : Nat) : mmS (nwL y kd n) = mmS y + n := by unfold mmS nwL; simp
section Alloc
variable {ρ υ : Type} {X : Cx} {l : Launch} {G : Gx} {cc : ByteArray} {nL d : Nat} {ret : Option FieldType} {own : String} {y0 : Ly} {em : υ → Mm} {rv : ρ → Option Value} {tp : ρ → Mm → Prop} {pc : Nat} {L : List (Nat × Value)} {st st0 : List Value} {μ : Mu} {y : Ly} {o : Option (ρ × υ)}
theorem J_ckP {m : Mm} {P : Prop} (kk : P → J X G nL d y0 em rv tp pc L st m o) : J X G nL d y0 em rv tp pc L st m (ckP P o) := by
  intro r u h
  unfold ckP at h
  split at h
  case isFalse => cases h
  case isTrue hp => exact kk hp r u h
theorem J_objI {m : Mm} {a idx : Nat} (hX : Ok X l G cc nL ret own) (hd : decode cc pc = .ok (.invokespecial idx, 3)) (hl : Cond.methodLink own idx objectInit ∈ lw_tbl) (hi : Cond.instanceMethod objectInit ∈ lw_tbl) (hc : Cond.code objectInit ⟨#[0xb1]⟩ 1 none ∈ lw_tbl) (hw : (st.map fun v => v.category).sum ≤ 8) (hdd : 1 ≤ d) (k : J X G nL d y0 em rv tp (pc + 3) L st m o) : J X G nL d y0 em rv tp pc L (.ref (G.1 + a) :: st) m o := by
  obtain ⟨p, l', e, s, mi, args, below, meth, c⟩ := X
  obtain ⟨rfl, hx, hb, hml, hr, hown, hlk, hK⟩ := hX
  intro r u h
  obtain ⟨h1, h2, h3⟩ := k r u h
  exact ⟨h1, h2, fun ls H locs a' b c' d' => W.objInit hx hb hown (hK.2.1 _ hl rfl _) (hK.2.1 _ hi rfl _) (hK.2.1 _ hc rfl _) rfl (by rw [hml]; exact a'.1) rfl hd hdd (by show 2 * 0 + _ + 12 ≤ 64 * d; omega) (h3 ls H locs a' b c' d')⟩
theorem J_nwC {idx ci : Nat} {C : String} {T : u_T} {N : Nat} {f : Nat → Mu → Ly → Option (ρ × υ)} (hX : Ok X l G cc nL ret own) (hd : decode cc pc = .ok (.new idx, 3)) (hl : Cond.classLink own idx C ∈ lw_tbl) (hi : Cond.instantiable C N ∈ lw_tbl) (hn : Cond.initialized C ∈ lw_tbl) (hci : vwCl[ci]? = some (C, T, N)) (hdf : ∀ ty : FieldType, ∀ k, k < N → parseFieldDescriptor (T k).2.2.1 = some ty → defaultValue ty = if mmR ci k = true then .null else .int 0)
    (kk : ∀ q μ1 y1, J X G nL d y0 em rv tp (pc + 3) L (.ref (G.1 + q) :: st) (μ1, y1) (f q μ1 y1)) : J X G nL d y0 em rv tp pc L st (μ, y) (nwK μ y (ci + 2) N f) := by
  obtain ⟨p, l', e, s, mi, args, below, meth, c⟩ := X
  obtain ⟨rfl, hx, hb, hml, hr, hown, hlk, hK⟩ := hX
  intro r u h
  obtain ⟨h1, h2, h3⟩ := kk _ _ _ r u h
  refine ⟨(nw_pre y _ _).trans h1, h2, fun ls H locs a' b c' d' => ?_⟩
  have hKn := hK.1.1 ci _ hci
  obtain ⟨ty0, hty⟩ := clx_ty ci _ hci
  have e1 := nw_N y (ci + 2) N
  have e2 := nw_S y (ci + 2) N
  have n1 := mmN_le (a := y0) (b := y) d'
  have s1 := mmS_le (a := y0) (b := y) d'
  have n2 := mmN_le (a := nwL y (ci + 2) N) (b := (em u).2) h1
  have s2 := mmS_le (a := nwL y (ci + 2) N) (b := (em u).2) h1
  refine W.newcK hx hb hown (hK.2.1 _ hl rfl _) (hK.2.1 _ hi rfl _) (hK.2.1 _ hn rfl _) rfl hd (by show mmN y - mmN y0 + 1 ≤ mmN (em u).2 - mmN y0; omega) (by show mmS y - mmS y0 + N ≤ mmS (em u).2 - mmS y0; omega) hKn.2.1 b.2.1 fun H1 kC hkC g1 z1 o1 => ?_
  have hob := u_born ty0 (clx_hts hK.2.1 hci args) (fun _ z => z) hKn hkC g1 hty
  have hrel : Rel G (nwM μ y, nwL y (ci + 2) N) H1 := rel_new b z1 o1 ⟨_, hci, rfl, hob.to (fun j hj => by
    show defaultValue (ty0 j) = mmV G _ (mmN y) ci j
    rw [hdf _ j hj (hty j hj)]
    unfold mmV
    simp [nwM, nwL]
    split <;> rfl)⟩
  have hh := h3 ls H1 locs a' hrel c' (d'.trans (nw_pre y _ _))
  rw [e1, e2] at hh
  rw [show mmN y + 1 - mmN y0 = mmN y - mmN y0 + 1 by omega, show mmS y + N - mmS y0 = mmS y - mmS y0 + N by omega] at hh
  exact hh
theorem J_nwA {N : Nat} {n : Int32} {f : Nat → Mu → Ly → Option (ρ × υ)} (hX : Ok X l G cc nL ret own) (hd : decode cc pc = .ok (.newarray .int, 2)) (ha : Cond.arrayClass .int ∈ lw_tbl) (hn : ¬ n < 0) (hN : n.toNatClampNeg = N) (hb4 : N * 4 ≤ 536870912)
    (kk : ∀ q μ1 y1, J X G nL d y0 em rv tp (pc + 2) L (.ref (G.1 + q) :: st) (μ1, y1) (f q μ1 y1)) : J X G nL d y0 em rv tp pc L (.int n :: st) (μ, y) (nwK μ y 0 N f) := by
  obtain ⟨p, l', e, s, mi, args, below, meth, c⟩ := X
  obtain ⟨rfl, hx, hb, hml, hr, hown, hlk, hK⟩ := hX
  intro r u h
  obtain ⟨h1, h2, h3⟩ := kk _ _ _ r u h
  refine ⟨(nw_pre y _ _).trans h1, h2, fun ls H locs a' b c' d' => ?_⟩
  have e1 := nw_N y 0 N
  have e2 := nw_S y 0 N
  have n1 := mmN_le (a := y0) (b := y) d'
  have s1 := mmS_le (a := y0) (b := y) d'
  have n2 := mmN_le (a := nwL y 0 N) (b := (em u).2) h1
  have s2 := mmS_le (a := nwL y 0 N) (b := (em u).2) h1
  refine va_newaK (atype := .int) hx hb (hK.2.1 _ ha rfl _) rfl hd rfl hn hN hb4 (by show mmN y - mmN y0 + 1 ≤ mmN (em u).2 - mmN y0; omega) (by show mmS y - mmS y0 + N ≤ mmS (em u).2 - mmS y0; omega) b.2.1 fun H1 cA g1 z1 o1 hAr hNm => ?_
  have hcA : cA = G.2.2.1 := Option.some.inj (hNm.symm.trans (hK.1.2 0 _ rfl).2)
  have hrel : Rel G (nwM μ y, nwL y 0 N) H1 := rel_new b z1 o1 (by
    show H1[G.1 + mmN y]? = some (arrV G.2.2.1 N (fun j => .int (nwM μ y (mmN y) j)))
    rw [g1, hcA]
    congr 2
    funext j
    simp [nwM]
    rfl)
  have hh := h3 ls H1 locs a' hrel c' (d'.trans (nw_pre y _ _))
  rw [e1, e2] at hh
  rw [show mmN y + 1 - mmN y0 = mmN y - mmN y0 + 1 by omega, show mmS y + N - mmS y0 = mmS y - mmS y0 + N by omega] at hh
  exact hh
theorem J_nwV {n : Int32} {f : Nat → Mu → Ly → Option (ρ × υ)} (hX : Ok X l G cc nL ret own) (hd : decode cc pc = .ok (.newarray .int, 2)) (ha : Cond.arrayClass .int ∈ lw_tbl)
    (kk : ∀ q μ1 y1, J X G nL d y0 em rv tp (pc + 2) L (.ref (G.1 + q) :: st) (μ1, y1) (f q μ1 y1)) : J X G nL d y0 em rv tp pc L (.int n :: st) (μ, y) (nwV μ y n f) := by
  intro r u h
  unfold nwV at h
  split at h
  case isFalse => cases h
  case isTrue hz => exact J_nwA hX hd ha hz.1 rfl hz.2 kk r u h
end Alloc
section Alloc2
variable {ρ υ : Type} {X : Cx} {l : Launch} {G : Gx} {cc : ByteArray} {nL d : Nat} {ret : Option FieldType} {own : String} {y0 : Ly} {em : υ → Mm} {rv : ρ → Option Value} {tp : ρ → Mm → Prop} {pc : Nat} {L : List (Nat × Value)} {st st0 : List Value} {μ : Mu} {y : Ly} {o : Option (ρ × υ)}
theorem J_gRm {idx ci k a n : Nat} {ty : FieldType} {fin : Bool} {fN : Option (ρ × υ)} {fS : Nat → Option (ρ × υ)} (hX : Ok X l G cc nL ret own) (hd : decode cc pc = .ok (.getfield idx, 3)) (hl : Fl own idx ci k ty fin) (hs : y.2[a]? = some (ci + 2, n)) (hr : mmR ci k = true) (kN : J X G nL d y0 em rv tp (pc + 3) L (.null :: st) (μ, y) fN) (kS : ∀ x, J X G nL d y0 em rv tp (pc + 3) L (.ref (G.1 + x) :: st) (μ, y) (fS x)) : J X G nL d y0 em rv tp pc L (.ref (G.1 + a) :: st) (μ, y) (gR y a k fN fS) := by
  unfold gR
  cases hv : y.1 a k with
  | none => exact J_gn hX hd hl hs hr hv kN
  | some x => exact J_gr hX hd hl hs hr hv (kS x)
theorem J_pRf {idx ci k a n x : Nat} {ty : FieldType} {f : Ly → Option (ρ × υ)} (hX : Ok X l G cc nL ret own) (hI : OkI X) (hd : decode cc pc = .ok (.putfield idx, 3)) (hl : Fl own idx ci k ty true) (hc : ∀ r, vwCl[ci]? = some r → r.1 = own) (hs : y.2[a]? = some (ci + 2, n)) (hr : mmR ci k = true) (hn : narrow ty (.ref (G.1 + x)) = .ref (G.1 + x)) (hf : fits ty (.ref (G.1 + x)) = true) (kk : ∀ y1, J X G nL d y0 em rv tp (pc + 3) L st (μ, y1) (f y1)) : J X G nL d y0 em rv tp pc L (.ref (G.1 + x) :: .ref (G.1 + a) :: st) (μ, y) (pR y a k x f) := J_pfr hX hI hd hl hc hs hr hn hf (kk _)
theorem J_pRn {idx ci k a n x : Nat} {C : String} {f : Ly → Option (ρ × υ)} (hX : Ok X l G cc nL ret own) (hd : decode cc pc = .ok (.putfield idx, 3)) (hl : Fl own idx ci k (.object C) false) (hs : y.2[a]? = some (ci + 2, n)) (hr : mmR ci k = true) (kk : ∀ y1, J X G nL d y0 em rv tp (pc + 3) L st (μ, y1) (f y1)) : J X G nL d y0 em rv tp pc L (.ref (G.1 + x) :: .ref (G.1 + a) :: st) (μ, y) (pR y a k x f) := J_pr hX hd hl hs hr (kk _)
theorem J_pFf {idx ci k a n : Nat} {v : Int32} {f : Mu → Option (ρ × υ)} (hX : Ok X l G cc nL ret own) (hI : OkI X) (hd : decode cc pc = .ok (.putfield idx, 3)) (hl : Fl own idx ci k .int true) (hc : ∀ r, vwCl[ci]? = some r → r.1 = own) (hs : y.2[a]? = some (ci + 2, n)) (hr : mmR ci k = false) (kk : ∀ μ1, J X G nL d y0 em rv tp (pc + 3) L st (μ1, y) (f μ1)) : J X G nL d y0 em rv tp pc L (.int v :: .ref (G.1 + a) :: st) (μ, y) (pF μ a k v f) := J_pfi hX hI hd hl hc hs hr (kk _)
theorem J_pFfz {idx ci k a n : Nat} {v : Int32} {f : Mu → Option (ρ × υ)} (hX : Ok X l G cc nL ret own) (hI : OkI X) (hd : decode cc pc = .ok (.putfield idx, 3)) (hl : Fl own idx ci k .boolean true) (hc : ∀ r, vwCl[ci]? = some r → r.1 = own) (hs : y.2[a]? = some (ci + 2, n)) (hr : mmR ci k = false) (kk : ∀ μ1, J X G nL d y0 em rv tp (pc + 3) L st (μ1, y) (f μ1)) : J X G nL d y0 em rv tp pc L (.int v :: .ref (G.1 + a) :: st) (μ, y) (zg v (pF μ a k v f)) := by
  intro r u h
  unfold zg at h
  split at h
  case isFalse => cases h
  case isTrue hz => exact J_pfz hX hI hd hl hc hs hr hz (kk _) r u h
theorem J_aaldM {a n : Nat} {i : Int32} {fN : Option (ρ × υ)} {fS : Nat → Option (ρ × υ)} (hX : Ok X l G cc nL ret own) (hd : decode cc pc = .ok (.aaload, 1)) (hs : y.2[a]? = some (1, n)) (kN : J X G nL d y0 em rv tp (pc + 1) L (.null :: st) (μ, y) fN) (kS : ∀ x, J X G nL d y0 em rv tp (pc + 1) L (.ref (G.1 + x) :: st) (μ, y) (fS x)) : J X G nL d y0 em rv tp pc L (.int i :: .ref (G.1 + a) :: st) (μ, y) (ldR y a n i fN fS) := by
  have key : inB i n = true → ∀ v : Value, va_rf ((y.1 a i.toNatClampNeg).map (fun x => G.1 + x)) = v → ∀ o', J X G nL d y0 em rv tp (pc + 1) L (v :: st) (μ, y) o' → J X G nL d y0 em rv tp pc L (.int i :: .ref (G.1 + a) :: st) (μ, y) o' := by
    intro hin v hv o' k
    obtain ⟨p, l', e, s, mi, args, below, meth, c⟩ := X
    obtain ⟨rfl, hx, hb, hml, hr, hown, hlk, hK⟩ := hX
    intro r u h
    obtain ⟨h1, h2, h3⟩ := k r u h
    refine ⟨h1, h2, fun ls H locs a' b c' d' => ?_⟩
    have hin := inB_in hin
    have hlt : i.toNatClampNeg < n := Nat.not_le.mp fun q => hin (Or.inr q)
    exact W.aald (v := v) (ty := .object RX1) hx hb (b.1 a _ hs) ((hK.1.2 1 _ rfl).1 n (fun j => va_rf ((y.1 a j).map (fun x => G.1 + x)))) rfl (fun q => by cases q) (by rw [arrV_size]; exact hin) (by rw [← hv]; exact arrV_read _ _ hlt) rfl rfl hd (h3 ls H locs a' b c' d')
  unfold ldR
  split
  case isFalse => exact J_none
  case isTrue hin =>
    cases hv : y.1 a i.toNatClampNeg with
    | none => exact key hin .null (by rw [hv]; rfl) _ kN
    | some x => exact key hin (.ref (G.1 + x)) (by rw [hv]; rfl) _ (kS x)
theorem J_aastM {a n n1 x : Nat} {i : Int32} {f : Ly → Option (ρ × υ)} (hX : Ok X l G cc nL ret own) (hd : decode cc pc = .ok (.aastore, 1)) (hs : y.2[a]? = some (1, n)) (hsx : y.2[x]? = some (3, n1)) (kk : ∀ y1, J X G nL d y0 em rv tp (pc + 1) L st (μ, y1) (f y1)) : J X G nL d y0 em rv tp pc L (.ref (G.1 + x) :: .int i :: .ref (G.1 + a) :: st) (μ, y) (stR y a n i x f) := by
  obtain ⟨p, l', e, s, mi, args, below, meth, c⟩ := X
  obtain ⟨rfl, hx, hb, hml, hr, hown, hlk, hK⟩ := hX
  intro r u h
  unfold stR at h
  split at h
  case isFalse => cases h
  case isTrue hin =>
    obtain ⟨h1, h2, h3⟩ := kk _ r u h
    refine ⟨h1, h2, fun ls H locs a' b c' d' => ?_⟩
    have hin := inB_in hin
    have hlt : i.toNatClampNeg < n := Nat.not_le.mp fun q => hin (Or.inr q)
    have h0 : ¬ i < 0 := fun q => hin (Or.inl q)
    obtain ⟨r', hr', -, cellV, g1, g2, g3, -⟩ := b.1 x _ hsx
    have hcls := (hK.1.1 1 _ rfl).2
    obtain ⟨kA, comp, k1, k2, k3, -⟩ := (hK.1.2 1 _ rfl).2
    have hcomp : comp = G.2.1.1 1 := Option.some.inj (k3.symm.trans hcls.1)
    subst hcomp
    obtain ⟨kC, hkC, -⟩ := id hcls.2
    refine W.aast hx hb (b.1 a _ hs) (fun q h => by cases h) (fun h => by cases h) k1 k2 rfl hkC ⟨h0, by rw [arrV_size]; exact hlt⟩ g1 (fun q h => by rw [g3] at h; cases h) (by rw [g2]; exact hkC) (by rw [g2]; exact va_assign hcls) rfl rfl hd fun H1 e1 z oq => ?_
    have hrel : Rel G (μ, up2r y.1 a i.toNatClampNeg (some x), y.2) H1 := rel_set (a := a) b rfl (fun _ _ => rfl) (fun k hk => up2r_ne hk) z oq (fun q hq => by
      cases hs.symm.trans hq
      show H1[G.1 + a]? = some (arrV _ _ (fun j => va_rf ((up2r y.1 a i.toNatClampNeg (some x) a j).map _)))
      rw [e1, arrV_store]
      congr 2
      funext j
      by_cases hj : j = i.toNatClampNeg
      · simp [updV, up2r, hj, va_rf]
      · simp [updV, up2r, hj])
    exact h3 ls H1 _ a' hrel (locs_put c') d'
variable {ρ' : Type} {oc : Option (ρ' × Mm)} {rv' : ρ' → Option Value} {f : ρ' → Mu → Ly → Option (ρ × υ)} {z : MethodName} {cc' : ByteArray} {nL' d' idx np : Nat} {ret' : Option FieldType} (vs : List Value)
theorem J_afterM {vs0 : List Value} (hrun : ∀ (p : Program) (e : Env) (s : State) (mi : MethodId) (args : Array Value) (below : List Frame) (meth : Method) (c : Code), X = (p, l, e, s, mi, args, below, meth, c) → ∀ (ls : Array Slot) (H : Heap) (locs : List Loc) (m1 m' : Mm) (w : Option Value), lv_has ls nL L → Rel G (μ, y) H → y0.2 <+: y.2 → y.2 <+: m1.2.2 → m1.2.2 <+: m'.2.2 → Con l G z cc' nL' ret' d' vs0 (μ, y) m1 w → va_Run p l e (Rm d (mmN m'.2 - mmN y0) (mmS m'.2 - mmS y0)) s mi args below meth c H locs (mmN y - mmN y0) (mmS y - mmS y0) (mmN m1.2 - mmN y) (mmS m1.2 - mmS y) (F0 mi pc ls st0) st (ConQ G w m1 vs0.toArray) (fun q => G.1 ≤ q))
    (hX : Ok X l G cc nL ret own) (hc : Cm l G z cc' nL' ret' d' vs0 (μ, y) rv' oc)
    (kk : ∀ r μ1 y1, J X G nL d y0 em rv tp (pc + 3) L ((rv' r).toList ++ st) (μ1, y1) (f r μ1 y1)) : J X G nL d y0 em rv tp pc L st0 (μ, y) (clm y oc f) := by
  cases hoc : oc with
  | none => exact J_none
  | some q =>
    obtain ⟨r1, u1⟩ := q
    refine J_ckP (fun hp => ?_)
    have hc' : Cn l G z cc' nL' ret' d' vs0 (μ, y) id rv' tpT (some (r1, u1)) := fun r u h => by
      cases h
      exact ⟨hp, trivial, hc r1 u1 hoc⟩
    exact J_after (em' := id) (oc := some (r1, u1)) (f := fun r u => f r u.1 u.2) hrun hX hc' (fun r u _ _ _ => kk r u.1 u.2)
theorem J_cIm {a : Nat} {f : Unit → Mu → Ly → Option (ρ × υ)} {oc : Option (Unit × Mm)} (hX : Ok X l G cc nL ret own) (hd : decode cc pc = .ok (.invokespecial idx, 3)) (hl : Cond.methodLink own idx z ∈ lw_tbl ∨ ∃ host, Cond.methodLinkNest own idx z host ∈ lw_tbl) (hv : Mc z cc' nL' np) (hst : st0 = vs.reverse ++ .ref (G.1 + a) :: st) (hnp : vs.length = np) (hw : (st.map fun v => v.category).sum ≤ 8) (hdd : d' + 1 ≤ d)
    (hc : Cm l G z cc' nL' none d' (.ref (G.1 + a) :: vs) (μ, y) rvV oc)
    (kk : ∀ μ1 y1, J X G nL d y0 em rv tp (pc + 3) L st (μ1, y1) (f () μ1 y1)) : J X G nL d y0 em rv tp pc L st0 (μ, y) (clm y oc f) := by
  refine J_afterM ?_ hX hc (fun r μ1 y1 => kk μ1 y1)
  rintro p e s mi args below meth c rfl ls H locs m1 m' w a' b d1 d2 d3 hM
  obtain ⟨-, hx, hb, hml, hr, hown, hlk, hK⟩ := hX
  obtain ⟨g1, g3, g4, g5, g6, g7, g8⟩ := hv
  rcases hl with hl | ⟨host, hl⟩
  · exact va_runI (Ts := []) (nL := nL) ⟨hx, hb, hml, hown, fun _ h => absurd h List.not_mem_nil⟩ hM
      ⟨⟨rfl, rfl, hdd, by show 8 + (nL' + 11) + 64 * d' ≤ 64 * d; omega, fun w hw a' U hW => by rw [List.mem_singleton.mp hw]; exact tw_warm hW hK.2.1 _ g5 rfl a', List.mem_singleton.mpr rfl, hK.2.1 _ g5 rfl _, hK.2.1 _ g4 rfl _, g6, np_of g7, hK.2.1 _ hl rfl _⟩, g1, hK.2.1 _ g3 rfl _⟩
      ⟨conP_blind, fun U hU hW => ⟨rfl, by rw [hU]; exact b, kw_warm hW hK⟩⟩
      rfl hnp a'.1 hst (by show 2 * 0 + _ ≤ 8; omega) hd (room_fit (m := (μ, y)) d1 d2 d3)
  · exact va_runIN (Ts := []) (nL := nL) ⟨hx, hb, hml, hown, fun _ h => absurd h List.not_mem_nil⟩ hM
      ⟨⟨⟨rfl, rfl, hdd, by show 8 + (nL' + 11) + 64 * d' ≤ 64 * d; omega, fun w hw a' U hW => by rw [List.mem_singleton.mp hw]; exact tw_warm hW hK.2.1 _ g5 rfl a', List.mem_singleton.mpr rfl⟩, hK.2.1 _ g5 rfl _, hK.2.1 _ g4 rfl _, g6, np_of g7, hK.2.1 _ hl rfl _⟩, g1, hK.2.1 _ g3 rfl _⟩
      ⟨conP_blind, fun U hU hW => ⟨rfl, by rw [hU]; exact b, kw_warm hW hK⟩⟩
      rfl hnp a'.1 hst (by show 2 * 0 + _ ≤ 8; omega) hd (room_fit (m := (μ, y)) d1 d2 d3)
theorem J_cVm {ci n a : Nat} (hX : Ok X l G cc nL ret own) (hd : decode cc pc = .ok (.invokevirtual idx, 3)) (hl : Cond.methodLink own idx z ∈ lw_tbl) (hv : Mv ci z cc' nL' ret' np) (hs : y.2[a]? = some (ci + 2, n)) (hst : st0 = vs.reverse ++ .ref (G.1 + a) :: st) (hnp : vs.length = np) (hw : (st.map fun v => v.category).sum ≤ 8) (hdd : d' + 1 ≤ d)
    (hc : Cm l G z cc' nL' ret' d' (.ref (G.1 + a) :: vs) (μ, y) rv' oc)
    (kk : ∀ r μ1 y1, J X G nL d y0 em rv tp (pc + 3) L ((rv' r).toList ++ st) (μ1, y1) (f r μ1 y1)) : J X G nL d y0 em rv tp pc L st0 (μ, y) (clm y oc f) := by
  refine J_afterM ?_ hX hc kk
  rintro p e s mi args below meth c rfl ls H locs m1 m' w a' b d1 d2 d3 hM
  obtain ⟨-, hx, hb, hml, hr, hown, hlk, hK⟩ := hX
  obtain ⟨r, g1, g2, g3, g4, g5, g6, g7, g8⟩ := hv
  obtain ⟨r', f1, f2, cell, e1, e2, e3, -⟩ := b.1 a _ hs
  cases f1.symm.trans g1
  exact va_runV (Ts := []) (nL := nL) ⟨hx, hb, hml, hown, fun _ h => absurd h List.not_mem_nil⟩ hM
    ⟨⟨rfl, rfl, hdd, by show 8 + (nL' + 11) + 64 * d' ≤ 64 * d; omega, fun w hw a' U hW => by rw [List.mem_singleton.mp hw]; exact tw_warm hW hK.2.1 _ g5 rfl a', List.mem_singleton.mpr rfl, hK.2.1 _ g5 rfl _, hK.2.1 _ g4 rfl _, g6, np_of g7, hK.2.1 _ hl rfl _⟩, hK.2.1 _ g3 rfl _, hK.2.1 _ g2 rfl _⟩
    ⟨conP_blind, ⟨cell, e1, by rw [e3]; rfl, by rw [e2]; exact (hK.1.1 ci _ g1).2.1⟩, fun U hU hW => ⟨rfl, by rw [hU]; exact b, kw_warm hW hK⟩⟩
    rfl hnp a'.1 hst (by show 2 * 0 + _ ≤ 8; omega) hd (room_fit (m := (μ, y)) d1 d2 d3)
end Alloc2
section Alloc3
variable {ρ υ : Type} {X : Cx} {l : Launch} {G : Gx} {cc : ByteArray} {nL d : Nat} {ret : Option FieldType} {own : String} {y0 : Ly} {em : υ → Mm} {rv : ρ → Option Value} {tp : ρ → Mm → Prop} {pc : Nat} {L : List (Nat × Value)} {st st0 : List Value} {μ : Mu} {y : Ly} {o : Option (ρ × υ)}
theorem J_anw {N idx : Nat} {n : Int32} {f : Nat → Mu → Ly → Option (ρ × υ)} (hX : Ok X l G cc nL ret own) (hd : decode cc pc = .ok (.anewarray idx, 3)) (hl : Cond.classLink own idx RX1 ∈ lw_tbl) (hn : ¬ n < 0) (hN : n.toNatClampNeg = N) (hb4 : N * 4 ≤ 536870912)
    (kk : ∀ q μ1 y1, J X G nL d y0 em rv tp (pc + 3) L (.ref (G.1 + q) :: st) (μ1, y1) (f q μ1 y1)) : J X G nL d y0 em rv tp pc L (.int n :: st) (μ, y) (nwK μ y 1 N f) := by
  obtain ⟨p, l', e, s, mi, args, below, meth, c⟩ := X
  obtain ⟨rfl, hx, hb, hml, hr, hown, hlk, hK⟩ := hX
  intro r u h
  obtain ⟨h1, h2, h3⟩ := kk _ _ _ r u h
  refine ⟨(nw_pre y _ _).trans h1, h2, fun ls H locs a' b c' d' => ?_⟩
  have e1 := nw_N y 1 N
  have e2 := nw_S y 1 N
  have n1 := mmN_le (a := y0) (b := y) d'
  have s1 := mmS_le (a := y0) (b := y) d'
  have n2 := mmN_le (a := nwL y 1 N) (b := (em u).2) h1
  have s2 := mmS_le (a := nwL y 1 N) (b := (em u).2) h1
  have hz : H.size = G.1 + mmN y := b.2.1
  subst hN
  refine W.anew hx hb hown (hK.2.1 _ hl rfl _) (va_AO.use hK.2.2.2.2.2.2.2.2.2.2) rfl hd rfl hn hb4 (by show mmN y - mmN y0 + 1 ≤ mmN (em u).2 - mmN y0; omega) (by show mmS y - mmS y0 + n.toNatClampNeg ≤ mmS (em u).2 - mmS y0; omega) fun cA kA comp g1 g2 g3 g4 => ?_
  obtain ⟨kA2, comp2, -, -, -, w4⟩ := (hK.1.2 1 _ rfl).2
  have hcA : cA = G.2.2.2.1 := Option.some.inj (g1.symm.trans w4)
  have hrel : Rel G (nwM μ y, nwL y 1 n.toNatClampNeg) (H.push { cls := cA, slots := Array.replicate n.toNatClampNeg .null, vm := .none }) := rel_new b (by rw [Array.size_push, hz]) (fun q hq => by rw [Array.getElem?_push, if_neg (by omega)]) (by
    show (H.push _)[G.1 + mmN y]? = some (arrV G.2.2.2.1 n.toNatClampNeg (fun j => va_rf (((nwL y 1 n.toNatClampNeg).1 (mmN y) j).map _)))
    rw [← hz, arrV_new, hcA]
    simp [nwL, va_rf])
  have hh := h3 ls _ locs a' hrel c' (d'.trans (nw_pre y _ _))
  rw [e1, e2] at hh
  rw [show mmN y + 1 - mmN y0 = mmN y - mmN y0 + 1 by omega, show mmS y + n.toNatClampNeg - mmS y0 = mmS y - mmS y0 + n.toNatClampNeg by omega] at hh
  rw [hz]
  exact hh
end Alloc3
def ldS {α : Type} (xs : Nat → Int32) (Ln : Nat) (i : Int32) (f : Int32 → Option α) : Option α := if inB i Ln = true then f (xs i.toNatClampNeg) else none
/-- the law's script lies below the base -/
def Sc (X : Cx) (G : Gx) (b Ln : Nat) (xs : Nat → Int32) : Prop := match X with
  | (_, _, _, s, _, _, _, _, _) => va_X b Ln xs s G.2.2.2.2.1 ∧ b < G.1
section Alloc4
variable {ρ υ : Type} {X : Cx} {l : Launch} {G : Gx} {cc : ByteArray} {nL d : Nat} {ret : Option FieldType} {own : String} {y0 : Ly} {em : υ → Mm} {rv : ρ → Option Value} {tp : ρ → Mm → Prop} {pc : Nat} {L : List (Nat × Value)} {st st0 : List Value} {m : Mm} {o : Option (ρ × υ)} {b Ln : Nat} {xs : Nat → Int32}
theorem J_alenR {a n : Nat} (hX : Ok X l G cc nL ret own) (hd : decode cc pc = .ok (.arraylength, 1)) (hs : m.2.2[a]? = some (1, n)) {v : Int32} (hv : Int32.ofNat n = v) (kk : J X G nL d y0 em rv tp (pc + 1) L (.int v :: st) m o) : J X G nL d y0 em rv tp pc L (.ref (G.1 + a) :: st) m o := by
  obtain ⟨p, l', e, s, mi, args, below, meth, c⟩ := X
  obtain ⟨rfl, hx, hb, hml, hr, hown, hlk, hK⟩ := hX
  intro r u h
  obtain ⟨h1, h2, h3⟩ := kk r u h
  refine ⟨h1, h2, fun ls H locs a' b c' d' => ?_⟩
  exact W.alen (n := v) hx hb (b.1 a _ hs) ((hK.1.2 1 _ rfl).1 n (fun j => va_rf ((m.2.1 a j).map (fun x => G.1 + x)))) (by rw [arrV_size]; exact hv) rfl rfl hd (h3 ls H locs a' b c' d')
theorem J_sld {i : Int32} {f : Int32 → Option (ρ × υ)} (hX : Ok X l G cc nL ret own) (hsc : Sc X G b Ln xs) (hd : decode cc pc = .ok (.iaload, 1)) (kk : ∀ x, J X G nL d y0 em rv tp (pc + 1) L (.int x :: st) m (f x)) : J X G nL d y0 em rv tp pc L (.int i :: .ref b :: st) m (ldS xs Ln i f) := by
  obtain ⟨p, l', e, s, mi, args, below, meth, c⟩ := X
  obtain ⟨rfl, hx, hb, hml, hr, hown, hlk, hK⟩ := hX
  intro r u h
  unfold ldS at h
  split at h
  case isFalse => cases h
  case isTrue hin =>
    obtain ⟨h1, h2, h3⟩ := kk _ r u h
    refine ⟨h1, h2, fun ls H locs a' b' c' d' => ?_⟩
    obtain ⟨⟨scr, g1, g2, g3, g4, g5⟩, hbl⟩ := hsc
    have hin := inB_in hin
    have hlt : i.toNatClampNeg < Ln := Nat.not_le.mp fun q => hin (Or.inr q)
    exact W.iald (v := .int (xs i.toNatClampNeg)) hx hb (by rw [b'.2.2 b hbl]; exact g1) g2 g3 (by rw [g4]; exact hin) (g5 _ hlt) rfl rfl hd (h3 ls H locs a' b' c' d')
theorem J_sln (hX : Ok X l G cc nL ret own) (hsc : Sc X G b Ln xs) (hd : decode cc pc = .ok (.arraylength, 1)) (kk : J X G nL d y0 em rv tp (pc + 1) L (.int (Int32.ofNat Ln) :: st) m o) : J X G nL d y0 em rv tp pc L (.ref b :: st) m o := by
  obtain ⟨p, l', e, s, mi, args, below, meth, c⟩ := X
  obtain ⟨rfl, hx, hb, hml, hr, hown, hlk, hK⟩ := hX
  intro r u h
  obtain ⟨h1, h2, h3⟩ := kk r u h
  refine ⟨h1, h2, fun ls H locs a' b' c' d' => ?_⟩
  obtain ⟨⟨scr, g1, g2, g3, g4, g5⟩, hbl⟩ := hsc
  exact W.alen (n := Int32.ofNat Ln) hx hb (by rw [b'.2.2 b hbl]; exact g1) g2 (by rw [g4]) rfl rfl hd (h3 ls H locs a' b' c' d')
end Alloc4
