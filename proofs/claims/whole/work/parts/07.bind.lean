/-! BINDERS: a loaded number and a new memory get names; loops -/
def gF {α : Type} (μ : Mu) (a k : Nat) (f : Int32 → Option α) : Option α := f (μ a k)
def pF {α : Type} (μ : Mu) (a k : Nat) (v : Int32) (f : Mu → Option α) : Option α := f (up2 μ a k v)
def zg {α : Type} (v : Int32) (k : Option α) : Option α := if v = 0 ∨ v = 1 then k else none
def lp {α : Type} (F : α → α) (z : α) : Nat → α
  | 0 => z
  | n + 1 => F (lp F z n)
def FU : Nat := 1000000
def emy (y : Ly) : Mu → Mm := fun u => (u, y)
section Bind
variable {ρ υ : Type} {X : Cx} {l : Launch} {G : Gx} {cc : ByteArray} {nL d : Nat} {ret : Option FieldType} {own : String} {y0 : Ly} {em : υ → Mm} {rv : ρ → Option Value} {tp : ρ → Mm → Prop} {pc : Nat} {L : List (Nat × Value)} {st : List Value} {m : Mm} {o : Option (ρ × υ)}
theorem J_none : J X G nL d y0 em rv tp pc L st m none := fun _ _ h => by cases h
theorem J_gF {idx ci k a n : Nat} {ty : FieldType} {fin : Bool} {f : Int32 → Option (ρ × υ)} (hX : Ok X l G cc nL ret own) (hd : decode cc pc = .ok (.getfield idx, 3)) (hl : Fl own idx ci k ty fin) (hs : m.2.2[a]? = some (ci + 2, n)) (hr : mmR ci k = false) (kk : ∀ x, J X G nL d y0 em rv tp (pc + 3) L (.int x :: st) m (f x)) : J X G nL d y0 em rv tp pc L (.ref (G.1 + a) :: st) m (gF m.1 a k f) := J_gi hX hd hl hs hr (kk _)
theorem J_pF {idx ci k a n : Nat} {v : Int32} {f : Mu → Option (ρ × υ)} (hX : Ok X l G cc nL ret own) (hd : decode cc pc = .ok (.putfield idx, 3)) (hl : Fl own idx ci k .int false) (hs : m.2.2[a]? = some (ci + 2, n)) (hr : mmR ci k = false) (kk : ∀ μ1, J X G nL d y0 em rv tp (pc + 3) L st (μ1, m.2) (f μ1)) : J X G nL d y0 em rv tp pc L (.int v :: .ref (G.1 + a) :: st) m (pF m.1 a k v f) := J_pi hX hd hl hs hr (kk _)
theorem J_pFz {idx ci k a n : Nat} {v : Int32} {f : Mu → Option (ρ × υ)} (hX : Ok X l G cc nL ret own) (hd : decode cc pc = .ok (.putfield idx, 3)) (hl : Fl own idx ci k .boolean false) (hs : m.2.2[a]? = some (ci + 2, n)) (hr : mmR ci k = false) (kk : ∀ μ1, J X G nL d y0 em rv tp (pc + 3) L st (μ1, m.2) (f μ1)) : J X G nL d y0 em rv tp pc L (.int v :: .ref (G.1 + a) :: st) m (zg v (pF m.1 a k v f)) := by
  intro r u h
  unfold zg at h
  split at h
  case isFalse => cases h
  case isTrue hz => exact J_pz hX hd hl hs hr hz (kk _) r u h
theorem J_ldA {a n : Nat} {i : Int32} {f : Int32 → Option (ρ × υ)} (hX : Ok X l G cc nL ret own) (hd : decode cc pc = .ok (.iaload, 1)) (hs : m.2.2[a]? = some (0, n)) (kk : ∀ x, J X G nL d y0 em rv tp (pc + 1) L (.int x :: st) m (f x)) : J X G nL d y0 em rv tp pc L (.int i :: .ref (G.1 + a) :: st) m (ldA m.1 a n i f) := J_ald hX hd hs (kk _)
theorem J_stA {a n : Nat} {i x : Int32} {f : Mu → Option (ρ × υ)} (hX : Ok X l G cc nL ret own) (hd : decode cc pc = .ok (.iastore, 1)) (hs : m.2.2[a]? = some (0, n)) (kk : ∀ μ1, J X G nL d y0 em rv tp (pc + 1) L st (μ1, m.2) (f μ1)) : J X G nL d y0 em rv tp pc L (.int x :: .int i :: .ref (G.1 + a) :: st) m (stA m.1 a n i x f) := J_ast hX hd hs (kk _)
theorem J_zgr {tp : Int32 → Mm → Prop} {u : υ} {v : Int32} (hX : Ok X l G cc nL (some .boolean) own) (hd : decode cc pc = .ok (.ireturn, 1)) (hu : em u = m) (ht : tp v m) : J X G nL d y0 em rvI tp pc L [.int v] m (zg v (some (v, u))) := by
  intro r u' h
  unfold zg at h
  split at h
  case isFalse => cases h
  case isTrue hz => exact J_zret hX hd hu hz ht r u' h
theorem J_ite {c : Prop} {o1 o2 : Option (ρ × υ)} (kc : Decidable c) (kt : c → J X G nL d y0 em rv tp pc L st m o1) (kf : ¬ c → J X G nL d y0 em rv tp pc L st m o2) : J X G nL d y0 em rv tp pc L st m (@ite _ c kc o1 o2) := by
  by_cases h : c
  · rw [if_pos h]; exact kt h
  · rw [if_neg h]; exact kf h
theorem J_tsIn {dflt lo hi : Int} {offs : Array Int} {len : Nat} {x : Int32} {off : Int} {tgt : Nat} (c : Int32) (hx : x = c) (hX : Ok X l G cc nL ret own) (hd : decode cc pc = .ok (.tableswitch dflt lo hi offs, len)) (h1 : ¬ c.toInt < lo) (h2 : ¬ hi < c.toInt) (ho : offs[(c.toInt - lo).toNat]? = some off) (ht : (pc : Int) + off = (tgt : Int)) (k : J X G nL d y0 em rv tp tgt L st m o) : J X G nL d y0 em rv tp pc L (.int x :: st) m o := by
  subst hx
  obtain ⟨p, l', e, s, mi, args, below, meth, c⟩ := X
  obtain ⟨rfl, hx, hb, hml, hr, hown, hlk, hK⟩ := hX
  intro r u h
  obtain ⟨g1, g2, g3⟩ := k r u h
  exact ⟨g1, g2, fun ls H locs a b c' d' => lv_tableIn hx hb hd h1 h2 ho ht (g3 ls H locs a b c' d')⟩
theorem J_tsOut {dflt lo hi : Int} {offs : Array Int} {len : Nat} {x : Int32} {tgt : Nat} (hX : Ok X l G cc nL ret own) (hd : decode cc pc = .ok (.tableswitch dflt lo hi offs, len)) (h : x.toInt < lo ∨ hi < x.toInt) (ht : (pc : Int) + dflt = (tgt : Int)) (k : J X G nL d y0 em rv tp tgt L st m o) : J X G nL d y0 em rv tp pc L (.int x :: st) m o := by
  obtain ⟨p, l', e, s, mi, args, below, meth, c⟩ := X
  obtain ⟨rfl, hx, hb, hml, hr, hown, hlk, hK⟩ := hX
  intro r u h'
  obtain ⟨g1, g2, g3⟩ := k r u h'
  exact ⟨g1, g2, fun ls H locs a b c' d' => lv_tableOut hx hb hd h ht (g3 ls H locs a b c' d')⟩
theorem J_lks {dflt : Int} {ps : Array (Int × Int)} {len : Nat} {x : Int32} {off : Int} {tgt : Nat} (hX : Ok X l G cc nL ret own) (hd : decode cc pc = .ok (.lookupswitch dflt ps, len)) (hp : (ps.toList.zip (ps.toList.drop 1)).all (fun (a, next) => a.1 < next.1) = true) (ho : Op.lookupswitch.offset ps.toList dflt x.toInt = off) (ht : (pc : Int) + off = (tgt : Int)) (k : J X G nL d y0 em rv tp tgt L st m o) : J X G nL d y0 em rv tp pc L (.int x :: st) m o := by
  obtain ⟨p, l', e, s, mi, args, below, meth, c⟩ := X
  obtain ⟨rfl, hx, hb, hml, hr, hown, hlk, hK⟩ := hX
  intro r u h'
  obtain ⟨g1, g2, g3⟩ := k r u h'
  exact ⟨g1, g2, fun ls H locs a b c' d' => lv_lookup hx hb hd hp ho ht (g3 ls H locs a b c' d')⟩
theorem i32_eq {x y : Int32} : x = y ↔ x.toInt = y.toInt := ⟨fun h => by rw [h], fun h => Int32.toInt_inj.mp h⟩
end Bind
section CallK
variable {ρ υ : Type} {X : Cx} {l : Launch} {G : Gx} {cc : ByteArray} {nL d : Nat} {ret : Option FieldType} {own : String} {y0 : Ly} {em : υ → Mm} {rv : ρ → Option Value} {tp : ρ → Mm → Prop} {pc : Nat} {L : List (Nat × Value)} {st st0 : List Value} {m : Mm} {o : Option (ρ × υ)}
variable {y : MethodName} {cc' : ByteArray} {nL' d' idx np : Nat} {ret' : Option FieldType} (vs : List Value)
/-- calls of methods that make nothing: an int comes back, or nothing -/
theorem J_cVi {oc : Option (Int32 × Mu)} {f : Int32 → Mu → Option (ρ × υ)} {ci n a : Nat} (hX : Ok X l G cc nL ret own) (hd : decode cc pc = .ok (.invokevirtual idx, 3)) (hl : Cond.methodLink own idx y ∈ lw_tbl) (hv : Mv ci y cc' nL' ret' np) (hs : m.2.2[a]? = some (ci + 2, n)) (hst : st0 = vs.reverse ++ .ref (G.1 + a) :: st) (hnp : vs.length = np) (hw : (st.map fun v => v.category).sum ≤ 8) (hdd : d' + 1 ≤ d)
    (hc : Cn l G y cc' nL' ret' d' (.ref (G.1 + a) :: vs) m (emy m.2) rvI tpT oc)
    (kk : ∀ r u, J X G nL d y0 em rv tp (pc + 3) L (.int r :: st) (u, m.2) (f r u)) : J X G nL d y0 em rv tp pc L st0 m (cl oc f) :=
  J_callV hX hd hl hv hs hst hnp hw hdd hc (fun r u _ _ _ => kk r u)
theorem J_cVv {oc : Option (Unit × Mu)} {f : Unit → Mu → Option (ρ × υ)} {ci n a : Nat} (hX : Ok X l G cc nL ret own) (hd : decode cc pc = .ok (.invokevirtual idx, 3)) (hl : Cond.methodLink own idx y ∈ lw_tbl) (hv : Mv ci y cc' nL' ret' np) (hs : m.2.2[a]? = some (ci + 2, n)) (hst : st0 = vs.reverse ++ .ref (G.1 + a) :: st) (hnp : vs.length = np) (hw : (st.map fun v => v.category).sum ≤ 8) (hdd : d' + 1 ≤ d)
    (hc : Cn l G y cc' nL' ret' d' (.ref (G.1 + a) :: vs) m (emy m.2) rvV tpT oc)
    (kk : ∀ u, J X G nL d y0 em rv tp (pc + 3) L st (u, m.2) (f () u)) : J X G nL d y0 em rv tp pc L st0 m (cl oc f) :=
  J_callV hX hd hl hv hs hst hnp hw hdd hc (fun r u _ _ _ => kk u)
theorem J_cSi {oc : Option (Int32 × Mu)} {f : Int32 → Mu → Option (ρ × υ)} (hX : Ok X l G cc nL ret own) (hd : decode cc pc = .ok (.invokestatic idx, 3)) (hl : Cond.methodLink own idx y ∈ lw_tbl) (hv : Ms y cc' nL' ret' np) (hst : st0 = vs.reverse ++ st) (hnp : vs.length = np) (hw : (st.map fun v => v.category).sum ≤ 8) (hdd : d' + 1 ≤ d)
    (hc : Cn l G y cc' nL' ret' d' vs m (emy m.2) rvI tpT oc)
    (kk : ∀ r u, J X G nL d y0 em rv tp (pc + 3) L (.int r :: st) (u, m.2) (f r u)) : J X G nL d y0 em rv tp pc L st0 m (cl oc f) :=
  J_callS hX hd hl hv hst hnp hw hdd hc (fun r u _ _ _ => kk r u)
theorem J_cSl {oc : Option (Int64 × Mu)} {f : Int64 → Mu → Option (ρ × υ)} (hX : Ok X l G cc nL ret own) (hd : decode cc pc = .ok (.invokestatic idx, 3)) (hl : Cond.methodLink own idx y ∈ lw_tbl) (hv : Ms y cc' nL' ret' np) (hst : st0 = vs.reverse ++ st) (hnp : vs.length = np) (hw : (st.map fun v => v.category).sum ≤ 8) (hdd : d' + 1 ≤ d)
    (hc : Cn l G y cc' nL' ret' d' vs m (emy m.2) rvL tpT oc)
    (kk : ∀ r u, J X G nL d y0 em rv tp (pc + 3) L (.long r :: st) (u, m.2) (f r u)) : J X G nL d y0 em rv tp pc L st0 m (cl oc f) :=
  J_callS hX hd hl hv hst hnp hw hdd hc (fun r u _ _ _ => kk r u)
theorem J_cSv {oc : Option (Unit × Mu)} {f : Unit → Mu → Option (ρ × υ)} (hX : Ok X l G cc nL ret own) (hd : decode cc pc = .ok (.invokestatic idx, 3)) (hl : Cond.methodLink own idx y ∈ lw_tbl) (hv : Ms y cc' nL' ret' np) (hst : st0 = vs.reverse ++ st) (hnp : vs.length = np) (hw : (st.map fun v => v.category).sum ≤ 8) (hdd : d' + 1 ≤ d)
    (hc : Cn l G y cc' nL' ret' d' vs m (emy m.2) rvV tpT oc)
    (kk : ∀ u, J X G nL d y0 em rv tp (pc + 3) L st (u, m.2) (f () u)) : J X G nL d y0 em rv tp pc L st0 m (cl oc f) :=
  J_callS hX hd hl hv hst hnp hw hdd hc (fun r u _ _ _ => kk u)
end CallK
