/-! CALLS -/
/-- a contract by its model: whatever the model says, the method does -/
def Cn {ρ υ : Type} (l : Launch) (G : Gx) (y : MethodName) (cc : ByteArray) (nL : Nat) (ret : Option FieldType) (d : Nat) (vs : List Value) (m : Mm) (em : υ → Mm) (rv : ρ → Option Value) (tp : ρ → Mm → Prop) (oc : Option (ρ × υ)) : Prop :=
  ∀ (r : ρ) (u : υ), oc = some (r, u) → m.2.2 <+: (em u).2.2 ∧ tp r (em u) ∧ Con l G y cc nL ret d vs m (em u) (rv r)
theorem cn_of {ρ υ : Type} {l : Launch} {G : Gx} {y : MethodName} {cc : ByteArray} {nL : Nat} {ret : Option FieldType} {d : Nat} {vs : List Value} {m : Mm} {em : υ → Mm} {rv : ρ → Option Value} {tp : ρ → Mm → Prop} {oc : Option (ρ × υ)}
    (hy : plainName y.cls = true) (hn : (lg_sl vs).length ≤ nL) (hne : ∀ r u, oc = some (r, u) → m.2.2 <+: (em u).2.2 ∧ tp r (em u)) (h : ∀ X : Cx, Ok X l G cc nL ret y.cls → (y.name = "<init>" → OkI X) → J X G nL d m.2 em rv tp 0 (lv_args 0 vs) [] m oc) : Cn l G y cc nL ret d vs m em rv tp oc := by
  intro r u e0
  refine ⟨(hne r u e0).1, (hne r u e0).2, ?_⟩
  refine Met.ofW (cc := cc) (maxL := nL) (ret := ret) hy rfl ?_
  intro p e s mi args below meth c s₁ B hml hv
  obtain ⟨rfl, hR, hK⟩ := hv
  have hown : s.vm.findClass y.cls = some mi.cls := findClass_of_methodNamed B.named
  obtain ⟨-, -, h3⟩ := h (p, l, e, s, mi, vs.toArray, below, meth, c) ⟨rfl, B.exec, B.bytes, hml, B.returns, hown, B.notSynchronized, hK⟩ (fun hi => (name_of_methodNamed B.named B.method).1.trans hi) r u e0
  have hh := h3 _ s.heap [] (lv_entry vs hn) hR (fun q hq => absurd hq List.not_mem_nil) (List.prefix_refl _)
  rw [Nat.sub_self, Nat.sub_self] at hh
  rw [lg_entry_eq]
  exact hh
/-- what a method is, for a call: its code, its class -/
def Mv (ci : Nat) (y : MethodName) (cc : ByteArray) (nL : Nat) (ret : Option FieldType) (np : Nat) : Prop := ∃ r : vw_C, vwCl[ci]? = some r ∧ Cond.selects r.1 y y ∈ lw_tbl ∧ Cond.instanceMethod y ∈ lw_tbl ∧ Cond.initialized y.cls ∈ lw_tbl ∧ Cond.code y cc nL ret ∈ lw_tbl ∧ (y.cls ≠ "java/lang/invoke/MethodHandle" ∧ y.cls ≠ "java/lang/invoke/VarHandle") ∧ (parseMethodDescriptor y.desc).map (fun d => d.parameters.length) = some np ∧ nL ≤ 45
def Ms (y : MethodName) (cc : ByteArray) (nL : Nat) (ret : Option FieldType) (np : Nat) : Prop := Cond.static y ∈ lw_tbl ∧ Cond.initialized y.cls ∈ lw_tbl ∧ Cond.code y cc nL ret ∈ lw_tbl ∧ (y.cls ≠ "java/lang/invoke/MethodHandle" ∧ y.cls ≠ "java/lang/invoke/VarHandle") ∧ (parseMethodDescriptor y.desc).map (fun d => d.parameters.length) = some np ∧ nL ≤ 45
def Mc (y : MethodName) (cc : ByteArray) (nL : Nat) (np : Nat) : Prop := y.name = "<init>" ∧ Cond.instanceMethod y ∈ lw_tbl ∧ Cond.initialized y.cls ∈ lw_tbl ∧ Cond.code y cc nL none ∈ lw_tbl ∧ (y.cls ≠ "java/lang/invoke/MethodHandle" ∧ y.cls ≠ "java/lang/invoke/VarHandle") ∧ (parseMethodDescriptor y.desc).map (fun d => d.parameters.length) = some np ∧ nL ≤ 45
theorem np_of {y : MethodName} {np : Nat} (h : (parseMethodDescriptor y.desc).map (fun d => d.parameters.length) = some np) : ∀ sig, parseMethodDescriptor y.desc = some sig → np = sig.parameters.length := by
  intro sig hs
  rw [hs] at h
  exact (Option.some.inj h).symm
section Call
variable {ρ υ : Type} {X : Cx} {l : Launch} {G : Gx} {cc : ByteArray} {nL d : Nat} {ret : Option FieldType} {own : String} {y0 : Ly} {em : υ → Mm} {rv : ρ → Option Value} {tp : ρ → Mm → Prop} {pc : Nat} {L : List (Nat × Value)} {st st0 : List Value} {m : Mm} {o : Option (ρ × υ)}
variable {ρ' υ' : Type} {oc : Option (ρ' × υ')} {em' : υ' → Mm} {rv' : ρ' → Option Value} {tp' : ρ' → Mm → Prop} {f : ρ' → υ' → Option (ρ × υ)} {y : MethodName} {cc' : ByteArray} {nL' d' idx np : Nat} {ret' : Option FieldType} {vs : List Value}
/-- behind a run of a callee, goes on -/
theorem J_after {vs0 : List Value} (hrun : ∀ (p : Program) (e : Env) (s : State) (mi : MethodId) (args : Array Value) (below : List Frame) (meth : Method) (c : Code), X = (p, l, e, s, mi, args, below, meth, c) → ∀ (ls : Array Slot) (H : Heap) (locs : List Loc) (m1 m' : Mm) (w : Option Value), lv_has ls nL L → Rel G m H → y0.2 <+: m.2.2 → m.2.2 <+: m1.2.2 → m1.2.2 <+: m'.2.2 → Con l G y cc' nL' ret' d' vs0 m m1 w → va_Run p l e (Rm d (mmN m'.2 - mmN y0) (mmS m'.2 - mmS y0)) s mi args below meth c H locs (mmN m.2 - mmN y0) (mmS m.2 - mmS y0) (mmN m1.2 - mmN m.2) (mmS m1.2 - mmS m.2) (F0 mi pc ls st0) st (ConQ G w m1 vs0.toArray) (fun q => G.1 ≤ q))
    (hX : Ok X l G cc nL ret own)
    (hc : Cn l G y cc' nL' ret' d' vs0 m em' rv' tp' oc)
    (kk : ∀ r u, oc = some (r, u) → m.2.2 <+: (em' u).2.2 → tp' r (em' u) → J X G nL d y0 em rv tp (pc + 3) L ((rv' r).toList ++ st) (em' u) (f r u)) : J X G nL d y0 em rv tp pc L st0 m (cl oc f) := by
  obtain ⟨p, l', e, s, mi, args, below, meth, c⟩ := X
  obtain ⟨rfl, hx, hb, hml, hr, hown, hlk, hK⟩ := hX
  intro r u h
  cases hoc : oc with
  | none => rw [hoc] at h; cases h
  | some q =>
    obtain ⟨r1, u1⟩ := q
    rw [hoc] at h
    obtain ⟨c1, c2, c3⟩ := hc r1 u1 hoc
    obtain ⟨h1, h2, h3⟩ := kk r1 u1 hoc c1 c2 r u h
    refine ⟨c1.trans h1, h2, fun ls H locs a' b c' d' => ?_⟩
    have hr := hrun p e s mi args below meth c rfl ls H locs (em' u1) (em u) (rv' r1) a' b d' c1 h1 c3
    intro T hT X0
    obtain ⟨v, st₀, t, T', L1, e0, X', hL, e1, e2, ⟨q1, q2, q3⟩, st9⟩ := hr T hT X0
    cases q1
    have n1 := mmN_le (a := y0) (b := m.2) d'
    have n2 := mmN_le (a := m.2) (b := (em' u1).2) c1
    have s1 := mmS_le (a := y0) (b := m.2) d'
    have s2 := mmS_le (a := m.2) (b := (em' u1).2) c1
    rw [show mmN m.2 - mmN y0 + (mmN (em' u1).2 - mmN m.2) = mmN (em' u1).2 - mmN y0 by omega, show mmS m.2 - mmS y0 + (mmS (em' u1).2 - mmS m.2) = mmS (em' u1).2 - mmS y0 by omega] at X'
    obtain ⟨t2, a1, b1⟩ := h3 ls T'.heap (locs ++ L1) a' (by rw [e1]; exact q2) (fun q hq => by
      rcases List.mem_append.mp hq with z | z
      · exact c' q z
      · exact hL q z) (d'.trans c1) T' rfl X'
    exact ⟨t2, st9 t2 a1, b1⟩
theorem room_fit {m1 m' : Mm} (a1 : y0.2 <+: m.2.2) (a2 : m.2.2 <+: m1.2.2) (a3 : m1.2.2 <+: m'.2.2) : (mmN m.2 - mmN y0) + (mmN m1.2 - mmN m.2) ≤ mmN m'.2 - mmN y0 ∧ (mmS m.2 - mmS y0) + (mmS m1.2 - mmS m.2) ≤ mmS m'.2 - mmS y0 := by
  have n1 := mmN_le (a := y0) (b := m.2) a1
  have n2 := mmN_le (a := m.2) (b := m1.2) a2
  have n3 := mmN_le (a := m1.2) (b := m'.2) a3
  have s1 := mmS_le (a := y0) (b := m.2) a1
  have s2 := mmS_le (a := m.2) (b := m1.2) a2
  have s3 := mmS_le (a := m1.2) (b := m'.2) a3
  omega
theorem J_callV {ci n a : Nat} (hX : Ok X l G cc nL ret own) (hd : decode cc pc = .ok (.invokevirtual idx, 3)) (hl : Cond.methodLink own idx y ∈ lw_tbl) (hv : Mv ci y cc' nL' ret' np) (hs : m.2.2[a]? = some (ci + 2, n)) (hst : st0 = vs.reverse ++ .ref (G.1 + a) :: st) (hnp : vs.length = np) (hw : (st.map fun v => v.category).sum ≤ 8) (hdd : d' + 1 ≤ d)
    (hc : Cn l G y cc' nL' ret' d' (.ref (G.1 + a) :: vs) m em' rv' tp' oc)
    (kk : ∀ r u, oc = some (r, u) → m.2.2 <+: (em' u).2.2 → tp' r (em' u) → J X G nL d y0 em rv tp (pc + 3) L ((rv' r).toList ++ st) (em' u) (f r u)) : J X G nL d y0 em rv tp pc L st0 m (cl oc f) := by
  refine J_after ?_ hX hc kk
  rintro p e s mi args below meth c rfl ls H locs m1 m' w a' b d1 d2 d3 hM
  obtain ⟨-, hx, hb, hml, hr, hown, hlk, hK⟩ := hX
  obtain ⟨r, g1, g2, g3, g4, g5, g6, g7, g8⟩ := hv
  obtain ⟨r', f1, f2, cell, e1, e2, e3, -⟩ := b.1 a _ hs
  cases f1.symm.trans g1
  exact va_runV (Ts := []) (nL := nL) ⟨hx, hb, hml, hown, fun _ h => absurd h List.not_mem_nil⟩ hM
    ⟨⟨rfl, rfl, hdd, by show 8 + (nL' + 11) + 64 * d' ≤ 64 * d; omega, fun w hw a' U hW => by rw [List.mem_singleton.mp hw]; exact tw_warm hW hK.2.1 _ g5 rfl a', List.mem_singleton.mpr rfl, hK.2.1 _ g5 rfl _, hK.2.1 _ g4 rfl _, g6, np_of g7, hK.2.1 _ hl rfl _⟩, hK.2.1 _ g3 rfl _, hK.2.1 _ g2 rfl _⟩
    ⟨conP_blind, ⟨cell, e1, by rw [e3]; rfl, by rw [e2]; exact (hK.1.1 ci _ g1).2.1⟩, fun U hU hW => ⟨rfl, by rw [hU]; exact b, kw_warm hW hK⟩⟩
    rfl hnp a'.1 hst (by show 2 * 0 + _ ≤ 8; omega) hd (room_fit d1 d2 d3)
theorem J_callS (hX : Ok X l G cc nL ret own) (hd : decode cc pc = .ok (.invokestatic idx, 3)) (hl : Cond.methodLink own idx y ∈ lw_tbl) (hv : Ms y cc' nL' ret' np) (hst : st0 = vs.reverse ++ st) (hnp : vs.length = np) (hw : (st.map fun v => v.category).sum ≤ 8) (hdd : d' + 1 ≤ d)
    (hc : Cn l G y cc' nL' ret' d' vs m em' rv' tp' oc)
    (kk : ∀ r u, oc = some (r, u) → m.2.2 <+: (em' u).2.2 → tp' r (em' u) → J X G nL d y0 em rv tp (pc + 3) L ((rv' r).toList ++ st) (em' u) (f r u)) : J X G nL d y0 em rv tp pc L st0 m (cl oc f) := by
  refine J_after ?_ hX hc kk
  rintro p e s mi args below meth c rfl ls H locs m1 m' w a' b d1 d2 d3 hM
  obtain ⟨-, hx, hb, hml, hr, hown, hlk, hK⟩ := hX
  obtain ⟨g2, g4, g5, g6, g7, g8⟩ := hv
  exact va_runS (Ts := []) (nL := nL) ⟨hx, hb, hml, hown, fun _ h => absurd h List.not_mem_nil⟩ hM
    ⟨⟨rfl, rfl, hdd, by show 8 + (nL' + 11) + 64 * d' ≤ 64 * d; omega, fun w hw a' U hW => by rw [List.mem_singleton.mp hw]; exact tw_warm hW hK.2.1 _ g5 rfl a', List.mem_singleton.mpr rfl, hK.2.1 _ g5 rfl _, hK.2.1 _ g4 rfl _, g6, np_of g7, hK.2.1 _ hl rfl _⟩, hK.2.1 _ g2 rfl _⟩
    ⟨conP_blind, fun U hU hW => ⟨rfl, by rw [hU]; exact b, kw_warm hW hK⟩⟩
    rfl hnp a'.1 hst (by show 2 * 0 + _ ≤ 8; omega) hd (room_fit d1 d2 d3)
theorem J_callI {a : Nat} (hX : Ok X l G cc nL ret own) (hd : decode cc pc = .ok (.invokespecial idx, 3)) (hl : Cond.methodLink own idx y ∈ lw_tbl) (hv : Mc y cc' nL' np) (hst : st0 = vs.reverse ++ .ref (G.1 + a) :: st) (hnp : vs.length = np) (hw : (st.map fun v => v.category).sum ≤ 8) (hdd : d' + 1 ≤ d)
    (hc : Cn l G y cc' nL' none d' (.ref (G.1 + a) :: vs) m em' rv' tp' oc)
    (kk : ∀ r u, oc = some (r, u) → m.2.2 <+: (em' u).2.2 → tp' r (em' u) → J X G nL d y0 em rv tp (pc + 3) L ((rv' r).toList ++ st) (em' u) (f r u)) : J X G nL d y0 em rv tp pc L st0 m (cl oc f) := by
  refine J_after ?_ hX hc kk
  rintro p e s mi args below meth c rfl ls H locs m1 m' w a' b d1 d2 d3 hM
  obtain ⟨-, hx, hb, hml, hr, hown, hlk, hK⟩ := hX
  obtain ⟨g1, g3, g4, g5, g6, g7, g8⟩ := hv
  exact va_runI (Ts := []) (nL := nL) ⟨hx, hb, hml, hown, fun _ h => absurd h List.not_mem_nil⟩ hM
    ⟨⟨rfl, rfl, hdd, by show 8 + (nL' + 11) + 64 * d' ≤ 64 * d; omega, fun w hw a' U hW => by rw [List.mem_singleton.mp hw]; exact tw_warm hW hK.2.1 _ g5 rfl a', List.mem_singleton.mpr rfl, hK.2.1 _ g5 rfl _, hK.2.1 _ g4 rfl _, g6, np_of g7, hK.2.1 _ hl rfl _⟩, g1, hK.2.1 _ g3 rfl _⟩
    ⟨conP_blind, fun U hU hW => ⟨rfl, by rw [hU]; exact b, kw_warm hW hK⟩⟩
    rfl hnp a'.1 hst (by show 2 * 0 + _ ≤ 8; omega) hd (room_fit d1 d2 d3)
theorem J_callIN {a : Nat} {host : String} (hX : Ok X l G cc nL ret own) (hd : decode cc pc = .ok (.invokespecial idx, 3)) (hl : Cond.methodLinkNest own idx y host ∈ lw_tbl) (hv : Mc y cc' nL' np) (hst : st0 = vs.reverse ++ .ref (G.1 + a) :: st) (hnp : vs.length = np) (hw : (st.map fun v => v.category).sum ≤ 8) (hdd : d' + 1 ≤ d)
    (hc : Cn l G y cc' nL' none d' (.ref (G.1 + a) :: vs) m em' rv' tp' oc)
    (kk : ∀ r u, oc = some (r, u) → m.2.2 <+: (em' u).2.2 → tp' r (em' u) → J X G nL d y0 em rv tp (pc + 3) L ((rv' r).toList ++ st) (em' u) (f r u)) : J X G nL d y0 em rv tp pc L st0 m (cl oc f) := by
  refine J_after ?_ hX hc kk
  rintro p e s mi args below meth c rfl ls H locs m1 m' w a' b d1 d2 d3 hM
  obtain ⟨-, hx, hb, hml, hr, hown, hlk, hK⟩ := hX
  obtain ⟨g1, g3, g4, g5, g6, g7, g8⟩ := hv
  exact va_runIN (Ts := []) (nL := nL) ⟨hx, hb, hml, hown, fun _ h => absurd h List.not_mem_nil⟩ hM
    ⟨⟨⟨rfl, rfl, hdd, by show 8 + (nL' + 11) + 64 * d' ≤ 64 * d; omega, fun w hw a' U hW => by rw [List.mem_singleton.mp hw]; exact tw_warm hW hK.2.1 _ g5 rfl a', List.mem_singleton.mpr rfl⟩, hK.2.1 _ g5 rfl _, hK.2.1 _ g4 rfl _, g6, np_of g7, hK.2.1 _ hl rfl _⟩, g1, hK.2.1 _ g3 rfl _⟩
    ⟨conP_blind, fun U hU hW => ⟨rfl, by rw [hU]; exact b, kw_warm hW hK⟩⟩
    rfl hnp a'.1 hst (by show 2 * 0 + _ ≤ 8; omega) hd (room_fit d1 d2 d3)
end Call
