/-! THE WORLD BELOW THE BASE: texts, MONTHS, statics -/
def ldZ {α : Type} (bs : List Int32) (i : Int32) (f : Int32 → Option α) : Option α := if inB i bs.length = true then f (bs.getD i.toNatClampNeg 0) else none
def zgc {α : Type} (v : Int32) (k : Option α) : Option α := if ¬ v < 0 ∧ v.toNatClampNeg < 65536 then k else none
def ji2b (x : Int32) : Int32 := x.toInt8.toInt32
def ji2c (x : Int32) : Int32 := (x.toUInt32 % 65536).toInt32
def MvS (y : MethodName) (cc : ByteArray) (nL : Nat) (ret : Option FieldType) (np : Nat) : Prop := Cond.selects "java/lang/String" y y ∈ lw_tbl ∧ Cond.instanceMethod y ∈ lw_tbl ∧ Cond.initialized y.cls ∈ lw_tbl ∧ Cond.code y cc nL ret ∈ lw_tbl ∧ (y.cls ≠ "java/lang/invoke/MethodHandle" ∧ y.cls ≠ "java/lang/invoke/VarHandle") ∧ (parseMethodDescriptor y.desc).map (fun d => d.parameters.length) = some np ∧ nL ≤ 45
theorem zlen_ok : ∀ i, i < 2 → Zlen.getD i 0 = (Zbyt.getD i []).length := by decide +kernel
theorem low_kept {G : Gx} {m : Mm} {H : Heap} (hR : Rel G m H) : ∀ a : Nat, a < G.2.2.2.2.1.size → ¬ (fun q => G.1 ≤ q) a → H[a]? = G.2.2.2.2.1[a]? := fun a _ h => hR.2.2 a (Nat.not_le.mp h)
section Low
variable {ρ υ : Type} {X : Cx} {l : Launch} {G : Gx} {cc : ByteArray} {nL d : Nat} {ret : Option FieldType} {own : String} {y0 : Ly} {em : υ → Mm} {rv : ρ → Option Value} {tp : ρ → Mm → Prop} {pc : Nat} {L : List (Nat × Value)} {st st0 : List Value} {m : Mm} {o : Option (ρ × υ)}
theorem J_ldcK (hX : Ok X l G cc nL ret "SaltFigures$Reader") (hd : decode cc pc = .ok (.ldc 78, 2)) (k : J X G nL d y0 em rv tp (pc + 2) L (.ref (G.2.2.2.2.2 0) :: st) m o) : J X G nL d y0 em rv tp pc L st m o := by
  obtain ⟨p, l', e, s, mi, args, below, meth, c⟩ := X
  obtain ⟨rfl, hx, hb, hml, hr, hown, hlk, hK⟩ := hX
  intro r u h
  obtain ⟨h1, h2, h3⟩ := k r u h
  exact ⟨h1, h2, fun ls H locs a b c' d' => va_ldcS hx hb hown hK.2.2.2.1 hd (h3 ls H locs a b c' d')⟩
theorem J_ldcG (hX : Ok X l G cc nL ret "SaltFigures$Reader") (hd : decode cc pc = .ok (.ldc 70, 2)) (k : J X G nL d y0 em rv tp (pc + 2) L (.ref (G.2.2.2.2.2 1) :: st) m o) : J X G nL d y0 em rv tp pc L st m o := by
  obtain ⟨p, l', e, s, mi, args, below, meth, c⟩ := X
  obtain ⟨rfl, hx, hb, hml, hr, hown, hlk, hK⟩ := hX
  intro r u h
  obtain ⟨h1, h2, h3⟩ := k r u h
  exact ⟨h1, h2, fun ls H locs a b c' d' => va_ldcS hx hb hown hK.2.2.2.2.1 hd (h3 ls H locs a b c' d')⟩
/-- a static's value -/
theorem J_gets {C n dd : String} {v : Value} {idx : Nat} (hX : Ok X l G cc nL ret own) (hd : decode cc pc = .ok (.getstatic idx, 3)) (hl : Cond.fieldLink own idx C n dd ∈ lw_tbl) (hz : ∀ s, Kw G s → va_Z C n dd v (fun q => G.1 ≤ q) s G.2.2.2.2.1) (k : J X G nL d y0 em rv tp (pc + 3) L (v :: st) m o) : J X G nL d y0 em rv tp pc L st m o := by
  obtain ⟨p, l', e, s, mi, args, below, meth, c⟩ := X
  obtain ⟨rfl, hx, hb, hml, hr, hown, hlk, hK⟩ := hX
  intro r u h
  obtain ⟨h1, h2, h3⟩ := k r u h
  refine ⟨h1, h2, fun ls H locs a b c' d' => ?_⟩
  obtain ⟨cf, kf, fi, f, q, cell, g1, g2, g3, g4, g5, g6, g7, g8⟩ := (hz s hK).kept (low_kept b)
  exact W.gets hx hb hown (hK.2.1 _ hl rfl _) g1 g2 g3 g4 g5 (fun e => by rw [e] at g6; cases g6) g7 rfl hd (h3 ls H locs a b c' d')
theorem J_getsN {C n dd host : String} {v : Value} {idx : Nat} (hX : Ok X l G cc nL ret own) (hd : decode cc pc = .ok (.getstatic idx, 3)) (hl : Cond.fieldLinkNest own idx C n dd host ∈ lw_tbl) (hz : ∀ s, Kw G s → va_Z C n dd v (fun q => G.1 ≤ q) s G.2.2.2.2.1) (k : J X G nL d y0 em rv tp (pc + 3) L (v :: st) m o) : J X G nL d y0 em rv tp pc L st m o := by
  obtain ⟨p, l', e, s, mi, args, below, meth, c⟩ := X
  obtain ⟨rfl, hx, hb, hml, hr, hown, hlk, hK⟩ := hX
  intro r u h
  obtain ⟨h1, h2, h3⟩ := k r u h
  refine ⟨h1, h2, fun ls H locs a b c' d' => ?_⟩
  obtain ⟨cf, kf, fi, f, q, cell, g1, g2, g3, g4, g5, g6, g7, g8⟩ := (hz s hK).kept (low_kept b)
  exact va_WgetsN hx hb hown (hK.2.1 _ hl rfl _) g1 g2 g3 g4 g5 (fun e => by rw [e] at g6; cases g6) g7 rfl hd (h3 ls H locs a b c' d')
theorem J_moA {i : Int32} {f : Int32 → Option (ρ × υ)} (hX : Ok X l G cc nL ret own) (hd : decode cc pc = .ok (.iaload, 1)) (kk : ∀ x, J X G nL d y0 em rv tp (pc + 1) L (.int x :: st) m (f x)) : J X G nL d y0 em rv tp pc L (.int i :: .ref (G.2.2.2.2.2 4) :: st) m (ldZ monL i f) := by
  obtain ⟨p, l', e, s, mi, args, below, meth, c⟩ := X
  obtain ⟨rfl, hx, hb, hml, hr, hown, hlk, hK⟩ := hX
  intro r u h
  unfold ldZ at h
  split at h
  case isFalse => cases h
  case isTrue hin =>
    obtain ⟨h1, h2, h3⟩ := kk _ r u h
    refine ⟨h1, h2, fun ls H locs a' b c' d' => ?_⟩
    obtain ⟨cell, g1, g2, g3, g4, g5, g6, g7⟩ := hK.2.2.2.2.2.2.2.1.kept (low_kept b)
    have hin := inB_in hin
    have hlt : i.toNatClampNeg < 12 := Nat.not_le.mp fun q => hin (Or.inr q)
    exact W.iald (v := .int (monL.getD i.toNatClampNeg 0)) hx hb g1 g2 g3 (fun q => q.elim (fun z => hin (Or.inl z)) (fun z => absurd (Nat.le_trans g4 z) (by omega))) (g6 _ hlt) rfl rfl hd (h3 ls H locs a' b c' d')
theorem J_moL (hX : Ok X l G cc nL ret own) (hd : decode cc pc = .ok (.arraylength, 1)) (kk : J X G nL d y0 em rv tp (pc + 1) L (.int 12 :: st) m o) : J X G nL d y0 em rv tp pc L (.ref (G.2.2.2.2.2 4) :: st) m o := by
  obtain ⟨p, l', e, s, mi, args, below, meth, c⟩ := X
  obtain ⟨rfl, hx, hb, hml, hr, hown, hlk, hK⟩ := hX
  intro r u h
  obtain ⟨h1, h2, h3⟩ := kk r u h
  refine ⟨h1, h2, fun ls H locs a' b c' d' => ?_⟩
  obtain ⟨cell, g1, g2, g3, g4, g5, g6, g7⟩ := hK.2.2.2.2.2.2.2.1.kept (low_kept b)
  exact W.alen (n := 12) hx hb g1 g2 g5 rfl rfl hd (h3 ls H locs a' b c' d')
theorem J_sVal {si idx : Nat} (hsi : si < 2) (hX : Ok X l G cc nL ret own) (hd : decode cc pc = .ok (.getfield idx, 3)) (hl : Cond.fieldLink own idx "java/lang/String" "value" "[B" ∈ lw_tbl) (k : J X G nL d y0 em rv tp (pc + 3) L (.ref (G.2.2.2.2.2 (si + 2)) :: st) m o) : J X G nL d y0 em rv tp pc L (.ref (G.2.2.2.2.2 si) :: st) m o := by
  obtain ⟨p, l', e, s, mi, args, below, meth, c⟩ := X
  obtain ⟨rfl, hx, hb, hml, hr, hown, hlk, hK⟩ := hX
  intro r u h
  obtain ⟨h1, h2, h3⟩ := k r u h
  refine ⟨h1, h2, fun ls H locs a b c' d' => ?_⟩
  obtain ⟨cf, k, fi, f, cell, g1, g2, g3, g4, g5, g6⟩ := (hK.2.2.1.1 si hsi).2.2.1.kept (low_kept b)
  exact W.getf hx hb hown (hK.2.1 _ hl rfl _) g1 g2 g3 g4 (v := .ref (G.2.2.2.2.2 (si + 2))) g5 rfl rfl hd (h3 ls H locs a b c' d')
theorem J_sCod {si idx : Nat} (hsi : si < 2) (hX : Ok X l G cc nL ret own) (hd : decode cc pc = .ok (.getfield idx, 3)) (hl : Cond.fieldLink own idx "java/lang/String" "coder" "B" ∈ lw_tbl) (k : J X G nL d y0 em rv tp (pc + 3) L (.int 0 :: st) m o) : J X G nL d y0 em rv tp pc L (.ref (G.2.2.2.2.2 si) :: st) m o := by
  obtain ⟨p, l', e, s, mi, args, below, meth, c⟩ := X
  obtain ⟨rfl, hx, hb, hml, hr, hown, hlk, hK⟩ := hX
  intro r u h
  obtain ⟨h1, h2, h3⟩ := k r u h
  refine ⟨h1, h2, fun ls H locs a b c' d' => ?_⟩
  obtain ⟨cf, k, fi, f, cell, g1, g2, g3, g4, g5, g6⟩ := (hK.2.2.1.1 si hsi).2.1.kept (low_kept b)
  exact W.getf hx hb hown (hK.2.1 _ hl rfl _) g1 g2 g3 g4 (v := .int 0) g5 rfl rfl hd (h3 ls H locs a b c' d')
theorem J_sLen {si : Nat} (hsi : si < 2) (hX : Ok X l G cc nL ret own) (hd : decode cc pc = .ok (.arraylength, 1)) (kk : J X G nL d y0 em rv tp (pc + 1) L (.int (Int32.ofNat (Zlen.getD si 0)) :: st) m o) : J X G nL d y0 em rv tp pc L (.ref (G.2.2.2.2.2 (si + 2)) :: st) m o := by
  obtain ⟨p, l', e, s, mi, args, below, meth, c⟩ := X
  obtain ⟨rfl, hx, hb, hml, hr, hown, hlk, hK⟩ := hX
  intro r u h
  obtain ⟨h1, h2, h3⟩ := kk r u h
  refine ⟨h1, h2, fun ls H locs a' b c' d' => ?_⟩
  obtain ⟨cell, g1, g2, g3, g4, g5, g6, g7⟩ := (hK.2.2.1.1 si hsi).2.2.2.kept (low_kept b)
  exact W.alen (n := Int32.ofNat (Zlen.getD si 0)) hx hb g1 g2 g5 rfl rfl hd (h3 ls H locs a' b c' d')
theorem J_sB {si : Nat} {i : Int32} {f : Int32 → Option (ρ × υ)} (hsi : si < 2) (hX : Ok X l G cc nL ret own) (hd : decode cc pc = .ok (.baload, 1)) (kk : ∀ x, J X G nL d y0 em rv tp (pc + 1) L (.int x :: st) m (f x)) : J X G nL d y0 em rv tp pc L (.int i :: .ref (G.2.2.2.2.2 (si + 2)) :: st) m (ldZ (Zbyt.getD si []) i f) := by
  obtain ⟨p, l', e, s, mi, args, below, meth, c⟩ := X
  obtain ⟨rfl, hx, hb, hml, hr, hown, hlk, hK⟩ := hX
  intro r u h
  unfold ldZ at h
  split at h
  case isFalse => cases h
  case isTrue hin =>
    obtain ⟨h1, h2, h3⟩ := kk _ r u h
    refine ⟨h1, h2, fun ls H locs a' b c' d' => ?_⟩
    obtain ⟨cell, g1, g2, g3, g4, g5, g6, g7⟩ := (hK.2.2.1.1 si hsi).2.2.2.kept (low_kept b)
    have hin := inB_in hin
    rw [← zlen_ok si hsi] at hin
    have hlt : i.toNatClampNeg < Zlen.getD si 0 := Nat.not_le.mp fun q => hin (Or.inr q)
    exact W.bald (v := .int ((Zbyt.getD si []).getD i.toNatClampNeg 0)) hx hb g1 g2 g3 (fun q => q.elim (fun z => hin (Or.inl z)) (fun z => absurd (Nat.le_trans g4 z) (by omega))) (g6 _ hlt) rfl rfl hd (h3 ls H locs a' b c' d')
theorem J_i2b {x : Int32} (hX : Ok X l G cc nL ret own) (hd : decode cc pc = .ok (.i2b, 1)) (k : J X G nL d y0 em rv tp (pc + 1) L (.int (ji2b x) :: st) m o) : J X G nL d y0 em rv tp pc L (.int x :: st) m o := by
  obtain ⟨p, l', e, s, mi, args, below, meth, c⟩ := X
  obtain ⟨rfl, hx, hb, hml, hr, hown, hlk, hK⟩ := hX
  intro r u h
  obtain ⟨h1, h2, h3⟩ := k r u h
  exact ⟨h1, h2, fun ls H locs a b c' d' => lv_i2b hx hb hd rfl (h3 ls H locs a b c' d')⟩
theorem J_nret {ty : FieldType} {tp : Int32 → Mm → Prop} {u : υ} {v : Int32} (hX : Ok X l G cc nL (some ty) own) (hd : decode cc pc = .ok (.ireturn, 1)) (hn : narrow ty (.int v) = .int v) (hu : em u = m) (ht : tp v m) : J X G nL d y0 em rvI tp pc L [.int v] m (some (v, u)) := by
  obtain ⟨p, l', e, s, mi, args, below, meth, c⟩ := X
  obtain ⟨rfl, hx, hb, hml, hr, hown, hlk, hK⟩ := hX
  intro r u' h
  cases h
  rw [hu]
  exact ⟨List.prefix_refl _, ht, fun ls H locs a' b c' d' => W.zret hx hb hr hn (conq b hK) c' hd⟩
theorem J_cret {tp : Int32 → Mm → Prop} {u : υ} {v : Int32} (hX : Ok X l G cc nL (some .char) own) (hd : decode cc pc = .ok (.ireturn, 1)) (hu : em u = m) (ht : tp v m) : J X G nL d y0 em rvI tp pc L [.int v] m (zgc v (some (v, u))) := by
  intro r u' h
  unfold zgc at h
  split at h
  case isFalse => cases h
  case isTrue hz =>
    obtain ⟨j, hj, e⟩ := nI_of hz.1
    have hc : v.toNatClampNeg = j := by rw [e]; exact nI_clamp hj
    exact J_nret hX hd (by rw [e]; exact (pk_charN (by omega)).1) hu ht r u' h
theorem J_cZi {y : MethodName} {cc' : ByteArray} {nL' d' idx np : Nat} {ret' : Option FieldType} (vs : List Value) {oc : Option (Int32 × Mu)} {f : Int32 → Mu → Option (ρ × υ)} {si : Nat} (hsi : si < 2) (hX : Ok X l G cc nL ret own) (hd : decode cc pc = .ok (.invokevirtual idx, 3)) (hl : Cond.methodLink own idx y ∈ lw_tbl) (hv : MvS y cc' nL' ret' np) (hst : st0 = vs.reverse ++ .ref (G.2.2.2.2.2 si) :: st) (hnp : vs.length = np) (hw : (st.map fun v => v.category).sum ≤ 8) (hdd : d' + 1 ≤ d)
    (hc : Cn l G y cc' nL' ret' d' (.ref (G.2.2.2.2.2 si) :: vs) m (emy m.2) rvI tpT oc)
    (kk : ∀ r u, J X G nL d y0 em rv tp (pc + 3) L (.int r :: st) (u, m.2) (f r u)) : J X G nL d y0 em rv tp pc L st0 m (cl oc f) := by
  refine J_after ?_ hX hc (fun r u _ _ _ => kk r u)
  rintro p e s mi args below meth c rfl ls H locs m1 m' w a' b d1 d2 d3 hM
  obtain ⟨-, hx, hb, hml, hr, hown, hlk, hK⟩ := hX
  obtain ⟨g2, g3, g4, g5, g6, g7, g8⟩ := hv
  obtain ⟨cell, e1, e2, e3, -⟩ := (hK.2.2.1.1 si hsi).1.kept (low_kept b)
  exact va_runV (Ts := []) (nL := nL) ⟨hx, hb, hml, hown, fun _ h => absurd h List.not_mem_nil⟩ hM
    ⟨⟨rfl, rfl, hdd, by show 8 + (nL' + 11) + 64 * d' ≤ 64 * d; omega, fun w hw a' U hW => by rw [List.mem_singleton.mp hw]; exact tw_warm hW hK.2.1 _ g5 rfl a', List.mem_singleton.mpr rfl, hK.2.1 _ g5 rfl _, hK.2.1 _ g4 rfl _, g6, np_of g7, hK.2.1 _ hl rfl _⟩, hK.2.1 _ g3 rfl _, hK.2.1 _ g2 rfl _⟩
    ⟨conP_blind, ⟨cell, e1, e2, e3⟩, fun U hU hW => ⟨rfl, by rw [hU]; exact b, kw_warm hW hK⟩⟩
    rfl hnp a'.1 hst (by show 2 * 0 + _ ≤ 8; omega) hd (room_fit d1 d2 d3)
end Low
/-! methods of java.lang.Math: no row of the natives stands in their place -/
theorem Met_ofWF {l : Launch} {y : MethodName} {ws ws' : List Cond} {rm : Room} {Pc : Array Value → State → Prop} {Qc : Array Value → State → Outcome → State → Prop} {mc ms : Nat} {free : Addr → Prop} {cc : ByteArray} {maxL : Nat} {ret : Option FieldType}
    (hy : plainFor y = true) (hw : ws = Cond.code y cc maxL ret :: ws')
    (body : ∀ p e s m args below meth c s₁, BodyLoose p l y (headSpec ws rm) cc maxL ret e s m args below meth c s₁ → c.maxLocals = maxL → Pc args s →
      W p l e (headSpec ws rm).room s m args below meth c s.heap [] 0 0 (MQ below Qc args s mc ms free) (entryFrame m args maxL)) : Met l y ws rm Pc Qc mc ms free := by
  refine MetFree.of_bodySF (code := cc) (maxLocals := maxL) (ret := ret) hy ?_ ?_
  · intro args s m h hn
    obtain ⟨meth, c, h1, h2, h3, h4, h5, h6, -, -⟩ := Cond.code_spec hn (atoms_spec (ws := ws) h _ (by rw [hw]; exact List.mem_cons_self))
    exact ⟨meth, c, h1, h2, h3, h4, h5, h6⟩
  · intro p e s m args below meth c s₁ B hml hP _
    have hh0 : s₁.heap = s.heap := by rw [B.state]; rfl
    obtain ⟨t, a1, o, b1, b2, b3⟩ := body p e s m args below meth c s₁ B hml hP s₁ hh0 (Stand.of_body B)
    exact ⟨t, o, a1, b1, b2, ⟨b3.1, b3.2⟩⟩
theorem cn_ofF {ρ υ : Type} {l : Launch} {G : Gx} {y : MethodName} {cc : ByteArray} {nL : Nat} {ret : Option FieldType} {d : Nat} {vs : List Value} {m : Mm} {em : υ → Mm} {rv : ρ → Option Value} {tp : ρ → Mm → Prop} {oc : Option (ρ × υ)}
    (hy : plainFor y = true) (hn : (lg_sl vs).length ≤ nL) (hne : ∀ r u, oc = some (r, u) → m.2.2 <+: (em u).2.2 ∧ tp r (em u)) (h : ∀ X : Cx, Ok X l G cc nL ret y.cls → (y.name = "<init>" → OkI X) → J X G nL d m.2 em rv tp 0 (lv_args 0 vs) [] m oc) : Cn l G y cc nL ret d vs m em rv tp oc := by
  intro r u e0
  refine ⟨(hne r u e0).1, (hne r u e0).2, ?_⟩
  refine Met_ofWF (cc := cc) (maxL := nL) (ret := ret) hy rfl ?_
  intro p e s mi args below meth c s₁ B hml hv
  obtain ⟨rfl, hR, hK⟩ := hv
  have hown : s.vm.findClass y.cls = some mi.cls := findClass_of_methodNamed B.named
  obtain ⟨-, -, h3⟩ := h (p, l, e, s, mi, vs.toArray, below, meth, c) ⟨rfl, B.exec, B.bytes, hml, B.returns, hown, B.notSynchronized, hK⟩ (fun hi => (name_of_methodNamed B.named B.method).1.trans hi) r u e0
  have hh := h3 _ s.heap [] (lv_entry vs hn) hR (fun q hq => absurd hq List.not_mem_nil) (List.prefix_refl _)
  rw [Nat.sub_self, Nat.sub_self] at hh
  rw [lg_entry_eq]
  exact hh
def nzL {α : Type} (y : Int64) (k : Option α) : Option α := if y = 0 then none else k
section Low2
variable {ρ υ : Type} {X : Cx} {l : Launch} {G : Gx} {cc : ByteArray} {nL d : Nat} {ret : Option FieldType} {own : String} {y0 : Ly} {em : υ → Mm} {rv : ρ → Option Value} {tp : ρ → Mm → Prop} {pc : Nat} {L : List (Nat × Value)} {st st0 : List Value} {m : Mm} {o : Option (ρ × υ)}
theorem J_lremN {x y : Int64} (hX : Ok X l G cc nL ret own) (hd : decode cc pc = .ok (.lrem, 1)) (k : ¬ y = 0 → J X G nL d y0 em rv tp (pc + 1) L (.long (x - x / y * y) :: st) m o) : J X G nL d y0 em rv tp pc L (.long y :: .long x :: st) m (nzL y o) := by
  intro r u h
  unfold nzL at h
  split at h
  · cases h
  · rename_i hne
    exact J_lrem hX hd hne (k hne) r u h
theorem J_getsX {idx : Nat} (hX : Ok X l G cc nL ret own) (hd : decode cc pc = .ok (.getstatic idx, 3)) (hl : Cond.fieldLink own idx "jdk/internal/util/Preconditions" "SIOOBE_FORMATTER" "Ljava/util/function/BiFunction;" ∈ lw_tbl) (kk : ∀ v : Value, (v = .null ∨ ∃ a, v = .ref a) → J X G nL d y0 em rv tp (pc + 3) L (v :: st) m o) : J X G nL d y0 em rv tp pc L st m o := by
  obtain ⟨p, l', e, s, mi, args, below, meth, c⟩ := X
  obtain ⟨rfl, hx, hb, hml, hr, hown, hlk, hK⟩ := hX
  intro r u h
  obtain ⟨v, hv, hz⟩ := hK.2.2.2.2.2.2.2.2.1
  obtain ⟨h1, h2, h3⟩ := kk v hv r u h
  refine ⟨h1, h2, fun ls H locs a b c' d' => ?_⟩
  obtain ⟨cf, kf, fi, f, q, cell, g1, g2, g3, g4, g5, g6, g7, g8⟩ := hz.kept (low_kept b)
  exact W.gets hx hb hown (hK.2.1 _ hl rfl _) g1 g2 g3 g4 g5 (fun e => by rw [e] at g6; cases g6) g7 rfl hd (h3 ls H locs a b c' d')
end Low2
def Jp_checkIndex (v0 v1 : Int32) (μ : Mu) : Option (Int32 × Mu) := if v0 < 0 then none else if v0 < v1 then some (v0, μ) else none
theorem jJp_checkIndex {X : Cx} {l : Launch} {G : Gx} {y : Ly} (w : Value) (hX : Ok X l G prog_22_method_11_code 3 (some .int) "jdk/internal/util/Preconditions") (v0 v1 : Int32) (μ : Mu) : J X G 3 1 y (emy y) rvI tpT 0 [(0, .int v0), (1, .int v1), (2, w)] [] (μ, y) (Jp_checkIndex v0 v1 μ) := by
  unfold Jp_checkIndex
  refine J_iload_n (k0 := 0) (pc := 0) 0 hX (by decide +kernel) rfl rfl ?_
  refine J_if_lt (pc := 1) (off := 8) (tgt := 9) hX (by decide +kernel) (by decide +kernel) (fun _ => J_none) (fun _ => ?_)
  refine J_iload_n (k0 := 0) (pc := 4) 0 hX (by decide +kernel) rfl rfl ?_
  refine J_iload_n (k0 := 1) (pc := 5) 1 hX (by decide +kernel) rfl rfl ?_
  refine J_icmp_lt (pc := 6) (off := 10) (tgt := 16) hX (by decide +kernel) (by decide +kernel) (fun _ => ?_) (fun _ => J_none)
  refine J_iload_n (k0 := 0) (pc := 16) 0 hX (by decide +kernel) rfl rfl ?_
  exact J_iret (pc := 17) hX (by decide +kernel) rfl trivial
theorem c_Jp_checkIndex {l : Launch} {G : Gx} {y : Ly} {w : Value} (hw : w = .null ∨ ∃ a, w = .ref a) (v0 v1 : Int32) (μ : Mu) : Cn l G ⟨"jdk/internal/util/Preconditions", "checkIndex", "(IILjava/util/function/BiFunction;)I"⟩ prog_22_method_11_code 3 (some .int) 1 [.int v0, .int v1, w] (μ, y) (emy y) rvI tpT (Jp_checkIndex v0 v1 μ) := by
  rcases hw with rfl | ⟨a, rfl⟩
  · exact cn_of (by decide +kernel) (Nat.le_of_ble_eq_true rfl) (fun _ _ _ => ⟨List.prefix_refl _, trivial⟩) (fun X hX _ => jJp_checkIndex .null hX v0 v1 μ)
  · exact cn_of (by decide +kernel) (Nat.le_of_ble_eq_true rfl) (fun _ _ _ => ⟨List.prefix_refl _, trivial⟩) (fun X hX _ => jJp_checkIndex (.ref a) hX v0 v1 μ)
theorem mv_Jp_checkIndex : Ms ⟨"jdk/internal/util/Preconditions", "checkIndex", "(IILjava/util/function/BiFunction;)I"⟩ prog_22_method_11_code 3 (some .int) 3 := ⟨(mq mt_3 159 (by decide +kernel)), (mq mt_1 17 (by decide +kernel)), (mq mt_3 160 (by decide +kernel)), by decide +kernel, by decide +kernel, Nat.le_of_ble_eq_true rfl⟩
theorem mv_Js_checkIndex : Ms ⟨"java/lang/String", "checkIndex", "(II)V"⟩ prog_17_method_155_code 2 none 2 := ⟨(mq mt_3 154 (by decide +kernel)), (mq mt_1 15 (by decide +kernel)), (mq mt_3 155 (by decide +kernel)), by decide +kernel, by decide +kernel, Nat.le_of_ble_eq_true rfl⟩
def Js_checkIndex (v0 v1 : Int32) (μ : Mu) : Option (Unit × Mu) := cl (Jp_checkIndex v0 v1 μ) (fun _ μ1 => some ((), μ1))
theorem c_Js_checkIndex {l : Launch} {G : Gx} {y : Ly} (v0 v1 : Int32) (μ : Mu) : Cn l G ⟨"java/lang/String", "checkIndex", "(II)V"⟩ prog_17_method_155_code 2 none 6 [.int v0, .int v1] (μ, y) (emy y) rvV tpT (Js_checkIndex v0 v1 μ) := by
  refine cn_of (by decide +kernel) (Nat.le_of_ble_eq_true rfl) (fun _ _ _ => ⟨List.prefix_refl _, trivial⟩) (fun X hX _ => ?_)
  unfold Js_checkIndex
  refine J_iload_n (L := [(0, .int v0), (1, .int v1)]) (k0 := 0) (pc := 0) 0 hX (by decide +kernel) rfl rfl ?_
  refine J_iload_n (k0 := 1) (pc := 1) 1 hX (by decide +kernel) rfl rfl ?_
  refine J_getsX (pc := 2) (idx := 1053) hX (by decide +kernel) (mq mt_3 156 (by decide +kernel)) (fun w hw => ?_)
  refine J_cSi (pc := 5) (idx := 1059) [.int v0, .int v1, w] hX (by decide +kernel) (mq mt_3 158 (by decide +kernel)) mv_Jp_checkIndex rfl rfl (Nat.le_of_ble_eq_true rfl) (Nat.le_of_ble_eq_true rfl) (c_Jp_checkIndex hw v0 v1 μ) (fun r μ1 => ?_)
  refine J_pop (pc := 8) hX (by decide +kernel) rfl ?_
  exact J_vret (pc := 9) hX (by decide +kernel) rfl trivial
