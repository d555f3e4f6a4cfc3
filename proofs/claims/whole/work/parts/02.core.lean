/-! CORE: memory, its heap, the judgement J, contracts -/
def tq_ok (w : Cond) : Bool := goodWord w || (match w with | .methodLinkNest .. => true | .fieldLinkNest .. => true | _ => false)
/-- the tables' words hold, with any arguments -/
def Tw (U : State) : Prop := ∀ w ∈ lw_tbl, tq_ok w = true → ∀ A : Array Value, w.before A U = true
theorem tw_of {s : State} {A : Array Value} (h : ∀ w ∈ lw_tbl, w.before A s = true) : Tw s := by
  intro w hw ho B
  have h1 := h w hw
  unfold tq_ok at ho
  rcases Bool.or_eq_true _ _ |>.mp ho with hg | hn
  · exact word_at (State.WarmedH.refl s) (good_of_word hg) h1
  · cases w <;> first | exact absurd hn Bool.false_ne_true | exact va_Nw.use rfl (va_Nw.of rfl h1)
theorem tw_warm {s U : State} (hW : s.WarmedH U.vm) (h : Tw s) : Tw U := by
  intro w hw ho B
  have h1 := h w hw ho #[]
  unfold tq_ok at ho
  rcases Bool.or_eq_true _ _ |>.mp ho with hg | hn
  · exact word_at hW (good_of_word hg) h1
  · cases w <;> first | exact absurd hn Bool.false_ne_true | exact va_Nw.use rfl (va_Nw.warmM hW h1) | exact va_Nw.use rfl (va_Nw.warmF hW h1)
theorem tw_same {s U : State} (hv : U.vm = s.vm) (h : Tw s) : Tw U := tw_warm (s := s) (U := U) (by rw [hv]; exact State.WarmedH.refl s) h

abbrev Ly : Type := (Nat → Nat → Option Nat) × List (Nat × Nat)
abbrev Mu : Type := Nat → Nat → Int32
abbrev Mm : Type := Mu × Ly
/-- base, classes, the class of int rows, of rows of Figures, the heap below the base, and where its texts and MONTHS lie -/
abbrev Gx : Type := Nat × va_G × ClassId × ClassId × Heap × (Nat → Nat)
def mmN (y : Ly) : Nat := y.2.length
def mmS (y : Ly) : Nat := (y.2.map (fun q => q.2)).sum
def mmR (ci k : Nat) : Bool := match ci, k with
  | 0, _ => true
  | 1, 1 => true
  | 1, 2 => true
  | 2, k => decide (2 ≤ k)
  | 3, _ => true
  | 4, 0 => true
  | 4, 11 => true
  | 4, 12 => true
  | 5, 2 => true
  | 6, _ => true
  | 7, _ => true
  | 8, k => decide (1 ≤ k)
  | 9, k => decide (k ≤ 6)
  | 10, k => decide (k ∈ [1, 2, 4, 7, 8, 14, 15, 16, 17, 18, 19, 20, 21, 25, 32, 33, 35, 37, 38, 39, 40, 43, 44, 46, 47, 48, 49, 50, 52, 53, 54, 56, 57, 59, 60, 62, 63, 64, 68])
  | _, _ => false
def mmV (G : Gx) (m : Mm) (a ci j : Nat) : Value := if mmR ci j = true then va_rf ((m.2.1 a j).map (fun x => G.1 + x)) else .int (m.1 a j)
def mmOk (G : Gx) (m : Mm) (k : Nat) (q : Nat × Nat) (H : Heap) : Prop := match q.1 with
  | 0 => H[G.1 + k]? = some (arrV G.2.2.1 q.2 (fun j => .int (m.1 k j)))
  | 1 => H[G.1 + k]? = some (arrV G.2.2.2.1 q.2 (fun j => va_rf ((m.2.1 k j).map (fun x => G.1 + x))))
  | ci + 2 => ∃ r : vw_C, vwCl[ci]? = some r ∧ q.2 = r.2.2 ∧ t_OB (G.1 + k) (G.2.1.1 ci) r.2.2 (G.2.1.2 ci) H (fun j => mmV G m k ci j)
/-- the heap holds the memory from its base on; below it is as it was -/
def Rel (G : Gx) (m : Mm) (H : Heap) : Prop := (∀ (k : Nat) (q : Nat × Nat), m.2.2[k]? = some q → mmOk G m k q H) ∧ H.size = G.1 + mmN m.2 ∧ ∀ q : Nat, q < G.1 → H[q]? = G.2.2.2.2.1[q]?
def tysG (G : Gx) : List (ClassId × FieldType) := [(G.2.2.1, .int), (G.2.2.2.1, .object RX1)]
def strK : String := "spills throws runs when or and not belief salt spilt thrown licked seat wet beside heirs day person on cattle feast scold die heir "
def strS : String := ";+-*/()<=>"
def Zlen : List Nat := [131, 10]
def bytK : List Int32 := [115, 112, 105, 108, 108, 115, 32, 116, 104, 114, 111, 119, 115, 32, 114, 117, 110, 115, 32, 119, 104, 101, 110, 32, 111, 114, 32, 97, 110, 100, 32, 110, 111, 116, 32, 98, 101, 108, 105, 101, 102, 32, 115, 97, 108, 116, 32, 115, 112, 105, 108, 116, 32, 116, 104, 114, 111, 119, 110, 32, 108, 105, 99, 107, 101, 100, 32, 115, 101, 97, 116, 32, 119, 101, 116, 32, 98, 101, 115, 105, 100, 101, 32, 104, 101, 105, 114, 115, 32, 100, 97, 121, 32, 112, 101, 114, 115, 111, 110, 32, 111, 110, 32, 99, 97, 116, 116, 108, 101, 32, 102, 101, 97, 115, 116, 32, 115, 99, 111, 108, 100, 32, 100, 105, 101, 32, 104, 101, 105, 114, 32]
def bytS : List Int32 := [59, 43, 45, 42, 47, 40, 41, 60, 61, 62]
def Zbyt : List (List Int32) := [bytK, bytS]
def monL : List Int32 := [31, 28, 31, 30, 31, 30, 31, 31, 30, 31, 30, 31]
/-- the world below the base: two texts, two statics, the months -/
def Zw (G : Gx) (U : State) : Prop := vk_S 2 Zlen Zbyt (fun i => G.2.2.2.2.2 i) (fun i => G.2.2.2.2.2 (i + 2)) (fun q => G.1 ≤ q) U G.2.2.2.2.1 ∧ vk_R "SaltFigures$Reader" 78 strK (G.2.2.2.2.2 0) U ∧ vk_R "SaltFigures$Reader" 70 strS (G.2.2.2.2.2 1) U ∧ va_Z "java/lang/String" "COMPACT_STRINGS" "Z" (.int 1) (fun q => G.1 ≤ q) U G.2.2.2.2.1 ∧ va_Z "SaltFigures" "MONTHS" "[I" (.ref (G.2.2.2.2.2 4)) (fun q => G.1 ≤ q) U G.2.2.2.2.1 ∧ va_T .int (G.2.2.2.2.2 4) 12 (fun j => .int (monL.getD j 0)) (fun q => G.1 ≤ q) U G.2.2.2.2.1 ∧ (∃ v : Value, (v = .null ∨ ∃ a, v = .ref a) ∧ va_Z "jdk/internal/util/Preconditions" "SIOOBE_FORMATTER" "Ljava/util/function/BiFunction;" v (fun q => G.1 ≤ q) U G.2.2.2.2.1) ∧ G.1 = G.2.2.2.2.1.size ∧ va_AO RX1 U
theorem zw_warm {G : Gx} {s U : State} (hW : s.WarmedH U.vm) (h : Zw G s) : Zw G U := by
  obtain ⟨h1, h2, h3, h4, h5, h6, ⟨v, hv, h7⟩, h8, h9⟩ := h
  exact ⟨vk_S.moved hW.alike h1, vk_R.warm hW h2, vk_R.warm hW h3, va_Z.moved hW.alike h4, va_Z.moved hW.alike h5, va_T.moved hW.alike h6, ⟨v, hv, va_Z.moved hW.alike h7⟩, h8, va_AO.moved hW.alike h9⟩
def Kw (G : Gx) (U : State) : Prop := va_K G.2.1 vwCl (tysG G) U ∧ Tw U ∧ Zw G U
theorem kw_warm {G : Gx} {s U : State} (hW : s.WarmedH U.vm) (h : Kw G s) : Kw G U := ⟨va_K.moved hW.alike h.1, tw_warm hW h.2.1, zw_warm hW h.2.2⟩
def Rm (d n k : Nat) : Room := { frames := d, cells := n, slots := k, locals := 64 * d }
def ConP (G : Gx) (vs : List Value) (m : Mm) : Array Value → State → Prop := fun v U => v = vs.toArray ∧ Rel G m U.heap ∧ Kw G U
def ConQ (G : Gx) (rv : Option Value) (m' : Mm) : Array Value → State → Outcome → State → Prop := fun _ _ oc t => oc = .returned rv ∧ Rel G m' t.heap ∧ Kw G t
def Con (l : Launch) (G : Gx) (y : MethodName) (cc : ByteArray) (nL : Nat) (ret : Option FieldType) (d : Nat) (vs : List Value) (m m' : Mm) (rv : Option Value) : Prop :=
  Met l y [.code y cc nL ret] (Rm d (mmN m'.2 - mmN m.2) (mmS m'.2 - mmS m.2)) (ConP G vs m) (ConQ G rv m') (mmN m'.2 - mmN m.2) (mmS m'.2 - mmS m.2) (fun q => G.1 ≤ q)
theorem conP_blind {G : Gx} {vs : List Value} {m : Mm} : FrameBlind (ConP G vs m) := by
  intro a U g mk h
  exact ⟨h.1, h.2.1, kw_warm (s := U) (U := U.calling g mk a) (State.WarmedH.refl U) h.2.2⟩
abbrev Cx : Type := Program × Launch × Env × State × MethodId × Array Value × List Frame × Method × Code
/-- what a body knows: the machine, its code, its class, the world's tables; y0: the layout at its start; d: its room -/
def Ok (X : Cx) (l : Launch) (G : Gx) (cc : ByteArray) (nL : Nat) (ret : Option FieldType) (own : String) : Prop := match X with
  | (p, l', _, s, mi, _, _, meth, c) => l' = l ∧ p.tables.exec = Jvm.exec ∧ c.code = cc ∧ c.maxLocals = nL ∧ meth.sig.returnType = ret ∧ s.vm.findClass own = some mi.cls ∧ meth.locks = false ∧ Kw G s
def Wk (X : Cx) (G : Gx) (nL d : Nat) (y0 : Ly) (rv : Option Value) (m' : Mm) (pc : Nat) (L : List (Nat × Value)) (st : List Value) (m : Mm) : Prop := match X with
  | (p, l, e, s, mi, args, below, meth, c) => ∀ (ls : Array Slot) (H : Heap) (locs : List Loc), lv_has ls nL L → Rel G m H → (∀ q ∈ locs, G.1 ≤ q.base) → y0.2 <+: m.2.2 →
    W p l e (Rm d (mmN m'.2 - mmN y0) (mmS m'.2 - mmS y0)) s mi args below meth c H locs (mmN m.2 - mmN y0) (mmS m.2 - mmS y0) (MQ below (ConQ G rv m') args s (mmN m'.2 - mmN y0) (mmS m'.2 - mmS y0) (fun q => G.1 ≤ q)) (F0 mi pc ls st)
/-- THE JUDGEMENT: what the model says here (o), the machine does; em: how the model's memory is one -/
def J {ρ υ : Type} (X : Cx) (G : Gx) (nL d : Nat) (y0 : Ly) (em : υ → Mm) (rv : ρ → Option Value) (tp : ρ → Mm → Prop) (pc : Nat) (L : List (Nat × Value)) (st : List Value) (m : Mm) (o : Option (ρ × υ)) : Prop :=
  ∀ (r : ρ) (u : υ), o = some (r, u) → m.2.2 <+: (em u).2.2 ∧ tp r (em u) ∧ Wk X G nL d y0 (rv r) (em u) pc L st m
def jrem (x y : Int32) : Int32 := x - x / y * y
def jshl (x y : Int32) : Int32 := x <<< (y &&& 31)
def jshr (x y : Int32) : Int32 := x >>> (y &&& 31)
def jushr (x y : Int32) : Int32 := (x.toUInt32 >>> (y.toUInt32 &&& Int32.toUInt32 31)).toInt32
def jmin (x y : Int32) : Int32 := if y < x then y else x
def jmax (x y : Int32) : Int32 := if x < y then y else x
def inB (i : Int32) (n : Nat) : Bool := !(decide (i < 0) || decide (n ≤ i.toNatClampNeg))
theorem inB_in {i : Int32} {n : Nat} (h : inB i n = true) : vp_in i n := by
  unfold vp_in
  simp only [inB, Bool.not_eq_true', Bool.or_eq_false_iff, decide_eq_false_iff_not] at h
  exact fun q => q.elim h.1 h.2
def up2 (μ : Mu) (a i : Nat) (v : Int32) : Mu := fun k j => if k = a ∧ j = i then v else μ k j
def up2r (y : Nat → Nat → Option Nat) (a i : Nat) (v : Option Nat) : Nat → Nat → Option Nat := fun k j => if k = a ∧ j = i then v else y k j
def ldA {α : Type} (μ : Mu) (a n : Nat) (i : Int32) (f : Int32 → Option α) : Option α := if inB i n = true then f (μ a i.toNatClampNeg) else none
def stA {α : Type} (μ : Mu) (a n : Nat) (i v : Int32) (f : Mu → Option α) : Option α := if inB i n = true then f (up2 μ a i.toNatClampNeg v) else none
def nz {α : Type} (y : Int32) (k : Option α) : Option α := if y = 0 then none else k
def cl {α ρ υ : Type} (oc : Option (ρ × υ)) (f : ρ → υ → Option α) : Option α := match oc with
  | none => none
  | some q => f q.1 q.2
theorem mmN_le {a b : Ly} (h : a.2 <+: b.2) : mmN a ≤ mmN b := h.length_le
theorem mmS_le {a b : Ly} (h : a.2 <+: b.2) : mmS a ≤ mmS b := by
  obtain ⟨t, ht⟩ := h
  unfold mmS
  rw [← ht, List.map_append, List.sum_append]
  exact Nat.le_add_right _ _
