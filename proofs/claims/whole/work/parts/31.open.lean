/-! THE CLAIM OUT OF ONE WALK OF THE LAW'S BODY. Your part is whole_start (and what it stands on); all else here is the same for every law, but numbers. -/
def R_law : String := "SaltFiguresLaw"
def lw_P (b : Addr) (xs : List Int32) (args : Array Value) (s : State) : Prop := args = #[.ref b] ∧ s.IntsAt b xs ∧ xs.length ≤ 3072 ∧ (Jvm.Cond.and given_1 narrow_1).before args s = true
def lw_Q (_ : Array Value) (s : State) (o : Outcome) (t : State) : Prop := o = .returned (some (.int 1)) ∧ Framed s o t [] 600000 7302250
def lw_Z (below : List Frame) (a : Array Value) (s : State) : State → Prop := fun t => ∃ o, t.status = .running ∧ Ended t below o ∧ lw_Q a s o t
/-- the law's own end, with 1 on the stack, nothing written that was there before, its room as the claim has it -/
theorem lw_ret {p : Program} {l : Launch} {e : Env} {s : State} {m : MethodId} {below : List Frame} {meth : Method} {c : Code} {b : Nat} (hx : p.tables.exec = Jvm.exec) (hb : c.code = code) (hr : meth.sig.returnType = ret) (hlocks : meth.locks = false) {pc : Nat} {H : Heap} {ls : Array Slot} (hdg : decode code pc = .ok (.ireturn, 1)) : W p l e room_1 s m #[Value.ref b] below meth c H [] 600000 7302250 (lw_Z below #[Value.ref b] s) (F0 m pc ls [.int 1]) := by
  intro T hT X
  obtain ⟨fs, hret, hrun, hended, hW, hframe⟩ := X.leave (v := some (.int 1)) (hlocks := hlocks) (fun h => by rw [hr] at h; cases h)
  have hmeth' : T.vm.method? m = some meth := X.method'
  refine ⟨T.setFrames fs, ?_, .returned (some (.int 1)), hrun, hended, rfl, ⟨_, rfl⟩, hW, hframe⟩
  jvm_step X.here [X.here.top, hx, hb, hdg, hmeth', hr, ret, narrow_b1]
  (try refine ⟨rfl, ?_⟩); (try refine ⟨rfl, ?_⟩)
  first | (intro acts; rw [hret _ acts rfl rfl rfl]) | rw [hret _ _ rfl rfl rfl]
  exact Steps.refl _
/-- what holds at the law's entry: the machine, the code, the tables' words (any of lw_tbl by 'hts w (by decide +kernel)'), the script of L ints xs at the cell b, what the Statement gives of the start (any of its parts by flat_of_before) -/
def lw_At (p : Program) (s : State) (m : MethodId) (meth : Method) (c : Code) (b L : Nat) (xs : Nat → Int32) : Prop :=
  p.tables.exec = Jvm.exec ∧ c.code = code ∧ meth.sig.returnType = ret ∧ c.maxLocals = 4 ∧ s.vm.findClass R_law = some m.cls ∧ (∀ w ∈ lw_tbl, w.before #[Value.ref b] s = true) ∧ va_X b L xs s s.heap ∧ b < s.heap.size ∧ meth.locks = false ∧ (Jvm.Cond.and given_1 narrow_1).before #[Value.ref b] s = true
/-! FROM THE PURE MODEL OF THE LAW TO whole_start -/
def zT (i : Nat) : Term := if i = 0 then .string "SaltFigures$Reader" 78 else .string "SaltFigures$Reader" 70
abbrev nrw : Cond := Jvm.Cond.and given_1 narrow_1
theorem zin1 : ∀ i, i < 2 → Cond.exactly (zT i) "java/lang/String" ∈ flatC nrw := by decide +kernel
theorem zin2 : ∀ i, i < 2 → Cond.eq (.field (zT i) "java/lang/String" "coder" "B") (.int 0) ∈ flatC nrw := by decide +kernel
theorem zin3 : ∀ i, i < 2 → Cond.arrayOf (.field (zT i) "java/lang/String" "value" "[B") .byte ∈ flatC nrw := by decide +kernel
theorem zin4 : ∀ i, i < 2 → Cond.eq (.length (.field (zT i) "java/lang/String" "value" "[B")) (.int (Int32.ofNat (Zlen.getD i 0))) ∈ flatC nrw := by decide +kernel
theorem zin5 : ∀ i, i < 2 → ∀ j, j < Zlen.getD i 0 → Cond.eq (.elem (.field (zT i) "java/lang/String" "value" "[B") (.int (Int32.ofNat j))) (.int ((Zbyt.getD i []).getD j 0)) ∈ flatC nrw := by decide +kernel
theorem zin6 : Cond.not (Cond.eq (zT 0) (zT 1)) ∈ flatC nrw ∨ Cond.not (Cond.eq (zT 1) (zT 0)) ∈ flatC nrw := by decide +kernel
theorem zin7 : ∀ j, j < 12 → Cond.eq (.elem (.static "SaltFigures" "MONTHS" "[I") (.int (Int32.ofNat j))) (.int (monL.getD j 0)) ∈ flatC nrw := by decide +kernel
theorem zin8 : Cond.arrayOf (.static "SaltFigures" "MONTHS" "[I") .int ∈ flatC nrw ∧ Cond.eq (.length (.static "SaltFigures" "MONTHS" "[I")) (.int (Int32.ofNat 12)) ∈ flatC nrw ∧ Cond.eq (.static "java/lang/String" "COMPACT_STRINGS" "Z") (.int 1) ∈ flatC nrw ∧ Cond.isRef (.static "jdk/internal/util/Preconditions" "SIOOBE_FORMATTER" "Ljava/util/function/BiFunction;") ∈ flatC nrw := by decide +kernel
theorem clx_inst : ∀ (ci : Nat) (r : vw_C), vwCl[ci]? = some r → Cond.instantiable r.1 r.2.2 ∈ lw_tbl := by
  intro ci r h
  match ci, h with
  | 0, h => cases h; exact (mq mt_2 16 (by decide +kernel))
  | 1, h => cases h; exact (mq mt_1 37 (by decide +kernel))
  | 2, h => cases h; exact (mq mt_1 100 (by decide +kernel))
  | 3, h => cases h; exact (mq mt_1 31 (by decide +kernel))
  | 4, h => cases h; exact (mq mt_2 53 (by decide +kernel))
  | 5, h => cases h; exact (mq mt_1 160 (by decide +kernel))
  | 6, h => cases h; exact (mq mt_1 94 (by decide +kernel))
  | 7, h => cases h; exact (mq mt_2 37 (by decide +kernel))
  | 8, h => cases h; exact (mq mt_1 154 (by decide +kernel))
  | 9, h => cases h; exact (mq mt_1 23 (by decide +kernel))
  | 10, h => cases h; exact (mq mt_6 1 (by decide +kernel))
  | k + 11, h => simp [vwCl] at h
theorem zw_start {s : State} {A : Array Value} (hgv : nrw.before A s = true) (hts : ∀ w ∈ lw_tbl, w.before A s = true) : ∃ Zf : Nat → Nat, ∀ (D : va_G) (cI cF : ClassId), Zw (s.heap.size, D, cI, cF, s.heap, Zf) s := by
  have hs := flat_of_before _ hgv
  have hA : ∀ a : Nat, a < s.heap.size → ¬ (fun q => s.heap.size ≤ q) a := fun a h z => absurd h (Nat.not_lt.mpr z)
  obtain ⟨adK, adV, hS, hK⟩ := vk_Sof (args := A) (s := s) (N := 2) (tm := zT) (len := Zlen) (byt := Zbyt) (A := fun q => s.heap.size ≤ q) (by decide) (fun i hi => hs _ (zin1 i hi)) (fun i hi => hs _ (zin2 i hi)) (fun i hi => hs _ (zin3 i hi)) (fun i hi => hs _ (zin4 i hi)) (fun i hi j hj => hs _ (zin5 i hi j hj))
    (fun i j hi hj hij => by
      have h01 : (Cond.not (Cond.eq (zT 0) (zT 1))).before A s = true ∨ (Cond.not (Cond.eq (zT 1) (zT 0))).before A s = true := zin6.elim (fun h => Or.inl (hs _ h)) (fun h => Or.inr (hs _ h))
      rcases (show (i = 0 ∧ j = 1) ∨ (i = 1 ∧ j = 0) by omega) with ⟨rfl, rfl⟩ | ⟨rfl, rfl⟩
      · exact h01
      · exact h01.symm) hA
  obtain ⟨mo, hmo, hT⟩ := va_Tof (args := A) (s := s) (tm := .static "SaltFigures" "MONTHS" "[I") (ty := .int) (N := 12) (f := fun j => .int (monL.getD j 0)) (A := fun q => s.heap.size ≤ q) (by decide) (hs _ zin8.1) (va_eqt (hs _ zin8.2.1)) (fun j hj => va_eqt (hs _ (zin7 j hj))) hA
  have hZm := va_Zof (hts _ (mq mt_4 156 (by decide +kernel))) (hts _ (mq mt_1 1 (by decide +kernel))) hmo hA
  have hZc := va_Zof (hts _ (mq mt_3 141 (by decide +kernel))) (hts _ (mq mt_1 15 (by decide +kernel))) (va_eqt (hs _ zin8.2.2.1)) hA
  obtain ⟨v, hv, hvr⟩ := Cond.isRef_spec (args := A) (first := s) (o := none) (s := s) (idx := []) (hs _ zin8.2.2.2)
  have hZs := va_Zof (hts _ (mq mt_3 157 (by decide +kernel))) (hts _ (mq mt_1 17 (by decide +kernel))) hv hA
  refine ⟨fun i => if i = 0 then adK 0 else if i = 1 then adK 1 else if i = 2 then adV 0 else if i = 3 then adV 1 else mo, fun D cI cF => ⟨⟨fun i hi => ?_, fun i j hi hj => ?_⟩, ?_, ?_, hZc, hZm, hT, ⟨v, ?_, hZs⟩, rfl, va_AO.of (hts _ (mq mt_2 107 (by decide +kernel)))⟩⟩
  · rcases (show i = 0 ∨ i = 1 by omega) with rfl | rfl
    · exact hS.1 0 hi
    · exact hS.1 1 hi
  · rcases (show i = 0 ∨ i = 1 by omega) with rfl | rfl <;> rcases (show j = 0 ∨ j = 1 by omega) with rfl | rfl
    · exact fun _ => rfl
    · exact hS.2 0 1 hi hj
    · exact hS.2 1 0 hi hj
    · exact fun _ => rfl
  · exact vk_R.of (A := A) (hts _ (mq mt_3 131 (by decide +kernel))) (hK 0 (by decide))
  · exact vk_R.of (A := A) (hts _ (mq mt_3 180 (by decide +kernel))) (hK 1 (by decide))
  · cases v <;> simp [Value.isRef] at hvr <;> first | exact Or.inl rfl | exact Or.inr ⟨_, rfl⟩
theorem room_W {p : Program} {l : Launch} {e : Env} {R R' : Room} {s : State} {m : MethodId} {args : Array Value} {below : List Frame} {meth : Method} {c : Code} {H : Heap} {locs : List Loc} {cells slots : Nat} {Q : State → Prop} {g : JFrame} (h1 : R'.frames ≤ R.frames) (h2 : R'.cells ≤ R.cells) (h3 : R'.slots ≤ R.slots) (h4 : R'.locals ≤ R.locals) (k : W p l e R' s m args below meth c H locs cells slots Q g) : W p l e R s m args below meth c H locs cells slots Q g := by
  intro T hT X
  refine k T hT { X with room := ?_ }
  have h := X.room
  simp only [State.hasRoom, Bool.and_eq_true, decide_eq_true_eq] at h ⊢
  obtain ⟨⟨⟨⟨a1, a2, a3, a4, a5, a6⟩, a7⟩, a8⟩, a9⟩ := h
  exact ⟨⟨⟨⟨by omega, by omega, by omega, by omega, by omega, a6⟩, by omega⟩, by omega⟩, a9⟩
def y00 : Ly := (fun _ _ => none, [])
def μ00 : Mu := fun _ _ => 0
/-- what is left to show: pure -/
def PureLaw : Prop := ∀ (b Ln : Nat) (xs : Nat → Int32), Ln ≤ 3072 → ∃ m' : Mm, Lx_law b Ln xs μ00 y00 = some (1, m') ∧ mmN m'.2 ≤ 600000 ∧ mmS m'.2 ≤ 7302250
theorem ac_spec {s : State} {A : Array Value} (h : (Cond.arrayClass .int).before A s = true) : ∃ (cA : ClassId) (kA : Class) (comp : ClassId), s.vm.findClass ("[" ++ (FieldType.int).toString) = some cA ∧ s.vm.classes[cA]? = some kA ∧ kA.kind = .array comp .int := by
  simp only [Cond.before, Cond.holds, Cond.value, beq_iff_eq] at h
  cases hc : s.vm.findClass ("[" ++ (FieldType.int).toString) with
  | none => simp [hc] at h
  | some cA =>
    simp only [hc, Option.bind_some, Option.map_eq_some_iff] at h
    obtain ⟨k, hk, hb⟩ := h
    cases hkind : k.kind with
    | array component ty =>
      rw [hkind] at hb
      simp at hb
      exact ⟨cA, k, component, rfl, hk, by rw [hkind, hb]⟩
    | _ => rw [hkind] at hb; simp at hb
set_option maxHeartbeats 4000000 in
set_option maxRecDepth 100000 in
theorem whole_open (hpure : PureLaw) {p : Program} {e : Env} {s : State} {m : MethodId} {below : List Frame} {meth : Method} {c : Code} (l : Launch) {b L : Nat} {xs : Nat → Int32} (hL : L ≤ 3072) (C0 : lw_At p s m meth c b L xs) : W p l e room_1 s m #[Value.ref b] below meth c s.heap [] 0 0 (lw_Z below #[Value.ref b] s) (entryFrame m ([Value.ref b] : List Value).toArray 4) := by
  obtain ⟨hx, hb, hr, hml, hown, hts, hX, hbl, hlocks, hgv⟩ := id C0
  obtain ⟨Zf, hZ⟩ := zw_start hgv hts
  have hkn : ∀ k : Nat, ∃ q : ClassId × (Nat → Nat), ∀ r, vwCl[k]? = some r → u_Kn s r.1 r.2.1 r.2.2 q.1 q.2 := by
    intro k
    cases hk : vwCl[k]? with
    | none => exact ⟨(0, fun _ => 0), fun r h => by cases h⟩
    | some r =>
      obtain ⟨cC, iS, h⟩ := u_known (C := r.1) (T := r.2.1) (N := r.2.2) (n := r.2.2) hts (clx_in k r hk) (hts _ (clx_inst k r hk))
      exact ⟨(cC, iS), fun r' h' => by cases h'; exact h⟩
  obtain ⟨dd, hdd⟩ := Classical.axiomOfChoice hkn
  obtain ⟨comp, cF, kF, f1, f2, f3, f4, f5⟩ := Cond.arrayOver_spec (n := RX1) (hts _ (mq mt_2 107 (by decide +kernel)))
  obtain ⟨cI, kI, compI, i1, i2, i3⟩ := ac_spec (hts _ (mq mt_1 92 (by decide +kernel)))
  let G : Gx := (s.heap.size, (fun k => (dd k).1, fun k => (dd k).2), cI, cF, s.heap, Zf)
  have hK : Kw G s := by
    refine ⟨⟨fun k q hq => hdd k q hq, fun k q hq => ?_⟩, tw_of hts, hZ _ _ _⟩
    match k, hq with
    | 0, hq => cases hq; exact ⟨fun n z => ⟨fun k h => (by cases h), kI, i2, compI, i3⟩, i1⟩
    | 1, hq => cases hq; exact ⟨fun n z => ⟨fun k h => (by cases h), kF, f3, comp, f4⟩, kF, comp, f3, f4, f1, f5⟩
    | k + 2, hq => simp [tysG] at hq
  have hRel : Rel G (μ00, y00) s.heap := ⟨fun k q h => by simp [y00] at h, rfl, fun _ _ => rfl⟩
  obtain ⟨m', hm, hn, hsl⟩ := hpure b L xs hL
  obtain ⟨-, -, h3⟩ := jLx_law (X := (p, l, e, s, m, #[Value.ref b], below, meth, c)) (l := l) (G := G) (y0 := y00) (b := b) (Ln := L) (xs := xs) ⟨hX, hbl⟩ ⟨rfl, hx, hb, hml, hr, hown, hlocks, hK⟩ μ00 y00 1 m' hm
  have hl := lv_entry ([.ref b]) (n := 4) (Nat.le_of_ble_eq_true rfl)
  have hh := h3 _ s.heap [] hl hRel (fun q hq => absurd hq List.not_mem_nil) (List.prefix_refl _)
  rw [lg_entry_eq]
  have e0 : mmN y00 = 0 := rfl
  have e1 : mmS y00 = 0 := rfl
  rw [e0, e1] at hh
  have hW := room_W (R := room_1) (by show (103 : Nat) ≤ 2048; omega) (by show mmN m'.2 - 0 ≤ 600000; omega) (by show mmS m'.2 - 0 ≤ 7302250; omega) (by show 64 * 103 ≤ 84000; omega) hh
  intro T hT X0
  obtain ⟨t, a1, o, b1, b2, ⟨q1, q2, q3⟩, L1, ⟨r1, r2, r3⟩, b5⟩ := hW T hT X0
  exact ⟨t, a1, o, b1, b2, q1, r1, r2, r3.weaken (fun z hz hlt => absurd hlt (Nat.not_lt.mpr (b5 z hz))) (by show mmN m'.2 - 0 ≤ 600000; omega) (by show mmS m'.2 - 0 ≤ 7302250; omega)⟩
