section Rules
variable {ρ υ : Type} {X : Cx} {l : Launch} {G : Gx} {cc : ByteArray} {nL d : Nat} {ret : Option FieldType} {own : String} {y0 : Ly} {em : υ → Mm} {rv : ρ → Option Value} {tp : ρ → Mm → Prop} {pc : Nat} {L : List (Nat × Value)} {st : List Value} {m : Mm} {o : Option (ρ × υ)}
theorem J_iconst {n : Int} {v : Int32} (hX : Ok X l G cc nL ret own) (hd : decode cc pc = .ok (.iconst n, 1)) (hv : Int32.ofInt n = v) (k : J X G nL d y0 em rv tp (pc + 1) L (.int v :: st) m o) : J X G nL d y0 em rv tp pc L st m o := by
  obtain ⟨p, l', e, s, mi, args, below, meth, c⟩ := X
  obtain ⟨rfl, hx, hb, hml, hr, hown, hlk, hK⟩ := hX
  intro r u h
  obtain ⟨h1, h2, h3⟩ := k r u h
  exact ⟨h1, h2, fun ls H locs a b c' d' => lv_iconst hx hb hd hv (h3 ls H locs a b c' d')⟩
theorem J_bipush {n : Int} {v : Int32} (hX : Ok X l G cc nL ret own) (hd : decode cc pc = .ok (.bipush n, 2)) (hv : (Int8.ofInt n).toInt32 = v) (k : J X G nL d y0 em rv tp (pc + 2) L (.int v :: st) m o) : J X G nL d y0 em rv tp pc L st m o := by
  obtain ⟨p, l', e, s, mi, args, below, meth, c⟩ := X
  obtain ⟨rfl, hx, hb, hml, hr, hown, hlk, hK⟩ := hX
  intro r u h
  obtain ⟨h1, h2, h3⟩ := k r u h
  exact ⟨h1, h2, fun ls H locs a b c' d' => lv_bipush hx hb hd hv (h3 ls H locs a b c' d')⟩
theorem J_sipush {n : Int} {v : Int32} (hX : Ok X l G cc nL ret own) (hd : decode cc pc = .ok (.sipush n, 3)) (hv : (Int16.ofInt n).toInt32 = v) (k : J X G nL d y0 em rv tp (pc + 3) L (.int v :: st) m o) : J X G nL d y0 em rv tp pc L st m o := by
  obtain ⟨p, l', e, s, mi, args, below, meth, c⟩ := X
  obtain ⟨rfl, hx, hb, hml, hr, hown, hlk, hK⟩ := hX
  intro r u h
  obtain ⟨h1, h2, h3⟩ := k r u h
  exact ⟨h1, h2, fun ls H locs a b c' d' => lv_sipush hx hb hd hv (h3 ls H locs a b c' d')⟩
theorem J_lconst {n : Fin 2} {v : Int64} (hX : Ok X l G cc nL ret own) (hd : decode cc pc = .ok (.lconst n, 1)) (hv : Int64.ofNat (n : Nat) = v) (k : J X G nL d y0 em rv tp (pc + 1) L (.long v :: st) m o) : J X G nL d y0 em rv tp pc L st m o := by
  obtain ⟨p, l', e, s, mi, args, below, meth, c⟩ := X
  obtain ⟨rfl, hx, hb, hml, hr, hown, hlk, hK⟩ := hX
  intro r u h
  obtain ⟨h1, h2, h3⟩ := k r u h
  exact ⟨h1, h2, fun ls H locs a b c' d' => lv_lconst hx hb hd hv (h3 ls H locs a b c' d')⟩
theorem J_iload_n {k0 : Fin 4} {i : Nat} {x : Int32} (q : Nat) (hX : Ok X l G cc nL ret own) (hd : decode cc pc = .ok (.iload_n k0, 1)) (hi : (k0 : Nat) = i) (hq : L[q]? = some (i, .int x)) (k : J X G nL d y0 em rv tp (pc + 1) L (.int x :: st) m o) : J X G nL d y0 em rv tp pc L st m o := by
  obtain ⟨p, l', e, s, mi, args, below, meth, c⟩ := X
  obtain ⟨rfl, hx, hb, hml, hr, hown, hlk, hK⟩ := hX
  intro r u h
  obtain ⟨h1, h2, h3⟩ := k r u h
  exact ⟨h1, h2, fun ls H locs a b c' d' => lv_iload_n hx hb hd hi (lv_at a q hq) (h3 ls H locs a b c' d')⟩
theorem J_iload {i : Nat} {x : Int32} (q : Nat) (hX : Ok X l G cc nL ret own) (hd : decode cc pc = .ok (.iload i, 2)) (hq : L[q]? = some (i, .int x)) (k : J X G nL d y0 em rv tp (pc + 2) L (.int x :: st) m o) : J X G nL d y0 em rv tp pc L st m o := by
  obtain ⟨p, l', e, s, mi, args, below, meth, c⟩ := X
  obtain ⟨rfl, hx, hb, hml, hr, hown, hlk, hK⟩ := hX
  intro r u h
  obtain ⟨h1, h2, h3⟩ := k r u h
  exact ⟨h1, h2, fun ls H locs a b c' d' => lv_iload hx hb hd (lv_at a q hq) (h3 ls H locs a b c' d')⟩
theorem J_lload_n {k0 : Fin 4} {i : Nat} {x : Int64} (q : Nat) (hX : Ok X l G cc nL ret own) (hd : decode cc pc = .ok (.lload_n k0, 1)) (hi : (k0 : Nat) = i) (hq : L[q]? = some (i, .long x)) (k : J X G nL d y0 em rv tp (pc + 1) L (.long x :: st) m o) : J X G nL d y0 em rv tp pc L st m o := by
  obtain ⟨p, l', e, s, mi, args, below, meth, c⟩ := X
  obtain ⟨rfl, hx, hb, hml, hr, hown, hlk, hK⟩ := hX
  intro r u h
  obtain ⟨h1, h2, h3⟩ := k r u h
  exact ⟨h1, h2, fun ls H locs a b c' d' => lv_lload_n hx hb hd hi (lv_at a q hq) (h3 ls H locs a b c' d')⟩
theorem J_lload {i : Nat} {x : Int64} (q : Nat) (hX : Ok X l G cc nL ret own) (hd : decode cc pc = .ok (.lload i, 2)) (hq : L[q]? = some (i, .long x)) (k : J X G nL d y0 em rv tp (pc + 2) L (.long x :: st) m o) : J X G nL d y0 em rv tp pc L st m o := by
  obtain ⟨p, l', e, s, mi, args, below, meth, c⟩ := X
  obtain ⟨rfl, hx, hb, hml, hr, hown, hlk, hK⟩ := hX
  intro r u h
  obtain ⟨h1, h2, h3⟩ := k r u h
  exact ⟨h1, h2, fun ls H locs a b c' d' => lv_lload hx hb hd (lv_at a q hq) (h3 ls H locs a b c' d')⟩
theorem J_aload_n {k0 : Fin 4} {i : Nat} {x : Nat} (q : Nat) (hX : Ok X l G cc nL ret own) (hd : decode cc pc = .ok (.aload_n k0, 1)) (hi : (k0 : Nat) = i) (hq : L[q]? = some (i, .ref x)) (k : J X G nL d y0 em rv tp (pc + 1) L (.ref x :: st) m o) : J X G nL d y0 em rv tp pc L st m o := by
  obtain ⟨p, l', e, s, mi, args, below, meth, c⟩ := X
  obtain ⟨rfl, hx, hb, hml, hr, hown, hlk, hK⟩ := hX
  intro r u h
  obtain ⟨h1, h2, h3⟩ := k r u h
  exact ⟨h1, h2, fun ls H locs a b c' d' => lv_aload_n hx hb hd hi (lv_at a q hq) (h3 ls H locs a b c' d')⟩
theorem J_aload {i : Nat} {x : Nat} (q : Nat) (hX : Ok X l G cc nL ret own) (hd : decode cc pc = .ok (.aload i, 2)) (hq : L[q]? = some (i, .ref x)) (k : J X G nL d y0 em rv tp (pc + 2) L (.ref x :: st) m o) : J X G nL d y0 em rv tp pc L st m o := by
  obtain ⟨p, l', e, s, mi, args, below, meth, c⟩ := X
  obtain ⟨rfl, hx, hb, hml, hr, hown, hlk, hK⟩ := hX
  intro r u h
  obtain ⟨h1, h2, h3⟩ := k r u h
  exact ⟨h1, h2, fun ls H locs a b c' d' => lv_aload hx hb hd (lv_at a q hq) (h3 ls H locs a b c' d')⟩
theorem J_istore_n {k0 : Fin 4} {i : Nat} {x : Int32} (L' : List (Nat × Value)) (hX : Ok X l G cc nL ret own) (hd : decode cc pc = .ok (.istore_n k0, 1)) (hi : (k0 : Nat) = i) (hn : i < nL) (hl : (i, Value.int x) :: L.filter (fun q => !(q.1 == i) && !(q.1 + 1 == i && q.2.category == 2)) = L') (k : J X G nL d y0 em rv tp (pc + 1) L' st m o) : J X G nL d y0 em rv tp pc L (.int x :: st) m o := by
  obtain ⟨p, l', e, s, mi, args, below, meth, c⟩ := X
  obtain ⟨rfl, hx, hb, hml, hr, hown, hlk, hK⟩ := hX
  intro r u h
  obtain ⟨h1, h2, h3⟩ := k r u h
  exact ⟨h1, h2, fun ls H locs a b c' d' => lv_istore_n hx hb hd hi a hn hl (fun ls2 a2 => h3 ls2 H locs a2 b c' d')⟩
theorem J_istore {i : Nat} {x : Int32} (L' : List (Nat × Value)) (hX : Ok X l G cc nL ret own) (hd : decode cc pc = .ok (.istore i, 2)) (hn : i < nL) (hl : (i, Value.int x) :: L.filter (fun q => !(q.1 == i) && !(q.1 + 1 == i && q.2.category == 2)) = L') (k : J X G nL d y0 em rv tp (pc + 2) L' st m o) : J X G nL d y0 em rv tp pc L (.int x :: st) m o := by
  obtain ⟨p, l', e, s, mi, args, below, meth, c⟩ := X
  obtain ⟨rfl, hx, hb, hml, hr, hown, hlk, hK⟩ := hX
  intro r u h
  obtain ⟨h1, h2, h3⟩ := k r u h
  exact ⟨h1, h2, fun ls H locs a b c' d' => lv_istore hx hb hd a hn hl (fun ls2 a2 => h3 ls2 H locs a2 b c' d')⟩
theorem J_astore_n {k0 : Fin 4} {i : Nat} {x : Nat} (L' : List (Nat × Value)) (hX : Ok X l G cc nL ret own) (hd : decode cc pc = .ok (.astore_n k0, 1)) (hi : (k0 : Nat) = i) (hn : i < nL) (hl : (i, Value.ref x) :: L.filter (fun q => !(q.1 == i) && !(q.1 + 1 == i && q.2.category == 2)) = L') (k : J X G nL d y0 em rv tp (pc + 1) L' st m o) : J X G nL d y0 em rv tp pc L (.ref x :: st) m o := by
  obtain ⟨p, l', e, s, mi, args, below, meth, c⟩ := X
  obtain ⟨rfl, hx, hb, hml, hr, hown, hlk, hK⟩ := hX
  intro r u h
  obtain ⟨h1, h2, h3⟩ := k r u h
  exact ⟨h1, h2, fun ls H locs a b c' d' => lv_astore_n hx hb hd hi a hn hl (fun ls2 a2 => h3 ls2 H locs a2 b c' d')⟩
theorem J_astore {i : Nat} {x : Nat} (L' : List (Nat × Value)) (hX : Ok X l G cc nL ret own) (hd : decode cc pc = .ok (.astore i, 2)) (hn : i < nL) (hl : (i, Value.ref x) :: L.filter (fun q => !(q.1 == i) && !(q.1 + 1 == i && q.2.category == 2)) = L') (k : J X G nL d y0 em rv tp (pc + 2) L' st m o) : J X G nL d y0 em rv tp pc L (.ref x :: st) m o := by
  obtain ⟨p, l', e, s, mi, args, below, meth, c⟩ := X
  obtain ⟨rfl, hx, hb, hml, hr, hown, hlk, hK⟩ := hX
  intro r u h
  obtain ⟨h1, h2, h3⟩ := k r u h
  exact ⟨h1, h2, fun ls H locs a b c' d' => lv_astore hx hb hd a hn hl (fun ls2 a2 => h3 ls2 H locs a2 b c' d')⟩
theorem J_lstore_n {k0 : Fin 4} {i : Nat} {x : Int64} (L' : List (Nat × Value)) (hX : Ok X l G cc nL ret own) (hd : decode cc pc = .ok (.lstore_n k0, 1)) (hi : (k0 : Nat) = i) (hn : i + 1 < nL) (hl : (i, Value.long x) :: L.filter (fun q => !(q.1 == i) && (!(q.1 == i + 1) && !(q.1 + 1 == i && q.2.category == 2))) = L') (k : J X G nL d y0 em rv tp (pc + 1) L' st m o) : J X G nL d y0 em rv tp pc L (.long x :: st) m o := by
  obtain ⟨p, l', e, s, mi, args, below, meth, c⟩ := X
  obtain ⟨rfl, hx, hb, hml, hr, hown, hlk, hK⟩ := hX
  intro r u h
  obtain ⟨h1, h2, h3⟩ := k r u h
  exact ⟨h1, h2, fun ls H locs a b c' d' => lv_lstore_n hx hb hd hi a hn hl (fun ls2 a2 => h3 ls2 H locs a2 b c' d')⟩
theorem J_lstore {i : Nat} {x : Int64} (L' : List (Nat × Value)) (hX : Ok X l G cc nL ret own) (hd : decode cc pc = .ok (.lstore i, 2)) (hn : i + 1 < nL) (hl : (i, Value.long x) :: L.filter (fun q => !(q.1 == i) && (!(q.1 == i + 1) && !(q.1 + 1 == i && q.2.category == 2))) = L') (k : J X G nL d y0 em rv tp (pc + 2) L' st m o) : J X G nL d y0 em rv tp pc L (.long x :: st) m o := by
  obtain ⟨p, l', e, s, mi, args, below, meth, c⟩ := X
  obtain ⟨rfl, hx, hb, hml, hr, hown, hlk, hK⟩ := hX
  intro r u h
  obtain ⟨h1, h2, h3⟩ := k r u h
  exact ⟨h1, h2, fun ls H locs a b c' d' => lv_lstore hx hb hd a hn hl (fun ls2 a2 => h3 ls2 H locs a2 b c' d')⟩
theorem J_iinc {i : Nat} {n : Int} {x v : Int32} (q : Nat) (L' : List (Nat × Value)) (hX : Ok X l G cc nL ret own) (hd : decode cc pc = .ok (.iinc i n, 3)) (hq : L[q]? = some (i, .int x)) (hv : x + Int32.ofInt n = v) (hn : i < nL) (hl : (i, Value.int v) :: L.filter (fun q => !(q.1 == i) && !(q.1 + 1 == i && q.2.category == 2)) = L') (k : J X G nL d y0 em rv tp (pc + 3) L' st m o) : J X G nL d y0 em rv tp pc L st m o := by
  obtain ⟨p, l', e, s, mi, args, below, meth, c⟩ := X
  obtain ⟨rfl, hx, hb, hml, hr, hown, hlk, hK⟩ := hX
  intro r u h
  obtain ⟨h1, h2, h3⟩ := k r u h
  exact ⟨h1, h2, fun ls H locs a b c' d' => lv_iinc hx hb hd a (k := q) hq hv hn hl (fun ls2 a2 => h3 ls2 H locs a2 b c' d')⟩
theorem J_iadd {x y : Int32} (hX : Ok X l G cc nL ret own) (hd : decode cc pc = .ok (.iadd, 1)) (k : J X G nL d y0 em rv tp (pc + 1) L (.int (x + y) :: st) m o) : J X G nL d y0 em rv tp pc L (.int y :: .int x :: st) m o := by
  obtain ⟨p, l', e, s, mi, args, below, meth, c⟩ := X
  obtain ⟨rfl, hx, hb, hml, hr, hown, hlk, hK⟩ := hX
  intro r u h
  obtain ⟨h1, h2, h3⟩ := k r u h
  exact ⟨h1, h2, fun ls H locs a b c' d' => lv_iadd hx hb hd (h3 ls H locs a b c' d')⟩
theorem J_isub {x y : Int32} (hX : Ok X l G cc nL ret own) (hd : decode cc pc = .ok (.isub, 1)) (k : J X G nL d y0 em rv tp (pc + 1) L (.int (x - y) :: st) m o) : J X G nL d y0 em rv tp pc L (.int y :: .int x :: st) m o := by
  obtain ⟨p, l', e, s, mi, args, below, meth, c⟩ := X
  obtain ⟨rfl, hx, hb, hml, hr, hown, hlk, hK⟩ := hX
  intro r u h
  obtain ⟨h1, h2, h3⟩ := k r u h
  exact ⟨h1, h2, fun ls H locs a b c' d' => lv_isub hx hb hd (h3 ls H locs a b c' d')⟩
theorem J_imul {x y : Int32} (hX : Ok X l G cc nL ret own) (hd : decode cc pc = .ok (.imul, 1)) (k : J X G nL d y0 em rv tp (pc + 1) L (.int (x * y) :: st) m o) : J X G nL d y0 em rv tp pc L (.int y :: .int x :: st) m o := by
  obtain ⟨p, l', e, s, mi, args, below, meth, c⟩ := X
  obtain ⟨rfl, hx, hb, hml, hr, hown, hlk, hK⟩ := hX
  intro r u h
  obtain ⟨h1, h2, h3⟩ := k r u h
  exact ⟨h1, h2, fun ls H locs a b c' d' => lv_imul hx hb hd (h3 ls H locs a b c' d')⟩
theorem J_iand {x y : Int32} (hX : Ok X l G cc nL ret own) (hd : decode cc pc = .ok (.iand, 1)) (k : J X G nL d y0 em rv tp (pc + 1) L (.int (x &&& y) :: st) m o) : J X G nL d y0 em rv tp pc L (.int y :: .int x :: st) m o := by
  obtain ⟨p, l', e, s, mi, args, below, meth, c⟩ := X
  obtain ⟨rfl, hx, hb, hml, hr, hown, hlk, hK⟩ := hX
  intro r u h
  obtain ⟨h1, h2, h3⟩ := k r u h
  exact ⟨h1, h2, fun ls H locs a b c' d' => lv_iand hx hb hd (h3 ls H locs a b c' d')⟩
theorem J_ior {x y : Int32} (hX : Ok X l G cc nL ret own) (hd : decode cc pc = .ok (.ior, 1)) (k : J X G nL d y0 em rv tp (pc + 1) L (.int (x ||| y) :: st) m o) : J X G nL d y0 em rv tp pc L (.int y :: .int x :: st) m o := by
  obtain ⟨p, l', e, s, mi, args, below, meth, c⟩ := X
  obtain ⟨rfl, hx, hb, hml, hr, hown, hlk, hK⟩ := hX
  intro r u h
  obtain ⟨h1, h2, h3⟩ := k r u h
  exact ⟨h1, h2, fun ls H locs a b c' d' => lv_ior hx hb hd (h3 ls H locs a b c' d')⟩
theorem J_ixor {x y : Int32} (hX : Ok X l G cc nL ret own) (hd : decode cc pc = .ok (.ixor, 1)) (k : J X G nL d y0 em rv tp (pc + 1) L (.int (x ^^^ y) :: st) m o) : J X G nL d y0 em rv tp pc L (.int y :: .int x :: st) m o := by
  obtain ⟨p, l', e, s, mi, args, below, meth, c⟩ := X
  obtain ⟨rfl, hx, hb, hml, hr, hown, hlk, hK⟩ := hX
  intro r u h
  obtain ⟨h1, h2, h3⟩ := k r u h
  exact ⟨h1, h2, fun ls H locs a b c' d' => lv_ixor hx hb hd (h3 ls H locs a b c' d')⟩
theorem J_ishl {x y : Int32} (hX : Ok X l G cc nL ret own) (hd : decode cc pc = .ok (.ishl, 1)) (k : J X G nL d y0 em rv tp (pc + 1) L (.int (jshl x y) :: st) m o) : J X G nL d y0 em rv tp pc L (.int y :: .int x :: st) m o := by
  obtain ⟨p, l', e, s, mi, args, below, meth, c⟩ := X
  obtain ⟨rfl, hx, hb, hml, hr, hown, hlk, hK⟩ := hX
  intro r u h
  obtain ⟨h1, h2, h3⟩ := k r u h
  exact ⟨h1, h2, fun ls H locs a b c' d' => lv_ishl hx hb hd (h3 ls H locs a b c' d')⟩
theorem J_ishr {x y : Int32} (hX : Ok X l G cc nL ret own) (hd : decode cc pc = .ok (.ishr, 1)) (k : J X G nL d y0 em rv tp (pc + 1) L (.int (jshr x y) :: st) m o) : J X G nL d y0 em rv tp pc L (.int y :: .int x :: st) m o := by
  obtain ⟨p, l', e, s, mi, args, below, meth, c⟩ := X
  obtain ⟨rfl, hx, hb, hml, hr, hown, hlk, hK⟩ := hX
  intro r u h
  obtain ⟨h1, h2, h3⟩ := k r u h
  exact ⟨h1, h2, fun ls H locs a b c' d' => lv_ishr hx hb hd (h3 ls H locs a b c' d')⟩
theorem J_iushr {x y : Int32} (hX : Ok X l G cc nL ret own) (hd : decode cc pc = .ok (.iushr, 1)) (k : J X G nL d y0 em rv tp (pc + 1) L (.int (jushr x y) :: st) m o) : J X G nL d y0 em rv tp pc L (.int y :: .int x :: st) m o := by
  obtain ⟨p, l', e, s, mi, args, below, meth, c⟩ := X
  obtain ⟨rfl, hx, hb, hml, hr, hown, hlk, hK⟩ := hX
  intro r u h
  obtain ⟨h1, h2, h3⟩ := k r u h
  exact ⟨h1, h2, fun ls H locs a b c' d' => lv_iushr hx hb hd rfl (h3 ls H locs a b c' d')⟩
theorem J_ineg {x : Int32} (hX : Ok X l G cc nL ret own) (hd : decode cc pc = .ok (.ineg, 1)) (k : J X G nL d y0 em rv tp (pc + 1) L (.int (-x) :: st) m o) : J X G nL d y0 em rv tp pc L (.int x :: st) m o := by
  obtain ⟨p, l', e, s, mi, args, below, meth, c⟩ := X
  obtain ⟨rfl, hx, hb, hml, hr, hown, hlk, hK⟩ := hX
  intro r u h
  obtain ⟨h1, h2, h3⟩ := k r u h
  exact ⟨h1, h2, fun ls H locs a b c' d' => lv_ineg hx hb hd (h3 ls H locs a b c' d')⟩
theorem J_i2c {x v : Int32} (hX : Ok X l G cc nL ret own) (hd : decode cc pc = .ok (.i2c, 1)) (hv : (x.toUInt32 % 65536).toInt32 = v) (k : J X G nL d y0 em rv tp (pc + 1) L (.int v :: st) m o) : J X G nL d y0 em rv tp pc L (.int x :: st) m o := by
  obtain ⟨p, l', e, s, mi, args, below, meth, c⟩ := X
  obtain ⟨rfl, hx, hb, hml, hr, hown, hlk, hK⟩ := hX
  intro r u h
  obtain ⟨h1, h2, h3⟩ := k r u h
  exact ⟨h1, h2, fun ls H locs a b c' d' => lv_i2c hx hb hd hv (h3 ls H locs a b c' d')⟩
theorem J_l2i {x : Int64} (hX : Ok X l G cc nL ret own) (hd : decode cc pc = .ok (.l2i, 1)) (k : J X G nL d y0 em rv tp (pc + 1) L (.int x.toInt32 :: st) m o) : J X G nL d y0 em rv tp pc L (.long x :: st) m o := by
  obtain ⟨p, l', e, s, mi, args, below, meth, c⟩ := X
  obtain ⟨rfl, hx, hb, hml, hr, hown, hlk, hK⟩ := hX
  intro r u h
  obtain ⟨h1, h2, h3⟩ := k r u h
  exact ⟨h1, h2, fun ls H locs a b c' d' => lv_l2i hx hb hd rfl (h3 ls H locs a b c' d')⟩
theorem J_ladd {x y : Int64} (hX : Ok X l G cc nL ret own) (hd : decode cc pc = .ok (.ladd, 1)) (k : J X G nL d y0 em rv tp (pc + 1) L (.long (x + y) :: st) m o) : J X G nL d y0 em rv tp pc L (.long y :: .long x :: st) m o := by
  obtain ⟨p, l', e, s, mi, args, below, meth, c⟩ := X
  obtain ⟨rfl, hx, hb, hml, hr, hown, hlk, hK⟩ := hX
  intro r u h
  obtain ⟨h1, h2, h3⟩ := k r u h
  exact ⟨h1, h2, fun ls H locs a b c' d' => lv_ladd hx hb hd (h3 ls H locs a b c' d')⟩
theorem J_lsub {x y : Int64} (hX : Ok X l G cc nL ret own) (hd : decode cc pc = .ok (.lsub, 1)) (k : J X G nL d y0 em rv tp (pc + 1) L (.long (x - y) :: st) m o) : J X G nL d y0 em rv tp pc L (.long y :: .long x :: st) m o := by
  obtain ⟨p, l', e, s, mi, args, below, meth, c⟩ := X
  obtain ⟨rfl, hx, hb, hml, hr, hown, hlk, hK⟩ := hX
  intro r u h
  obtain ⟨h1, h2, h3⟩ := k r u h
  exact ⟨h1, h2, fun ls H locs a b c' d' => lv_lsub hx hb hd (h3 ls H locs a b c' d')⟩
theorem J_lmul {x y : Int64} (hX : Ok X l G cc nL ret own) (hd : decode cc pc = .ok (.lmul, 1)) (k : J X G nL d y0 em rv tp (pc + 1) L (.long (x * y) :: st) m o) : J X G nL d y0 em rv tp pc L (.long y :: .long x :: st) m o := by
  obtain ⟨p, l', e, s, mi, args, below, meth, c⟩ := X
  obtain ⟨rfl, hx, hb, hml, hr, hown, hlk, hK⟩ := hX
  intro r u h
  obtain ⟨h1, h2, h3⟩ := k r u h
  exact ⟨h1, h2, fun ls H locs a b c' d' => lv_lmul hx hb hd (h3 ls H locs a b c' d')⟩
theorem J_lxor {x y : Int64} (hX : Ok X l G cc nL ret own) (hd : decode cc pc = .ok (.lxor, 1)) (k : J X G nL d y0 em rv tp (pc + 1) L (.long (x ^^^ y) :: st) m o) : J X G nL d y0 em rv tp pc L (.long y :: .long x :: st) m o := by
  obtain ⟨p, l', e, s, mi, args, below, meth, c⟩ := X
  obtain ⟨rfl, hx, hb, hml, hr, hown, hlk, hK⟩ := hX
  intro r u h
  obtain ⟨h1, h2, h3⟩ := k r u h
  exact ⟨h1, h2, fun ls H locs a b c' d' => lv_lxor hx hb hd (h3 ls H locs a b c' d')⟩
theorem J_lrem {x y : Int64} (hX : Ok X l G cc nL ret own) (hd : decode cc pc = .ok (.lrem, 1)) (hne : ¬ y = 0) (k : J X G nL d y0 em rv tp (pc + 1) L (.long (x - x / y * y) :: st) m o) : J X G nL d y0 em rv tp pc L (.long y :: .long x :: st) m o := by
  obtain ⟨p, l', e, s, mi, args, below, meth, c⟩ := X
  obtain ⟨rfl, hx, hb, hml, hr, hown, hlk, hK⟩ := hX
  intro r u h
  obtain ⟨h1, h2, h3⟩ := k r u h
  exact ⟨h1, h2, fun ls H locs a b c' d' => lv_lrem hx hb hd hne (h3 ls H locs a b c' d')⟩
theorem J_lcmp {x y : Int64} (hX : Ok X l G cc nL ret own) (hd : decode cc pc = .ok (.lcmp, 1)) (k : J X G nL d y0 em rv tp (pc + 1) L (.int (lg_cmp x y) :: st) m o) : J X G nL d y0 em rv tp pc L (.long y :: .long x :: st) m o := by
  obtain ⟨p, l', e, s, mi, args, below, meth, c⟩ := X
  obtain ⟨rfl, hx, hb, hml, hr, hown, hlk, hK⟩ := hX
  intro r u h
  obtain ⟨h1, h2, h3⟩ := k r u h
  exact ⟨h1, h2, fun ls H locs a b c' d' => W.lcmp hx hb hd (h3 ls H locs a b c' d')⟩
theorem J_idivK {x y : Int32} (hX : Ok X l G cc nL ret own) (hd : decode cc pc = .ok (.idiv, 1)) (hne : ¬ y = 0) (k : J X G nL d y0 em rv tp (pc + 1) L (.int (x / y) :: st) m o) : J X G nL d y0 em rv tp pc L (.int y :: .int x :: st) m o := by
  obtain ⟨p, l', e, s, mi, args, below, meth, c⟩ := X
  obtain ⟨rfl, hx, hb, hml, hr, hown, hlk, hK⟩ := hX
  intro r u h
  obtain ⟨h1, h2, h3⟩ := k r u h
  exact ⟨h1, h2, fun ls H locs a b c' d' => lv_idiv hx hb hd hne (h3 ls H locs a b c' d')⟩
theorem J_idiv {x y : Int32} (hX : Ok X l G cc nL ret own) (hd : decode cc pc = .ok (.idiv, 1)) (k : ¬ y = 0 → J X G nL d y0 em rv tp (pc + 1) L (.int (x / y) :: st) m o) : J X G nL d y0 em rv tp pc L (.int y :: .int x :: st) m (nz y o) := by
  intro r u h
  unfold nz at h
  split at h
  · cases h
  · rename_i hne
    exact J_idivK hX hd hne (k hne) r u h
theorem J_iremK {x y : Int32} (hX : Ok X l G cc nL ret own) (hd : decode cc pc = .ok (.irem, 1)) (hne : ¬ y = 0) (k : J X G nL d y0 em rv tp (pc + 1) L (.int (jrem x y) :: st) m o) : J X G nL d y0 em rv tp pc L (.int y :: .int x :: st) m o := by
  obtain ⟨p, l', e, s, mi, args, below, meth, c⟩ := X
  obtain ⟨rfl, hx, hb, hml, hr, hown, hlk, hK⟩ := hX
  intro r u h
  obtain ⟨h1, h2, h3⟩ := k r u h
  exact ⟨h1, h2, fun ls H locs a b c' d' => lv_irem hx hb hd hne (h3 ls H locs a b c' d')⟩
theorem J_irem {x y : Int32} (hX : Ok X l G cc nL ret own) (hd : decode cc pc = .ok (.irem, 1)) (k : ¬ y = 0 → J X G nL d y0 em rv tp (pc + 1) L (.int (jrem x y) :: st) m o) : J X G nL d y0 em rv tp pc L (.int y :: .int x :: st) m (nz y o) := by
  intro r u h
  unfold nz at h
  split at h
  · cases h
  · rename_i hne
    exact J_iremK hX hd hne (k hne) r u h
theorem J_dup {v : Value} (hX : Ok X l G cc nL ret own) (hd : decode cc pc = .ok (.dup, 1)) (hv : v.category = 1) (k : J X G nL d y0 em rv tp (pc + 1) L (v :: v :: st) m o) : J X G nL d y0 em rv tp pc L (v :: st) m o := by
  obtain ⟨p, l', e, s, mi, args, below, meth, c⟩ := X
  obtain ⟨rfl, hx, hb, hml, hr, hown, hlk, hK⟩ := hX
  intro r u h
  obtain ⟨h1, h2, h3⟩ := k r u h
  exact ⟨h1, h2, fun ls H locs a b c' d' => lv_dup hx hb hd hv (h3 ls H locs a b c' d')⟩
theorem J_pop {v : Value} (hX : Ok X l G cc nL ret own) (hd : decode cc pc = .ok (.pop, 1)) (hv : v.category = 1) (k : J X G nL d y0 em rv tp (pc + 1) L st m o) : J X G nL d y0 em rv tp pc L (v :: st) m o := by
  obtain ⟨p, l', e, s, mi, args, below, meth, c⟩ := X
  obtain ⟨rfl, hx, hb, hml, hr, hown, hlk, hK⟩ := hX
  intro r u h
  obtain ⟨h1, h2, h3⟩ := k r u h
  exact ⟨h1, h2, fun ls H locs a b c' d' => lv_pop hx hb hd hv (h3 ls H locs a b c' d')⟩
theorem J_dup2 {v w : Value} (hX : Ok X l G cc nL ret own) (hd : decode cc pc = .ok (.dup2, 1)) (hv : v.category = 1) (hw : w.category = 1) (k : J X G nL d y0 em rv tp (pc + 1) L (v :: w :: v :: w :: st) m o) : J X G nL d y0 em rv tp pc L (v :: w :: st) m o := by
  obtain ⟨p, l', e, s, mi, args, below, meth, c⟩ := X
  obtain ⟨rfl, hx, hb, hml, hr, hown, hlk, hK⟩ := hX
  intro r u h
  obtain ⟨h1, h2, h3⟩ := k r u h
  exact ⟨h1, h2, fun ls H locs a b c' d' => lv_dup2_11 hx hb hd hv hw (h3 ls H locs a b c' d')⟩
theorem J_ldc {v : Int32} {idx : Nat} (hX : Ok X l G cc nL ret own) (hd : decode cc pc = .ok (.ldc idx, 2)) (hw : Cond.constant own idx v ∈ lw_tbl) (k : J X G nL d y0 em rv tp (pc + 2) L (.int v :: st) m o) : J X G nL d y0 em rv tp pc L st m o := by
  obtain ⟨p, l', e, s, mi, args, below, meth, c⟩ := X
  obtain ⟨rfl, hx, hb, hml, hr, hown, hlk, hK⟩ := hX
  intro r u h
  obtain ⟨h1, h2, h3⟩ := k r u h
  exact ⟨h1, h2, fun ls H locs a b c' d' => lv_ldc hx hb hown (hK.2.1 _ hw rfl _) hd (h3 ls H locs a b c' d')⟩
theorem J_ldcw {v : Int32} {idx : Nat} (hX : Ok X l G cc nL ret own) (hd : decode cc pc = .ok (.ldc_w idx, 3)) (hw : Cond.constant own idx v ∈ lw_tbl) (k : J X G nL d y0 em rv tp (pc + 3) L (.int v :: st) m o) : J X G nL d y0 em rv tp pc L st m o := by
  obtain ⟨p, l', e, s, mi, args, below, meth, c⟩ := X
  obtain ⟨rfl, hx, hb, hml, hr, hown, hlk, hK⟩ := hX
  intro r u h
  obtain ⟨h1, h2, h3⟩ := k r u h
  exact ⟨h1, h2, fun ls H locs a b c' d' => lv_ldcw hx hb hown (hK.2.1 _ hw rfl _) hd (h3 ls H locs a b c' d')⟩
theorem J_ldc2 {v : Int64} {idx : Nat} (hX : Ok X l G cc nL ret own) (hd : decode cc pc = .ok (.ldc2_w idx, 3)) (hw : Cond.constantLong own idx v ∈ lw_tbl) (k : J X G nL d y0 em rv tp (pc + 3) L (.long v :: st) m o) : J X G nL d y0 em rv tp pc L st m o := by
  obtain ⟨p, l', e, s, mi, args, below, meth, c⟩ := X
  obtain ⟨rfl, hx, hb, hml, hr, hown, hlk, hK⟩ := hX
  intro r u h
  obtain ⟨h1, h2, h3⟩ := k r u h
  exact ⟨h1, h2, fun ls H locs a b c' d' => lv_ldc2 hx hb hown (hK.2.1 _ hw rfl _) hd (h3 ls H locs a b c' d')⟩
theorem J_if_eq {x : Int32} {off : Int} {tgt : Nat} {o1 o2 : Option (ρ × υ)} (hX : Ok X l G cc nL ret own) (hd : decode cc pc = .ok (.ifCond .eq off, 3)) (ht : (pc : Int) + off = (tgt : Int)) (kt : x = 0 → J X G nL d y0 em rv tp tgt L st m o1) (kf : ¬ x = 0 → J X G nL d y0 em rv tp (pc + 3) L st m o2) : J X G nL d y0 em rv tp pc L (.int x :: st) m (if x = 0 then o1 else o2) := by
  obtain ⟨p, l', e, s, mi, args, below, meth, c⟩ := X
  obtain ⟨rfl, hx, hb, hml, hr, hown, hlk, hK⟩ := hX
  intro r u h
  by_cases hc : x = 0
  · rw [if_pos hc] at h
    obtain ⟨h1, h2, h3⟩ := kt hc r u h
    exact ⟨h1, h2, fun ls H locs a b c' d' => lv_if_eq hx hb hd ht (fun _ => h3 ls H locs a b c' d') (fun z => absurd hc z)⟩
  · rw [if_neg hc] at h
    obtain ⟨h1, h2, h3⟩ := kf hc r u h
    exact ⟨h1, h2, fun ls H locs a b c' d' => lv_if_eq hx hb hd ht (fun z => absurd z hc) (fun _ => h3 ls H locs a b c' d')⟩
theorem J_if_ne {x : Int32} {off : Int} {tgt : Nat} {o1 o2 : Option (ρ × υ)} (hX : Ok X l G cc nL ret own) (hd : decode cc pc = .ok (.ifCond .ne off, 3)) (ht : (pc : Int) + off = (tgt : Int)) (kt : ¬ x = 0 → J X G nL d y0 em rv tp tgt L st m o1) (kf : x = 0 → J X G nL d y0 em rv tp (pc + 3) L st m o2) : J X G nL d y0 em rv tp pc L (.int x :: st) m (if x = 0 then o2 else o1) := by
  obtain ⟨p, l', e, s, mi, args, below, meth, c⟩ := X
  obtain ⟨rfl, hx, hb, hml, hr, hown, hlk, hK⟩ := hX
  intro r u h
  by_cases hc : x = 0
  · rw [if_pos hc] at h
    obtain ⟨h1, h2, h3⟩ := kf hc r u h
    exact ⟨h1, h2, fun ls H locs a b c' d' => lv_if_ne hx hb hd ht (fun z => absurd hc z) (fun _ => h3 ls H locs a b c' d')⟩
  · rw [if_neg hc] at h
    obtain ⟨h1, h2, h3⟩ := kt hc r u h
    exact ⟨h1, h2, fun ls H locs a b c' d' => lv_if_ne hx hb hd ht (fun _ => h3 ls H locs a b c' d') (fun z => absurd z hc)⟩
theorem J_if_lt {x : Int32} {off : Int} {tgt : Nat} {o1 o2 : Option (ρ × υ)} (hX : Ok X l G cc nL ret own) (hd : decode cc pc = .ok (.ifCond .lt off, 3)) (ht : (pc : Int) + off = (tgt : Int)) (kt : x < 0 → J X G nL d y0 em rv tp tgt L st m o1) (kf : ¬ x < 0 → J X G nL d y0 em rv tp (pc + 3) L st m o2) : J X G nL d y0 em rv tp pc L (.int x :: st) m (if x < 0 then o1 else o2) := by
  obtain ⟨p, l', e, s, mi, args, below, meth, c⟩ := X
  obtain ⟨rfl, hx, hb, hml, hr, hown, hlk, hK⟩ := hX
  intro r u h
  by_cases hc : x < 0
  · rw [if_pos hc] at h
    obtain ⟨h1, h2, h3⟩ := kt hc r u h
    exact ⟨h1, h2, fun ls H locs a b c' d' => lv_if_lt hx hb hd ht (fun _ => h3 ls H locs a b c' d') (fun z => absurd hc z)⟩
  · rw [if_neg hc] at h
    obtain ⟨h1, h2, h3⟩ := kf hc r u h
    exact ⟨h1, h2, fun ls H locs a b c' d' => lv_if_lt hx hb hd ht (fun z => absurd z hc) (fun _ => h3 ls H locs a b c' d')⟩
theorem J_if_ge {x : Int32} {off : Int} {tgt : Nat} {o1 o2 : Option (ρ × υ)} (hX : Ok X l G cc nL ret own) (hd : decode cc pc = .ok (.ifCond .ge off, 3)) (ht : (pc : Int) + off = (tgt : Int)) (kt : 0 ≤ x → J X G nL d y0 em rv tp tgt L st m o1) (kf : ¬ 0 ≤ x → J X G nL d y0 em rv tp (pc + 3) L st m o2) : J X G nL d y0 em rv tp pc L (.int x :: st) m (if 0 ≤ x then o1 else o2) := by
  obtain ⟨p, l', e, s, mi, args, below, meth, c⟩ := X
  obtain ⟨rfl, hx, hb, hml, hr, hown, hlk, hK⟩ := hX
  intro r u h
  by_cases hc : 0 ≤ x
  · rw [if_pos hc] at h
    obtain ⟨h1, h2, h3⟩ := kt hc r u h
    exact ⟨h1, h2, fun ls H locs a b c' d' => lv_if_ge hx hb hd ht (fun _ => h3 ls H locs a b c' d') (fun z => absurd hc z)⟩
  · rw [if_neg hc] at h
    obtain ⟨h1, h2, h3⟩ := kf hc r u h
    exact ⟨h1, h2, fun ls H locs a b c' d' => lv_if_ge hx hb hd ht (fun z => absurd z hc) (fun _ => h3 ls H locs a b c' d')⟩
theorem J_if_gt {x : Int32} {off : Int} {tgt : Nat} {o1 o2 : Option (ρ × υ)} (hX : Ok X l G cc nL ret own) (hd : decode cc pc = .ok (.ifCond .gt off, 3)) (ht : (pc : Int) + off = (tgt : Int)) (kt : 0 < x → J X G nL d y0 em rv tp tgt L st m o1) (kf : ¬ 0 < x → J X G nL d y0 em rv tp (pc + 3) L st m o2) : J X G nL d y0 em rv tp pc L (.int x :: st) m (if 0 < x then o1 else o2) := by
  obtain ⟨p, l', e, s, mi, args, below, meth, c⟩ := X
  obtain ⟨rfl, hx, hb, hml, hr, hown, hlk, hK⟩ := hX
  intro r u h
  by_cases hc : 0 < x
  · rw [if_pos hc] at h
    obtain ⟨h1, h2, h3⟩ := kt hc r u h
    exact ⟨h1, h2, fun ls H locs a b c' d' => lv_if_gt hx hb hd ht (fun _ => h3 ls H locs a b c' d') (fun z => absurd hc z)⟩
  · rw [if_neg hc] at h
    obtain ⟨h1, h2, h3⟩ := kf hc r u h
    exact ⟨h1, h2, fun ls H locs a b c' d' => lv_if_gt hx hb hd ht (fun z => absurd z hc) (fun _ => h3 ls H locs a b c' d')⟩
theorem J_if_le {x : Int32} {off : Int} {tgt : Nat} {o1 o2 : Option (ρ × υ)} (hX : Ok X l G cc nL ret own) (hd : decode cc pc = .ok (.ifCond .le off, 3)) (ht : (pc : Int) + off = (tgt : Int)) (kt : x ≤ 0 → J X G nL d y0 em rv tp tgt L st m o1) (kf : ¬ x ≤ 0 → J X G nL d y0 em rv tp (pc + 3) L st m o2) : J X G nL d y0 em rv tp pc L (.int x :: st) m (if x ≤ 0 then o1 else o2) := by
  obtain ⟨p, l', e, s, mi, args, below, meth, c⟩ := X
  obtain ⟨rfl, hx, hb, hml, hr, hown, hlk, hK⟩ := hX
  intro r u h
  by_cases hc : x ≤ 0
  · rw [if_pos hc] at h
    obtain ⟨h1, h2, h3⟩ := kt hc r u h
    exact ⟨h1, h2, fun ls H locs a b c' d' => lv_if_le hx hb hd ht (fun _ => h3 ls H locs a b c' d') (fun z => absurd hc z)⟩
  · rw [if_neg hc] at h
    obtain ⟨h1, h2, h3⟩ := kf hc r u h
    exact ⟨h1, h2, fun ls H locs a b c' d' => lv_if_le hx hb hd ht (fun z => absurd z hc) (fun _ => h3 ls H locs a b c' d')⟩
theorem J_icmp_eq {x y : Int32} {off : Int} {tgt : Nat} {o1 o2 : Option (ρ × υ)} (hX : Ok X l G cc nL ret own) (hd : decode cc pc = .ok (.if_icmp .eq off, 3)) (ht : (pc : Int) + off = (tgt : Int)) (kt : x = y → J X G nL d y0 em rv tp tgt L st m o1) (kf : ¬ x = y → J X G nL d y0 em rv tp (pc + 3) L st m o2) : J X G nL d y0 em rv tp pc L (.int y :: .int x :: st) m (if x = y then o1 else o2) := by
  obtain ⟨p, l', e, s, mi, args, below, meth, c⟩ := X
  obtain ⟨rfl, hx, hb, hml, hr, hown, hlk, hK⟩ := hX
  intro r u h
  by_cases hc : x = y
  · rw [if_pos hc] at h
    obtain ⟨h1, h2, h3⟩ := kt hc r u h
    exact ⟨h1, h2, fun ls H locs a b c' d' => lv_icmp_eq hx hb hd ht (fun _ => h3 ls H locs a b c' d') (fun z => absurd hc z)⟩
  · rw [if_neg hc] at h
    obtain ⟨h1, h2, h3⟩ := kf hc r u h
    exact ⟨h1, h2, fun ls H locs a b c' d' => lv_icmp_eq hx hb hd ht (fun z => absurd z hc) (fun _ => h3 ls H locs a b c' d')⟩
theorem J_icmp_ne {x y : Int32} {off : Int} {tgt : Nat} {o1 o2 : Option (ρ × υ)} (hX : Ok X l G cc nL ret own) (hd : decode cc pc = .ok (.if_icmp .ne off, 3)) (ht : (pc : Int) + off = (tgt : Int)) (kt : ¬ x = y → J X G nL d y0 em rv tp tgt L st m o1) (kf : x = y → J X G nL d y0 em rv tp (pc + 3) L st m o2) : J X G nL d y0 em rv tp pc L (.int y :: .int x :: st) m (if x = y then o2 else o1) := by
  obtain ⟨p, l', e, s, mi, args, below, meth, c⟩ := X
  obtain ⟨rfl, hx, hb, hml, hr, hown, hlk, hK⟩ := hX
  intro r u h
  by_cases hc : x = y
  · rw [if_pos hc] at h
    obtain ⟨h1, h2, h3⟩ := kf hc r u h
    exact ⟨h1, h2, fun ls H locs a b c' d' => lv_icmp_ne hx hb hd ht (fun z => absurd hc z) (fun _ => h3 ls H locs a b c' d')⟩
  · rw [if_neg hc] at h
    obtain ⟨h1, h2, h3⟩ := kt hc r u h
    exact ⟨h1, h2, fun ls H locs a b c' d' => lv_icmp_ne hx hb hd ht (fun _ => h3 ls H locs a b c' d') (fun z => absurd z hc)⟩
theorem J_icmp_lt {x y : Int32} {off : Int} {tgt : Nat} {o1 o2 : Option (ρ × υ)} (hX : Ok X l G cc nL ret own) (hd : decode cc pc = .ok (.if_icmp .lt off, 3)) (ht : (pc : Int) + off = (tgt : Int)) (kt : x < y → J X G nL d y0 em rv tp tgt L st m o1) (kf : ¬ x < y → J X G nL d y0 em rv tp (pc + 3) L st m o2) : J X G nL d y0 em rv tp pc L (.int y :: .int x :: st) m (if x < y then o1 else o2) := by
  obtain ⟨p, l', e, s, mi, args, below, meth, c⟩ := X
  obtain ⟨rfl, hx, hb, hml, hr, hown, hlk, hK⟩ := hX
  intro r u h
  by_cases hc : x < y
  · rw [if_pos hc] at h
    obtain ⟨h1, h2, h3⟩ := kt hc r u h
    exact ⟨h1, h2, fun ls H locs a b c' d' => lv_icmp_lt hx hb hd ht (fun _ => h3 ls H locs a b c' d') (fun z => absurd hc z)⟩
  · rw [if_neg hc] at h
    obtain ⟨h1, h2, h3⟩ := kf hc r u h
    exact ⟨h1, h2, fun ls H locs a b c' d' => lv_icmp_lt hx hb hd ht (fun z => absurd z hc) (fun _ => h3 ls H locs a b c' d')⟩
theorem J_icmp_ge {x y : Int32} {off : Int} {tgt : Nat} {o1 o2 : Option (ρ × υ)} (hX : Ok X l G cc nL ret own) (hd : decode cc pc = .ok (.if_icmp .ge off, 3)) (ht : (pc : Int) + off = (tgt : Int)) (kt : y ≤ x → J X G nL d y0 em rv tp tgt L st m o1) (kf : ¬ y ≤ x → J X G nL d y0 em rv tp (pc + 3) L st m o2) : J X G nL d y0 em rv tp pc L (.int y :: .int x :: st) m (if y ≤ x then o1 else o2) := by
  obtain ⟨p, l', e, s, mi, args, below, meth, c⟩ := X
  obtain ⟨rfl, hx, hb, hml, hr, hown, hlk, hK⟩ := hX
  intro r u h
  by_cases hc : y ≤ x
  · rw [if_pos hc] at h
    obtain ⟨h1, h2, h3⟩ := kt hc r u h
    exact ⟨h1, h2, fun ls H locs a b c' d' => lv_icmp_ge hx hb hd ht (fun _ => h3 ls H locs a b c' d') (fun z => absurd hc z)⟩
  · rw [if_neg hc] at h
    obtain ⟨h1, h2, h3⟩ := kf hc r u h
    exact ⟨h1, h2, fun ls H locs a b c' d' => lv_icmp_ge hx hb hd ht (fun z => absurd z hc) (fun _ => h3 ls H locs a b c' d')⟩
theorem J_icmp_gt {x y : Int32} {off : Int} {tgt : Nat} {o1 o2 : Option (ρ × υ)} (hX : Ok X l G cc nL ret own) (hd : decode cc pc = .ok (.if_icmp .gt off, 3)) (ht : (pc : Int) + off = (tgt : Int)) (kt : y < x → J X G nL d y0 em rv tp tgt L st m o1) (kf : ¬ y < x → J X G nL d y0 em rv tp (pc + 3) L st m o2) : J X G nL d y0 em rv tp pc L (.int y :: .int x :: st) m (if y < x then o1 else o2) := by
  obtain ⟨p, l', e, s, mi, args, below, meth, c⟩ := X
  obtain ⟨rfl, hx, hb, hml, hr, hown, hlk, hK⟩ := hX
  intro r u h
  by_cases hc : y < x
  · rw [if_pos hc] at h
    obtain ⟨h1, h2, h3⟩ := kt hc r u h
    exact ⟨h1, h2, fun ls H locs a b c' d' => lv_icmp_gt hx hb hd ht (fun _ => h3 ls H locs a b c' d') (fun z => absurd hc z)⟩
  · rw [if_neg hc] at h
    obtain ⟨h1, h2, h3⟩ := kf hc r u h
    exact ⟨h1, h2, fun ls H locs a b c' d' => lv_icmp_gt hx hb hd ht (fun z => absurd z hc) (fun _ => h3 ls H locs a b c' d')⟩
theorem J_icmp_le {x y : Int32} {off : Int} {tgt : Nat} {o1 o2 : Option (ρ × υ)} (hX : Ok X l G cc nL ret own) (hd : decode cc pc = .ok (.if_icmp .le off, 3)) (ht : (pc : Int) + off = (tgt : Int)) (kt : x ≤ y → J X G nL d y0 em rv tp tgt L st m o1) (kf : ¬ x ≤ y → J X G nL d y0 em rv tp (pc + 3) L st m o2) : J X G nL d y0 em rv tp pc L (.int y :: .int x :: st) m (if x ≤ y then o1 else o2) := by
  obtain ⟨p, l', e, s, mi, args, below, meth, c⟩ := X
  obtain ⟨rfl, hx, hb, hml, hr, hown, hlk, hK⟩ := hX
  intro r u h
  by_cases hc : x ≤ y
  · rw [if_pos hc] at h
    obtain ⟨h1, h2, h3⟩ := kt hc r u h
    exact ⟨h1, h2, fun ls H locs a b c' d' => lv_icmp_le hx hb hd ht (fun _ => h3 ls H locs a b c' d') (fun z => absurd hc z)⟩
  · rw [if_neg hc] at h
    obtain ⟨h1, h2, h3⟩ := kf hc r u h
    exact ⟨h1, h2, fun ls H locs a b c' d' => lv_icmp_le hx hb hd ht (fun z => absurd z hc) (fun _ => h3 ls H locs a b c' d')⟩
theorem J_goto {off : Int} {tgt : Nat} (hX : Ok X l G cc nL ret own) (hd : decode cc pc = .ok (.goto off, 3)) (ht : (pc : Int) + off = (tgt : Int)) (k : J X G nL d y0 em rv tp tgt L st m o) : J X G nL d y0 em rv tp pc L st m o := by
  obtain ⟨p, l', e, s, mi, args, below, meth, c⟩ := X
  obtain ⟨rfl, hx, hb, hml, hr, hown, hlk, hK⟩ := hX
  intro r u h
  obtain ⟨h1, h2, h3⟩ := k r u h
  exact ⟨h1, h2, fun ls H locs a b c' d' => lv_goto hx hb hd ht (h3 ls H locs a b c' d')⟩
theorem J_ifnonnullR {x : Nat} {off : Int} {tgt : Nat} (hX : Ok X l G cc nL ret own) (hd : decode cc pc = .ok (.ifnonnull off, 3)) (ht : (pc : Int) + off = (tgt : Int)) (k : J X G nL d y0 em rv tp tgt L st m o) : J X G nL d y0 em rv tp pc L (.ref x :: st) m o := by
  obtain ⟨p, l', e, s, mi, args, below, meth, c⟩ := X
  obtain ⟨rfl, hx, hb, hml, hr, hown, hlk, hK⟩ := hX
  intro r u h
  obtain ⟨h1, h2, h3⟩ := k r u h
  exact ⟨h1, h2, fun ls H locs a b c' d' => lv_ifnonnull hx hb hd ht (h3 ls H locs a b c' d')⟩
theorem J_ifnonnullN {off : Int} (hX : Ok X l G cc nL ret own) (hd : decode cc pc = .ok (.ifnonnull off, 3)) (k : J X G nL d y0 em rv tp (pc + 3) L st m o) : J X G nL d y0 em rv tp pc L (.null :: st) m o := by
  obtain ⟨p, l', e, s, mi, args, below, meth, c⟩ := X
  obtain ⟨rfl, hx, hb, hml, hr, hown, hlk, hK⟩ := hX
  intro r u h
  obtain ⟨h1, h2, h3⟩ := k r u h
  exact ⟨h1, h2, fun ls H locs a b c' d' => lv_ifnonnullN hx hb hd (h3 ls H locs a b c' d')⟩
theorem J_sub (ks : List Nat) (L' : List (Nat × Value)) (hl : lv_pick L ks = L') (k : J X G nL d y0 em rv tp pc L' st m o) : J X G nL d y0 em rv tp pc L st m o := by
  obtain ⟨p, l', e, s, mi, args, below, meth, c⟩ := X
  intro r u h
  obtain ⟨h1, h2, h3⟩ := k r u h
  exact ⟨h1, h2, fun ls H locs a b c' d' => h3 ls H locs (lv_sub a ks hl) b c' d'⟩
end Rules
