/-! L3: HULL, the walk round and the sum over all -/
def edB (n : Nat) (X Y : Nat → Int) (a b : Nat) : Bool := decide (∀ p, p < n → p ≠ a → p ≠ b → 0 < crI X Y a b p ∨ (crI X Y a b p = 0 ∧ dotI X Y a b p < 0))
theorem edB_iff {n : Nat} {X Y : Nat → Int} {a b : Nat} : edB n X Y a b = true ↔ EdgI n X Y a b := decide_eq_true_iff
def smG (g : Nat → Int32) : Nat → Int32
  | 0 => 0
  | k + 1 => smG g k + g k
def smN (g : Nat → Nat) : Nat → Nat
  | 0 => 0
  | k + 1 => smN g k + g k
theorem smG_split {g h : Nat → Int32} {c : Nat} {v : Int32} : ∀ n, (∀ a, a < n → g a = (if a = c then v else 0) + h a) → smG g n = (if c < n then v else 0) + smG h n := by
  intro n
  induction n with
  | zero => intro _; show (0 : Int32) = (if c < 0 then v else 0) + 0; rw [if_neg (by omega)]; rfl
  | succ n ih =>
    intro hh
    show smG g n + g n = _ + (smG h n + h n)
    rw [ih (fun a ha => hh a (by omega)), hh n (by omega)]
    by_cases y : c = n
    · subst y; rw [if_neg (by omega), if_pos rfl, if_pos (by omega)]; grind
    · by_cases z : c < n
      · rw [if_pos z, if_neg (fun q => y q.symm), if_pos (by omega)]; grind
      · rw [if_neg z, if_neg (fun q => y q.symm), if_neg (by omega)]; grind
theorem smN_split {g h : Nat → Nat} {c v : Nat} : ∀ n, (∀ a, a < n → g a = (if a = c then v else 0) + h a) → smN g n = (if c < n then v else 0) + smN h n := by
  intro n
  induction n with
  | zero => intro _; show 0 = (if c < 0 then v else 0) + 0; rw [if_neg (by omega)]
  | succ n ih =>
    intro hh
    show smN g n + g n = _ + (smN h n + h n)
    rw [ih (fun a ha => hh a (by omega)), hh n (by omega)]
    by_cases y : c = n
    · subst y; rw [if_neg (by omega), if_pos rfl, if_pos (by omega)]; omega
    · by_cases z : c < n
      · rw [if_pos z, if_neg (fun q => y q.symm), if_pos (by omega)]; omega
      · rw [if_neg z, if_neg (fun q => y q.symm), if_neg (by omega)]; omega
theorem smG_zero : ∀ n, smG (fun _ => 0) n = 0 := by
  intro n
  induction n with
  | zero => rfl
  | succ n ih => show smG (fun _ => 0) n + 0 = 0; rw [ih]; rfl
theorem smN_zero : ∀ n, smN (fun _ => 0) n = 0 := by
  intro n
  induction n with
  | zero => rfl
  | succ n ih => show smN (fun _ => 0) n + 0 = 0; rw [ih]
theorem smN_le {g : Nat → Nat} (h : ∀ a, g a ≤ 1) : ∀ n, smN g n ≤ n := by
  intro n
  induction n with
  | zero => exact Nat.le_refl _
  | succ n ih => show smN g n + g n ≤ n + 1; have := h n; omega
/-- the corners that a walk from c still meets before it is at s again -/
def ttB (n : Nat) (X Y : Nat → Int) (s c a : Nat) : Bool := edB n X Y a (bstI X Y a n) && (decide (c = s) || (decide (a ≠ s) && decide (0 ≤ crI X Y s c a)))
def wG (n : Nat) (X Y : Nat → Int) (s : Nat) (g : Nat → Int32) (c : Nat) : Int32 := smG (fun a => if ttB n X Y s c a = true then g a else 0) n
def wN (n : Nat) (X Y : Nat → Int) (s c : Nat) : Nat := smN (fun a => if ttB n X Y s c a = true then 1 else 0) n
theorem tt_step {n : Nat} {X Y : Nat → Int} {s c a : Nat} (hn : 2 ≤ n) (hd : DisI n X Y) (hB : BndI n X Y) (hs : s < n) (hc : c < n) (ha : a < n) (hS : ExpI n X Y s) (hC : ExpI n X Y c) : (ttB n X Y s c a = true ↔ (a = c ∨ (bstI X Y c n ≠ s ∧ ttB n X Y s (bstI X Y c n) a = true))) ∧ (a = c → bstI X Y c n ≠ s → ttB n X Y s (bstI X Y c n) a = false) := by
  have hE := next_edge hn hc hd hC
  obtain ⟨b1, b2⟩ := bst_ne (X := X) (Y := Y) (c := c) hn n (Nat.le_refl _)
  generalize bstI X Y c n = b at *
  have hex : ∀ a, a < n → edB n X Y a (bstI X Y a n) = true → ExpI n X Y a := fun a ha h => by
    obtain ⟨q1, q2⟩ := bst_ne (X := X) (Y := Y) (c := a) hn n (Nat.le_refl _)
    exact exp_tail ha q2 (fun z => q1 z.symm) hd hB (edB_iff.mp h)
  have hcc : edB n X Y c (bstI X Y c n) = true := edB_iff.mpr (next_edge hn hc hd hC)
  have iff : ∀ c a, ttB n X Y s c a = true ↔ (edB n X Y a (bstI X Y a n) = true ∧ (c = s ∨ (a ≠ s ∧ 0 ≤ crI X Y s c a))) := fun c a => by
    unfold ttB
    rw [Bool.and_eq_true, Bool.or_eq_true, Bool.and_eq_true, decide_eq_true_iff, decide_eq_true_iff, decide_eq_true_iff]
  have fal : ∀ {t : Bool}, ¬ t = true → t = false := fun {t} h => by cases t; rfl; exact absurd rfl h
  by_cases z : c = s
  · subst z
    refine ⟨⟨fun h => ?_, fun h => ?_⟩, fun h hb => fal (fun q => ?_)⟩
    · by_cases y : a = c
      · exact Or.inl y
      · refine Or.inr ⟨b1, (iff _ _).mpr ⟨((iff _ _).mp h).1, Or.inr ⟨y, ?_⟩⟩⟩
        by_cases w : a = b
        · subst w; rw [cr_qq]; exact Int.le_refl _
        · rcases hE a ha y w with q | q <;> omega
    · rcases h with rfl | ⟨_, h⟩
      · exact (iff _ _).mpr ⟨hcc, Or.inl rfl⟩
      · exact (iff _ _).mpr ⟨((iff _ _).mp h).1, Or.inl rfl⟩
    · subst h
      rcases ((iff _ _).mp q).2 with w | ⟨w, _⟩
      · exact b1 w
      · exact w rfl
  · refine ⟨⟨fun h => ?_, fun h => ?_⟩, fun h hb => fal (fun q => ?_)⟩
    · obtain ⟨h1, h2⟩ := (iff _ _).mp h
      rcases h2 with h2 | ⟨h2, h3⟩
      · exact absurd h2 z
      · by_cases y : a = c
        · exact Or.inl y
        · right
          by_cases w : b = s
          · subst w; exact absurd h3 (edge_last hE hc b2 ha (hex a ha h1) h2 y)
          · exact ⟨w, (iff _ _).mpr ⟨h1, Or.inr ⟨h2, edge_gap hE hc b2 hs ha (hex a ha h1) h2 y w h3⟩⟩⟩
    · rcases h with rfl | ⟨w, h⟩
      · exact (iff _ _).mpr ⟨hcc, Or.inr ⟨z, by rw [cr_qq]; exact Int.le_refl _⟩⟩
      · obtain ⟨h1, h2⟩ := (iff _ _).mp h
        rcases h2 with h2 | ⟨h2, h3⟩
        · exact absurd h2 w
        · exact (iff _ _).mpr ⟨h1, Or.inr ⟨h2, Int.le_of_lt (round_trans hS hc b2 ha z w h2 (edge_round hs hE hS hc b2 (fun q => z q.symm) (fun q => w q.symm)) h3)⟩⟩
    · subst h
      rcases ((iff _ _).mp q).2 with w | ⟨w, w2⟩
      · exact hb w
      · have := edge_round hs hE hS hc b2 (fun q => z q.symm) (fun q => hb q.symm)
        have := cr_anti X Y s a b
        omega
theorem w_step {n : Nat} {X Y : Nat → Int} {s c : Nat} (hn : 2 ≤ n) (hd : DisI n X Y) (hB : BndI n X Y) (hs : s < n) (hc : c < n) (hS : ExpI n X Y s) (hC : ExpI n X Y c) (g : Nat → Int32) : wG n X Y s g c = g c + (if bstI X Y c n = s then 0 else wG n X Y s g (bstI X Y c n)) ∧ wN n X Y s c = 1 + (if bstI X Y c n = s then 0 else wN n X Y s (bstI X Y c n)) := by
  have h := fun a ha => tt_step (a := a) hn hd hB hs hc ha hS hC
  generalize bstI X Y c n = b at *
  constructor
  · unfold wG
    by_cases z : b = s
    · rw [if_pos z, smG_split (c := c) (v := g c) (h := fun _ => 0) n (fun a ha => ?_), if_pos hc, smG_zero]
      have := (h a ha).1
      by_cases y : a = c
      · rw [if_pos (this.mpr (Or.inl y)), if_pos y, y]; grind
      · rw [if_neg (fun q => by rcases this.mp q with w | w; exact y w; exact w.1 z), if_neg y]; rfl
    · rw [if_neg z, smG_split (c := c) (v := g c) (h := fun a => if ttB n X Y s b a = true then g a else 0) n (fun a ha => ?_), if_pos hc]
      have h1 := (h a ha).1
      have h2 := (h a ha).2
      by_cases y : a = c
      · rw [if_pos (h1.mpr (Or.inl y)), if_pos y, h2 y z, if_neg (by decide), y]; grind
      · rw [if_neg y]
        by_cases w : ttB n X Y s b a = true
        · rw [if_pos w, if_pos (h1.mpr (Or.inr ⟨z, w⟩))]; grind
        · rw [if_neg w, if_neg (fun q => by rcases h1.mp q with w' | w'; exact y w'; exact w w'.2)]; rfl
  · unfold wN
    by_cases z : b = s
    · rw [if_pos z, smN_split (c := c) (v := 1) (h := fun _ => 0) n (fun a ha => ?_), if_pos hc, smN_zero]
      have := (h a ha).1
      by_cases y : a = c
      · rw [if_pos (this.mpr (Or.inl y)), if_pos y]
      · rw [if_neg (fun q => by rcases this.mp q with w | w; exact y w; exact w.1 z), if_neg y]
    · rw [if_neg z, smN_split (c := c) (v := 1) (h := fun a => if ttB n X Y s b a = true then 1 else 0) n (fun a ha => ?_), if_pos hc]
      have h1 := (h a ha).1
      have h2 := (h a ha).2
      by_cases y : a = c
      · rw [if_pos (h1.mpr (Or.inl y)), if_pos y, h2 y z, if_neg (by decide)]
      · rw [if_neg y]
        by_cases w : ttB n X Y s b a = true
        · rw [if_pos w, if_pos (h1.mpr (Or.inr ⟨z, w⟩))]
        · rw [if_neg w, if_neg (fun q => by rcases h1.mp q with w' | w'; exact y w'; exact w w'.2)]
theorem w_all {n : Nat} {X Y : Nat → Int} {s : Nat} (g : Nat → Int32) : wG n X Y s g s = smG (fun a => if edB n X Y a (bstI X Y a n) = true then g a else 0) n := by
  unfold wG
  congr 1
  funext a
  unfold ttB
  rw [decide_eq_true (rfl : s = s), Bool.true_or, Bool.and_true]
theorem wN_le {n : Nat} {X Y : Nat → Int} {s c : Nat} : wN n X Y s c ≤ n := smN_le (fun a => by split <;> omega) n
