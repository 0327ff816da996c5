/-! THE ABSTRACT MACHINE: a pure function that runs the methods' rows over numbers kept by ids; sound for the real machine (parts 05 ..). A value is a number or null (.inl), or a thing (.inr (kind, n, m, id)): kinds 0..12 an object of the class of that number, 20 int[n], 21 byte[n], 22 long[n], 23 boolean[n], 24 int[n][m] (rows at id + 1 ..), 25 Ledger[n], 30 a text, 31 the script, 32 a static row, 99 nothing known. -/
abbrev ab_V : Type := Value ⊕ (Nat × Nat × Nat × Nat)
/-- the numbers: ints, longs, references to ledgers by (id, place); the kind of an id; ids in use; cells and slots made so far -/
abbrev ab_M : Type := (Nat → Nat → Int32) × (Nat → Nat → Int64) × (Nat → Nat → Option Nat) × (Nat → Nat × Nat × Nat) × Nat × Nat × Nat
abbrev ab_I (M : ab_M) : Nat → Nat → Int32 := M.1
abbrev ab_L (M : ab_M) : Nat → Nat → Int64 := M.2.1
abbrev ab_R (M : ab_M) : Nat → Nat → Option Nat := M.2.2.1
abbrev ab_S (M : ab_M) : Nat → Nat × Nat × Nat := M.2.2.2.1
abbrev ab_n (M : ab_M) : Nat := M.2.2.2.2.1
abbrev ab_cc (M : ab_M) : Nat := M.2.2.2.2.2.1
abbrev ab_ss (M : ab_M) : Nat := M.2.2.2.2.2.2
abbrev ab_i (x : Int32) : ab_V := .inl (.int x)
abbrev ab_l (x : Int64) : ab_V := .inl (.long x)
abbrev ab_top : ab_V := .inr (99, 0, 0, 0)
def ab_upI (f : Nat → Nat → Int32) (a i : Nat) (x : Int32) : Nat → Nat → Int32 := fun b => if b = a then upd (f a) i x else f b
def ab_upL (f : Nat → Nat → Int64) (a i : Nat) (x : Int64) : Nat → Nat → Int64 := fun b => if b = a then vp_updL (f a) i x else f b
def ab_upR (f : Nat → Nat → Option Nat) (a i : Nat) (x : Option Nat) : Nat → Nat → Option Nat := fun b => if b = a then va_up (f a) i x else f b
def ab_setI (M : ab_M) (a i : Nat) (x : Int32) : ab_M := (ab_upI M.1 a i x, M.2)
def ab_setL (M : ab_M) (a i : Nat) (x : Int64) : ab_M := (M.1, ab_upL M.2.1 a i x, M.2.2)
def ab_setR (M : ab_M) (a i : Nat) (x : Option Nat) : ab_M := (M.1, M.2.1, ab_upR M.2.2.1 a i x, M.2.2.2)
/-- the fields of a class by their kinds: 0 an int, 1 a long, 2 a reference -/
def ab_lay : Nat → List Nat := fun k => match k with
  | 0 => [2, 2, 0, 2, 2, 2, 2, 0, 2, 2, 2, 2, 0, 1]
  | 1 => [2, 2, 2, 2, 2, 2, 0, 0, 2, 2, 2]
  | 2 => [2, 2, 2, 2, 2, 0, 0]
  | 3 => [2, 0, 2, 2, 2, 2, 0]
  | 4 => [2, 2, 2, 2, 2, 0]
  | 5 => [2, 0, 2]
  | 6 => [2, 2, 0, 0]
  | 7 => [2, 2, 2, 0, 0]
  | 8 => [2, 2, 2]
  | 9 => [2, 0, 0, 0, 0, 0, 0]
  | 10 => [2, 2, 2, 2, 2, 0, 0, 0, 0]
  | 11 => [2, 2, 2, 2, 2, 2, 2, 2, 2, 2, 2, 2, 2, 2, 2]
  | 12 => [0, 0, 0, 0, 0, 0, 0, 0, 0, 2, 2, 2, 2, 2, 2, 2, 0, 0, 2, 2, 2, 2, 2, 2, 2, 2, 2, 2, 2, 0, 0, 0, 0, 0, 2, 2, 2, 2, 0, 2, 2, 2, 2, 0, 0]
  | _ => []
/-- what the reference field j of an object of class k at id holds, once it is made -/
def ab_wire (k id j : Nat) : ab_V := match k with
  | 0 => match j with
    | 0 => .inr (20, 8, 0, id + 1)
    | 1 => .inr (20, 8, 0, id + 2)
    | 3 => .inr (20, 16, 0, id + 3)
    | 4 => .inr (20, 16, 0, id + 4)
    | 5 => .inr (20, 16, 0, id + 5)
    | 6 => .inr (20, 16, 0, id + 6)
    | 8 => .inr (23, 8, 0, id + 7)
    | 9 => .inr (20, 8, 0, id + 8)
    | 10 => .inr (20, 136, 0, id + 9)
    | 11 => .inr (20, 136, 0, id + 10)
    | _ => .inl .null
  | 1 => match j with
    | 0 => .inr (10, 0, 0, 3)
    | 1 => .inr (6, 0, 0, 43)
    | 2 => .inr (4, 0, 0, 46)
    | 3 => .inr (20, 256, 0, 55)
    | 4 => .inr (20, 256, 0, 56)
    | 5 => .inr (20, 8, 0, 57)
    | 8 => .inr (20, 64, 0, 58)
    | 9 => .inr (20, 8, 0, 59)
    | 10 => .inr (20, 2304, 0, 60)
    | _ => .inl .null
  | 2 => match j with
    | 0 => .inr (10, 0, 0, 3)
    | 1 => .inr (6, 0, 0, 43)
    | 2 => .inr (4, 0, 0, 46)
    | 3 => .inr (8, 0, 0, 49)
    | 4 => .inr (20, 120, 0, 53)
    | _ => .inl .null
  | 3 => match j with
    | 0 => .inr (25, 20, 0, 66)
    | 2 => .inr (25, 3, 0, 67)
    | 3 => .inr (25, 60, 0, 68)
    | 4 => .inr (20, 3, 0, 69)
    | 5 => .inr (20, 3, 0, 70)
    | _ => .inl .null
  | 4 => match j with
    | 0 => .inr (10, 0, 0, 3)
    | 1 => .inr (5, 0, 0, 15)
    | 2 => .inr (6, 0, 0, 43)
    | 3 => .inr (20, 8, 0, 47)
    | 4 => .inr (20, 40, 0, 48)
    | _ => .inl .null
  | 5 => match j with
    | 0 => .inr (20, 150, 0, id + 1)
    | 2 => .inr (20, 32, 0, id + 2)
    | _ => .inl .null
  | 6 => match j with
    | 0 => .inr (20, 360, 0, id + 1)
    | 1 => .inr (20, 5, 0, id + 2)
    | _ => .inl .null
  | 7 => match j with
    | 0 => .inr (10, 0, 0, 3)
    | 1 => .inr (6, 0, 0, 43)
    | 2 => .inr (6, 0, 0, 62)
    | _ => .inl .null
  | 8 => match j with
    | 0 => .inr (6, 0, 0, 43)
    | 1 => .inr (22, 313, 0, 50)
    | 2 => .inr (22, 1000, 0, 51)
    | _ => .inl .null
  | 9 => match j with
    | 0 => .inr (21, 600, 0, 2)
    | _ => .inl .null
  | 10 => match j with
    | 0 => .inr (20, 8, 0, id + 1)
    | 1 => .inr (20, 24, 0, id + 2)
    | 2 => .inr (20, 24, 0, id + 3)
    | 3 => .inr (20, 24, 0, id + 4)
    | 4 => .inr (20, 24, 0, id + 5)
    | _ => .inl .null
  | 11 => match j with
    | 0 => .inr (9, 0, 0, 1)
    | 1 => .inr (10, 0, 0, 3)
    | 2 => .inr (10, 0, 0, 9)
    | 3 => .inr (5, 0, 0, 15)
    | 4 => .inr (5, 0, 0, 18)
    | 5 => .inr (0, 0, 0, 21)
    | 6 => .inr (0, 0, 0, 32)
    | 7 => .inr (6, 0, 0, 43)
    | 8 => .inr (4, 0, 0, 46)
    | 9 => .inr (8, 0, 0, 49)
    | 10 => .inr (2, 0, 0, 52)
    | 11 => .inr (1, 0, 0, 54)
    | 12 => .inr (7, 0, 0, 61)
    | 13 => .inr (3, 0, 0, 65)
    | 14 => .inr (20, 3, 0, 71)
    | _ => .inl .null
  | 12 => match j with
    | 9 => .inr (20, 600, 0, 73)
    | 10 => .inr (20, 3, 0, 74)
    | 11 => .inr (20, 4, 0, 75)
    | 12 => .inr (20, 4, 0, 76)
    | 13 => .inr (20, 8, 0, 77)
    | 14 => .inr (20, 8, 0, 78)
    | 15 => .inr (24, 24, 4, 79)
    | 18 => .inr (24, 160, 2, 104)
    | 19 => .inr (24, 160, 2, 265)
    | 20 => .inr (24, 8, 2, 426)
    | 21 => .inr (24, 8, 2, 435)
    | 22 => .inr (24, 30, 4, 444)
    | 23 => .inr (20, 160, 0, 475)
    | 24 => .inr (20, 8, 0, 476)
    | 25 => .inr (20, 366, 0, 477)
    | 26 => .inr (20, 366, 0, 478)
    | 27 => .inr (24, 20, 366, 479)
    | 28 => .inr (24, 3, 7688, 500)
    | 34 => .inr (24, 41, 1000, 504)
    | 35 => .inr (23, 20000, 0, 546)
    | 36 => .inr (20, 256, 0, 547)
    | 37 => .inr (20, 256, 0, 548)
    | 39 => .inr (24, 9, 256, 549)
    | 40 => .inr (24, 8, 8, 559)
    | 41 => .inr (20, 16, 0, 568)
    | 42 => .inr (20, 4, 0, 569)
    | _ => .inl .null
  | _ => .inl .null

/-- the real value of an abstract one: things at ad, static ones at sa -/
def ab_cv (ad sa : Nat → Nat) (v : ab_V) : Value := match v with
  | .inl x => x
  | .inr (k, _, _, id) => if k < 30 then .ref (ad id) else .ref (sa id)
/-- field j of the object of class k at id -/
def ab_fld (ad sa : Nat → Nat) (M : ab_M) (k id j : Nat) : Value := match (ab_lay k)[j]? with
  | some 0 => .int (M.1 id j)
  | some 1 => .long (M.2.1 id j)
  | _ => ab_cv ad sa (ab_wire k id j)
def ab_fs (ad sa : Nat → Nat) (M : ab_M) (k id : Nat) : List Value := (List.range (ab_lay k).length).map (ab_fld ad sa M k id)
/-- what the cell of id holds -/
def ab_ent (cy : Nat → ClassId) (ad sa : Nat → Nat) (M : ab_M) (id : Nat) : va_E :=
  if (M.2.2.2.1 id).1 < 13 then .inr ((M.2.2.2.1 id).1, ab_fs ad sa M (M.2.2.2.1 id).1 id)
  else if (M.2.2.2.1 id).1 = 22 then .inl (cy 22, (M.2.2.2.1 id).2.1, .inr (.inl (M.2.1 id)))
  else if (M.2.2.2.1 id).1 = 24 then .inl (cy 24, (M.2.2.2.1 id).2.1, .inr (.inr (.inr (.inr (fun i => if i < (M.2.2.2.1 id).2.1 then some (ad (id + 1 + i)) else none)))))
  else if (M.2.2.2.1 id).1 = 25 then .inl (cy 25, (M.2.2.2.1 id).2.1, .inr (.inr (.inr (.inr (fun i => (M.2.2.1 id i).map ad)))))
  else .inl (cy (M.2.2.2.1 id).1, (M.2.2.2.1 id).2.1, .inl (M.1 id))
def ab_pool (cy : Nat → ClassId) (ad sa : Nat → Nat) (M : ab_M) : va_W := (List.range M.2.2.2.2.1).map (fun id => (ad id, ab_ent cy ad sa M id))
abbrev ab_cls : List vw_C := [(RX0, TX0, 14), (RX1, TX1, 11), (RX2, TX2, 7), (RX3, TX3, 7), (RX4, TX4, 6), (RX5, TX5, 3), (RX6, TX6, 4), (RX7, TX7, 5), (RX8, TX8, 3), (RX9, TX9, 7), (RX10, TX10, 9), (RX11, TX11, 15), (RX12, TX12, 45)]
abbrev ab_tys (cy : Nat → ClassId) : List (ClassId × FieldType) := [(cy 20, .int), (cy 21, .byte), (cy 22, .long), (cy 23, .boolean), (cy 24, .array .int), (cy 25, .object RX6)]
/-- a value that may stand: numbers and null; things that are there, of their kind -/
def ab_ok (M : ab_M) (v : ab_V) : Prop := match v with
  | .inl (.int _) => True
  | .inl (.long _) => True
  | .inl .null => True
  | .inl _ => False
  | .inr (k, n, m, id) => k < 30 → id < M.2.2.2.2.1 ∧ M.2.2.2.1 id = (k, n, m)
/-- all references that the things hold are good ones -/
def ab_WF (M : ab_M) : Prop := ∀ id, id < M.2.2.2.2.1 →
  ((M.2.2.2.1 id).1 < 13 → ∀ j, (ab_lay (M.2.2.2.1 id).1)[j]? = some 2 → ab_ok M (ab_wire (M.2.2.2.1 id).1 id j)) ∧
  ((M.2.2.2.1 id).1 = 24 → ∀ i, i < (M.2.2.2.1 id).2.1 → ab_ok M (.inr (20, (M.2.2.2.1 id).2.2, 0, id + 1 + i))) ∧
  ((M.2.2.2.1 id).1 = 25 → ∀ i r, M.2.2.1 id i = some r → ab_ok M (.inr (6, 0, 0, r))) ∧
  ((M.2.2.2.1 id).1 < 13 ∨ (20 ≤ (M.2.2.2.1 id).1 ∧ (M.2.2.2.1 id).1 ≤ 25))
/-- the addresses are apart, none is older than h0 -/
def ab_Ad (h0 : Nat) (ad : Nat → Nat) (M : ab_M) : Prop := (∀ i j, i < M.2.2.2.2.1 → j < M.2.2.2.2.1 → ad i = ad j → i = j) ∧ ∀ i, i < M.2.2.2.2.1 → h0 ≤ ad i
theorem ab_pool_at {cy : Nat → ClassId} {ad sa : Nat → Nat} {M : ab_M} {id : Nat} (h : id < M.2.2.2.2.1) : (ab_pool cy ad sa M)[id]? = some (ad id, ab_ent cy ad sa M id) := by
  simp [ab_pool, List.getElem?_map, List.getElem?_range h]
theorem ab_pool_D {h0 : Nat} {cy : Nat → ClassId} {ad sa : Nat → Nat} {M : ab_M} (h : ab_Ad h0 ad M) : va_D (fun q => h0 ≤ q) (ab_pool cy ad sa M) := by
  have key : ∀ (i : Nat) (p : Nat × va_E), (ab_pool cy ad sa M)[i]? = some p → i < M.2.2.2.2.1 ∧ p.1 = ad i := by
    intro i p hp
    have hi : i < M.2.2.2.2.1 := by
      have := (List.getElem?_eq_some_iff.mp hp).1
      simpa [ab_pool] using this
    rw [ab_pool_at hi] at hp
    cases hp
    exact ⟨hi, rfl⟩
  refine ⟨fun i j p q hp hq e => ?_, fun k q hq => ?_⟩
  · obtain ⟨a1, a2⟩ := key i p hp
    obtain ⟨b1, b2⟩ := key j q hq
    exact h.1 i j a1 b1 (by rw [← a2, ← b2, e])
  · obtain ⟨a1, a2⟩ := key k q hq
    show h0 ≤ q.1
    rw [a2]
    exact h.2 k a1
/-- one cell is another, the rest of the numbers as they were -/
theorem ab_pool_set {cy : Nat → ClassId} {ad sa : Nat → Nat} {M M' : ab_M} {id : Nat} {e : va_E} (hn : M'.2.2.2.2.1 = M.2.2.2.2.1) (he : ab_ent cy ad sa M' id = e) (ho : ∀ j, j ≠ id → ab_ent cy ad sa M' j = ab_ent cy ad sa M j) : (ab_pool cy ad sa M).set id (ad id, e) = ab_pool cy ad sa M' := by
  apply List.ext_getElem?
  intro i
  rw [List.getElem?_set]
  by_cases h : i < M.2.2.2.2.1
  · have h' : i < M'.2.2.2.2.1 := by rw [hn]; exact h
    rw [ab_pool_at h', ab_pool_at h]
    by_cases hi : id = i
    · subst hi
      simp [ab_pool, h, he]
    · simp [hi, ho i (fun q => hi q.symm)]
  · have h1 : (ab_pool cy ad sa M)[i]? = none := by simp [ab_pool]; omega
    have h2 : (ab_pool cy ad sa M')[i]? = none := by simp [ab_pool, hn]; omega
    rw [h1, h2]
    by_cases hi : id = i
    · subst hi
      simp [ab_pool, h]
    · simp [hi]
