/-! THE ABSTRACT MACHINE. Its numbers are kept by ids. A value is a number or null (.inl), or a thing (.inr (kind, n, m, id)): kinds 0..12 an object of the class of that number, 20 int[n], 21 byte[n], 22 long[n], 23 boolean[n], 24 int[n][m] (rows at id + 1 ..), 25 Ledger[n]; 30 a text (n its number), 31 the script, 32 a static int row, 33 a text's bytes, 40 a thrown thing, 99 nothing known. -/
abbrev ab_V : Type := Value ⊕ (Nat × Nat × Nat × Nat)
/-- the numbers: ints, longs, references (kind, id, place); the kind of an id; ids in use; cells and slots made so far -/
abbrev ab_M : Type := (Nat → Nat → Int32) × (Nat → Nat → Int64) × (Nat → Nat → Nat → ab_V) × (Nat → Nat × Nat × Nat) × Nat × Nat × Nat
abbrev ab_I (M : ab_M) : Nat → Nat → Int32 := M.1
abbrev ab_L (M : ab_M) : Nat → Nat → Int64 := M.2.1
abbrev ab_R (M : ab_M) : Nat → Nat → Nat → ab_V := M.2.2.1
abbrev ab_S (M : ab_M) : Nat → Nat × Nat × Nat := M.2.2.2.1
abbrev ab_n (M : ab_M) : Nat := M.2.2.2.2.1
abbrev ab_cc (M : ab_M) : Nat := M.2.2.2.2.2.1
abbrev ab_ss (M : ab_M) : Nat := M.2.2.2.2.2.2
abbrev ab_i (x : Int32) : ab_V := .inl (.int x)
abbrev ab_l (x : Int64) : ab_V := .inl (.long x)
abbrev ab_nul : ab_V := .inl .null
abbrev ab_top : ab_V := .inr (99, 0, 0, 0)
def ab_upI (f : Nat → Nat → Int32) (a i : Nat) (x : Int32) : Nat → Nat → Int32 := fun b => if b = a then upd (f a) i x else f b
def ab_upL (f : Nat → Nat → Int64) (a i : Nat) (x : Int64) : Nat → Nat → Int64 := fun b => if b = a then vp_updL (f a) i x else f b
def ab_upR (f : Nat → Nat → Nat → ab_V) (k a i : Nat) (x : ab_V) : Nat → Nat → Nat → ab_V := fun k' b j => if k' = k ∧ b = a ∧ j = i then x else f k' b j
def ab_rowI (f : Nat → Nat → Int32) (a : Nat) (g : Nat → Int32) : Nat → Nat → Int32 := fun b => if b = a then g else f b
def ab_rowL (f : Nat → Nat → Int64) (a : Nat) (g : Nat → Int64) : Nat → Nat → Int64 := fun b => if b = a then g else f b
def ab_rowR (f : Nat → Nat → Nat → ab_V) (k a : Nat) (g : Nat → ab_V) : Nat → Nat → Nat → ab_V := fun k' b => if k' = k ∧ b = a then g else f k' b
def ab_upS (f : Nat → Nat × Nat × Nat) (a : Nat) (x : Nat × Nat × Nat) : Nat → Nat × Nat × Nat := fun b => if b = a then x else f b
abbrev ab_setI (M : ab_M) (a i : Nat) (x : Int32) : ab_M := (ab_upI M.1 a i x, M.2)
abbrev ab_setL (M : ab_M) (a i : Nat) (x : Int64) : ab_M := (M.1, ab_upL M.2.1 a i x, M.2.2)
abbrev ab_setR (M : ab_M) (k a i : Nat) (x : ab_V) : ab_M := (M.1, M.2.1, ab_upR M.2.2.1 k a i x, M.2.2.2)
/-- a new thing, all 0 and null -/
abbrev ab_new (M : ab_M) (x : Nat × Nat × Nat) (k : Nat) : ab_M := (ab_rowI M.1 M.2.2.2.2.1 (fun _ => 0), ab_rowL M.2.1 M.2.2.2.2.1 (fun _ => 0), ab_rowR M.2.2.1 x.1 M.2.2.2.2.1 (fun _ => ab_nul), ab_upS M.2.2.2.1 M.2.2.2.2.1 x, M.2.2.2.2.1 + 1, M.2.2.2.2.2.1 + 1, M.2.2.2.2.2.2 + k)
/-- the fields of a class by their kinds: 0 an int, 1 a long, 2 a reference -/
def ab_lay : Nat → List Nat := fun k => match k with
  | 0 => [2, 2, 0, 2, 2, 2, 2, 0, 2, 2, 2, 2, 0, 1]
  | 1 => [2, 2, 2, 2, 2, 2, 0, 0, 2, 2, 2]
  | 2 => [2, 2, 2, 2, 2, 0, 0]
  | 3 => [2, 0, 2, 2, 2, 2, 0]
  | 4 => [2, 2, 2, 2, 2, 0]
  | 5 => [2, 0, 2]
  | 6 => [2, 2, 0, 0]
  | 7 => [2, 2, 2, 0, 0]
  | 8 => [2, 2, 2]
  | 9 => [2, 0, 0, 0, 0, 0, 0]
  | 10 => [2, 2, 2, 2, 2, 0, 0, 0, 0]
  | 11 => [2, 2, 2, 2, 2, 2, 2, 2, 2, 2, 2, 2, 2, 2, 2]
  | 12 => [0, 0, 0, 0, 0, 0, 0, 0, 0, 2, 2, 2, 2, 2, 2, 2, 0, 0, 2, 2, 2, 2, 2, 2, 2, 2, 2, 2, 2, 0, 0, 0, 0, 0, 2, 2, 2, 2, 0, 2, 2, 2, 2, 0, 0]
  | _ => []

/-- the real value of an abstract one: things at ad, static ones at sa, thrown ones by themselves -/
def ab_cv (ad sa : Nat → Nat) (v : ab_V) : Value := match v with
  | .inl x => x
  | .inr (k, _, _, id) => if k < 30 then .ref (ad id) else if k = 40 then .ref id else .ref (sa id)
/-- field j of the object of class k at id -/
def ab_fld (ad sa : Nat → Nat) (M : ab_M) (k id j : Nat) : Value := match (ab_lay k)[j]? with
  | some 0 => .int (M.1 id j)
  | some 1 => .long (M.2.1 id j)
  | _ => ab_cv ad sa (M.2.2.1 k id j)
def ab_fs (ad sa : Nat → Nat) (M : ab_M) (k id : Nat) : List Value := (List.range (ab_lay k).length).map (ab_fld ad sa M k id)
/-- an element of an array of references -/
def ab_el (ad : Nat → Nat) (v : ab_V) : Option Nat := match v with
  | .inl _ => none
  | .inr (_, _, _, id) => some (ad id)
/-- what the cell of id holds -/
def ab_ent (cy : Nat → ClassId) (ad sa : Nat → Nat) (M : ab_M) (id : Nat) : va_E :=
  if (M.2.2.2.1 id).1 < 13 then .inr ((M.2.2.2.1 id).1, ab_fs ad sa M (M.2.2.2.1 id).1 id)
  else if (M.2.2.2.1 id).1 = 22 then .inl (cy 22, (M.2.2.2.1 id).2.1, .inr (.inl (M.2.1 id)))
  else if 24 ≤ (M.2.2.2.1 id).1 then .inl (cy (M.2.2.2.1 id).1, (M.2.2.2.1 id).2.1, .inr (.inr (.inr (.inr (fun i => ab_el ad (M.2.2.1 (M.2.2.2.1 id).1 id i))))))
  else .inl (cy (M.2.2.2.1 id).1, (M.2.2.2.1 id).2.1, .inl (M.1 id))
def ab_pool (cy : Nat → ClassId) (ad sa : Nat → Nat) (M : ab_M) : va_W := (List.range M.2.2.2.2.1).map (fun id => (ad id, ab_ent cy ad sa M id))
abbrev ab_cls : List vw_C := [(RX0, TX0, 14), (RX1, TX1, 11), (RX2, TX2, 7), (RX3, TX3, 7), (RX4, TX4, 6), (RX5, TX5, 3), (RX6, TX6, 4), (RX7, TX7, 5), (RX8, TX8, 3), (RX9, TX9, 7), (RX10, TX10, 9), (RX11, TX11, 15), (RX12, TX12, 45)]
abbrev ab_tys (cy : Nat → ClassId) : List (ClassId × FieldType) := [(cy 20, .int), (cy 21, .byte), (cy 22, .long), (cy 23, .boolean), (cy 24, .array .int), (cy 25, .object RX6)]
/-- a value that may stand: numbers and null; things that are there, of their kind -/
def ab_ok (M : ab_M) (v : ab_V) : Prop := match v with
  | .inl (.int _) => True
  | .inl (.long _) => True
  | .inl .null => True
  | .inl _ => False
  | .inr (k, n, m, id) => k < 30 → id < M.2.2.2.2.1 ∧ M.2.2.2.1 id = (k, n, m)
/-- a reference that a thing may hold: null, or a thing of the pool -/
def ab_rok (M : ab_M) (v : ab_V) : Prop := v = ab_nul ∨ ∃ k n m id, v = .inr (k, n, m, id) ∧ k < 30 ∧ id < M.2.2.2.2.1 ∧ M.2.2.2.1 id = (k, n, m)
/-- all references that the things hold are good ones -/
def ab_WF (M : ab_M) : Prop := ∀ id, id < M.2.2.2.2.1 → (∀ j, ab_rok M (M.2.2.1 (M.2.2.2.1 id).1 id j)) ∧ ((M.2.2.2.1 id).1 < 13 ∨ (20 ≤ (M.2.2.2.1 id).1 ∧ (M.2.2.2.1 id).1 ≤ 25))
abbrev ab_A (h0 : Nat) : Nat → Prop := fun q => h0 ≤ q
theorem ab_pool_at {cy : Nat → ClassId} {ad sa : Nat → Nat} {M : ab_M} {id : Nat} (h : id < M.2.2.2.2.1) : (ab_pool cy ad sa M)[id]? = some (ad id, ab_ent cy ad sa M id) := by
  simp [ab_pool, List.getElem?_map, List.getElem?_range h]
theorem ab_pool_len {cy : Nat → ClassId} {ad sa : Nat → Nat} {M : ab_M} : (ab_pool cy ad sa M).length = M.2.2.2.2.1 := by simp [ab_pool]
theorem ab_rok_ok {M : ab_M} {v : ab_V} (h : ab_rok M v) : ab_ok M v := by
  rcases h with rfl | ⟨k, n, m, id, rfl, h1, h2, h3⟩
  · trivial
  · exact fun _ => ⟨h2, h3⟩
/-- one cell is another, the rest of the numbers as they were -/
theorem ab_pool_set {cy : Nat → ClassId} {ad sa : Nat → Nat} {M M' : ab_M} {id : Nat} {e : va_E} (hn : M'.2.2.2.2.1 = M.2.2.2.2.1) (he : ab_ent cy ad sa M' id = e) (ho : ∀ j, j ≠ id → ab_ent cy ad sa M' j = ab_ent cy ad sa M j) : (ab_pool cy ad sa M).set id (ad id, e) = ab_pool cy ad sa M' := by
  apply List.ext_getElem?
  intro i
  rw [List.getElem?_set]
  by_cases h : i < M.2.2.2.2.1
  · have h' : i < M'.2.2.2.2.1 := by rw [hn]; exact h
    rw [ab_pool_at h', ab_pool_at h]
    by_cases hi : id = i
    · subst hi
      simp [ab_pool, h, he]
    · simp [hi, ho i (fun q => hi q.symm)]
  · have h1 : (ab_pool cy ad sa M)[i]? = none := by simp [ab_pool]; omega
    have h2 : (ab_pool cy ad sa M')[i]? = none := by simp [ab_pool, hn]; omega
    rw [h1, h2]
    by_cases hi : id = i
    · subst hi
      simp [ab_pool, h]
    · simp [hi]
