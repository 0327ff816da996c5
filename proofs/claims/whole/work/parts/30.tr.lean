/-! the program's world once it is made: how its things hold each other, by ids; what a run is then, as a function -/
/-- ints, longs, shelves of ledgers, kinds, ids in use, cells, slots -/
abbrev ab_P : Type := (Nat → Nat → Int32) × (Nat → Nat → Int64) × (Nat → Nat → Option Nat) × (Nat → Nat × Nat × Nat) × Nat × Nat × Nat
def ab_gr (n m id j : Nat) : ab_V := if j < n then .inr (20, m, 0, id + 1 + j) else ab_nul
def ab_lg (r : Option Nat) : ab_V := match r with
  | some q => .inr (6, 0, 0, q)
  | none => ab_nul
def ap_wr (sh : Nat → Nat → Option Nat) (k id j : Nat) : ab_V := match k with
  | 0 => match j with
    | 0 => .inr (20, 8, 0, id + 1)
    | 1 => .inr (20, 8, 0, id + 2)
    | 3 => .inr (20, 16, 0, id + 3)
    | 4 => .inr (20, 16, 0, id + 4)
    | 5 => .inr (20, 16, 0, id + 5)
    | 6 => .inr (20, 16, 0, id + 6)
    | 8 => .inr (23, 8, 0, id + 7)
    | 9 => .inr (20, 8, 0, id + 8)
    | 10 => .inr (20, 136, 0, id + 9)
    | 11 => .inr (20, 136, 0, id + 10)
    | _ => .inl .null
  | 1 => match j with
    | 0 => .inr (10, 0, 0, 3)
    | 1 => .inr (6, 0, 0, 43)
    | 2 => .inr (4, 0, 0, 46)
    | 3 => .inr (20, 256, 0, 55)
    | 4 => .inr (20, 256, 0, 56)
    | 5 => .inr (20, 8, 0, 57)
    | 8 => .inr (20, 64, 0, 58)
    | 9 => .inr (20, 8, 0, 59)
    | 10 => .inr (20, 2304, 0, 60)
    | _ => .inl .null
  | 2 => match j with
    | 0 => .inr (10, 0, 0, 3)
    | 1 => .inr (6, 0, 0, 43)
    | 2 => .inr (4, 0, 0, 46)
    | 3 => .inr (8, 0, 0, 49)
    | 4 => .inr (20, 120, 0, 53)
    | _ => .inl .null
  | 3 => match j with
    | 0 => .inr (25, 20, 0, 66)
    | 2 => .inr (25, 3, 0, 67)
    | 3 => .inr (25, 60, 0, 68)
    | 4 => .inr (20, 3, 0, 69)
    | 5 => .inr (20, 3, 0, 70)
    | _ => .inl .null
  | 4 => match j with
    | 0 => .inr (10, 0, 0, 3)
    | 1 => .inr (5, 0, 0, 15)
    | 2 => .inr (6, 0, 0, 43)
    | 3 => .inr (20, 8, 0, 47)
    | 4 => .inr (20, 40, 0, 48)
    | _ => .inl .null
  | 5 => match j with
    | 0 => .inr (20, 150, 0, id + 1)
    | 2 => .inr (20, 32, 0, id + 2)
    | _ => .inl .null
  | 6 => match j with
    | 0 => .inr (20, 360, 0, id + 1)
    | 1 => .inr (20, 5, 0, id + 2)
    | _ => .inl .null
  | 7 => match j with
    | 0 => .inr (10, 0, 0, 3)
    | 1 => .inr (6, 0, 0, 43)
    | 2 => .inr (6, 0, 0, 62)
    | _ => .inl .null
  | 8 => match j with
    | 0 => .inr (6, 0, 0, 43)
    | 1 => .inr (22, 313, 0, 50)
    | 2 => .inr (22, 1000, 0, 51)
    | _ => .inl .null
  | 9 => match j with
    | 0 => .inr (21, 600, 0, 2)
    | _ => .inl .null
  | 10 => match j with
    | 0 => .inr (20, 8, 0, id + 1)
    | 1 => .inr (20, 24, 0, id + 2)
    | 2 => .inr (20, 24, 0, id + 3)
    | 3 => .inr (20, 24, 0, id + 4)
    | 4 => .inr (20, 24, 0, id + 5)
    | _ => .inl .null
  | 11 => match j with
    | 0 => .inr (9, 0, 0, 1)
    | 1 => .inr (10, 0, 0, 3)
    | 2 => .inr (10, 0, 0, 9)
    | 3 => .inr (5, 0, 0, 15)
    | 4 => .inr (5, 0, 0, 18)
    | 5 => .inr (0, 0, 0, 21)
    | 6 => .inr (0, 0, 0, 32)
    | 7 => .inr (6, 0, 0, 43)
    | 8 => .inr (4, 0, 0, 46)
    | 9 => .inr (8, 0, 0, 49)
    | 10 => .inr (2, 0, 0, 52)
    | 11 => .inr (1, 0, 0, 54)
    | 12 => .inr (7, 0, 0, 61)
    | 13 => .inr (3, 0, 0, 65)
    | 14 => .inr (20, 3, 0, 71)
    | _ => .inl .null
  | 12 => match j with
    | 9 => .inr (20, 600, 0, 73)
    | 10 => .inr (20, 3, 0, 74)
    | 11 => .inr (20, 4, 0, 75)
    | 12 => .inr (20, 4, 0, 76)
    | 13 => .inr (20, 8, 0, 77)
    | 14 => .inr (20, 8, 0, 78)
    | 15 => .inr (24, 24, 4, 79)
    | 18 => .inr (24, 160, 2, 104)
    | 19 => .inr (24, 160, 2, 265)
    | 20 => .inr (24, 8, 2, 426)
    | 21 => .inr (24, 8, 2, 435)
    | 22 => .inr (24, 30, 4, 444)
    | 23 => .inr (20, 160, 0, 475)
    | 24 => .inr (20, 8, 0, 476)
    | 25 => .inr (20, 366, 0, 477)
    | 26 => .inr (20, 366, 0, 478)
    | 27 => .inr (24, 20, 366, 479)
    | 28 => .inr (24, 3, 7688, 500)
    | 34 => .inr (24, 41, 1000, 504)
    | 35 => .inr (23, 20000, 0, 546)
    | 36 => .inr (20, 256, 0, 547)
    | 37 => .inr (20, 256, 0, 548)
    | 39 => .inr (24, 9, 256, 549)
    | 40 => .inr (24, 8, 8, 559)
    | 41 => .inr (20, 16, 0, 568)
    | 42 => .inr (20, 4, 0, 569)
    | _ => .inl .null
  | 24 => match id with
    | 79 => ab_gr 24 4 79 j
    | 104 => ab_gr 160 2 104 j
    | 265 => ab_gr 160 2 265 j
    | 426 => ab_gr 8 2 426 j
    | 435 => ab_gr 8 2 435 j
    | 444 => ab_gr 30 4 444 j
    | 479 => ab_gr 20 366 479 j
    | 500 => ab_gr 3 7688 500 j
    | 504 => ab_gr 41 1000 504 j
    | 549 => ab_gr 9 256 549 j
    | 559 => ab_gr 8 8 559 j
    | _ => .inl .null
  | 25 => ab_lg (sh id j)
  | _ => .inl .null
abbrev ab_mk (P : ab_P) : ab_M := (P.1, P.2.1, ap_wr P.2.2.1, P.2.2.2)
abbrev ab_pI (P : ab_P) (a i : Nat) (x : Int32) : ab_P := (ab_upI P.1 a i x, P.2)
abbrev ab_pL (P : ab_P) (a i : Nat) (x : Int64) : ab_P := (P.1, ab_upL P.2.1 a i x, P.2.2)
/-- straight on for n rows -/
def ab_blk (xs : Nat × (Nat → Int32)) : Nat → Nat → List ab_Row → List ab_V → List ab_V → ab_M → Option (Prop × Nat × List ab_Row × List ab_V × List ab_V × ab_M)
  | 0, pc, rows, loc, st, M => some (True, pc, rows, loc, st, M)
  | _ + 1, _, [], _, _, _ => none
  | n + 1, pc, (ins, len, r) :: rest, loc, st, M => if ab_ctl ins = true then none else if ab_r0 r = 500 then none else if ab_r0 r = 600 then none else (match ab_step xs ins r loc st M with
    | some (vc, loc', st', M') => (match ab_blk xs n (pc + len) rest loc' st' M' with
      | some (vc2, x) => some (vc ∧ vc2, x)
      | none => none)
    | none => none)
theorem ab_big_def {G : ab_PG} {xs : Nat × (Nat → Int32)} {f d i pc len : Nat} {ins : Instr} {r : List Nat} {rest : List ab_Row} {loc st : List ab_V} {M M' : ab_M} {x : ab_X} {vc : Prop} {loc' st' : List ab_V} {M2 : ab_M} (hc : ab_ctl ins = false) (h5 : ab_r0 r ≠ 500) (h6 : ab_r0 r ≠ 600) (hs : ab_step xs ins r loc st M = some (vc, loc', st', M2)) (hv : vc) (h : ab_big G xs f d i (pc + len) rest loc' st' M2 x M') : ab_big G xs (f + 1) d i pc ((ins, len, r) :: rest) loc st M x M' := by
  simp only [ab_big]
  split
  all_goals first | (cases hc; done) | skip
  split
  · exact absurd rfl h5
  · exact absurd rfl h6
  · rw [hs]
    exact ⟨hv, h⟩
theorem ab_blk_ok {G : ab_PG} {xs : Nat × (Nat → Int32)} {f d i : Nat} {x : ab_X} {M' : ab_M} : ∀ (n pc : Nat) (rows : List ab_Row) (loc st : List ab_V) (M : ab_M) (vc : Prop) (pc' : Nat) (rows' : List ab_Row) (loc' st' : List ab_V) (M1 : ab_M), ab_blk xs n pc rows loc st M = some (vc, pc', rows', loc', st', M1) → vc → ab_big G xs f d i pc' rows' loc' st' M1 x M' → ab_big G xs (f + n) d i pc rows loc st M x M'
  | 0, pc, rows, loc, st, M, vc, pc', rows', loc', st', M1, h, hv, hb => by
    cases h
    exact hb
  | n + 1, pc, [], loc, st, M, vc, pc', rows', loc', st', M1, h, hv, hb => by cases h
  | n + 1, pc, (ins, len, r) :: rest, loc, st, M, vc, pc', rows', loc', st', M1, h, hv, hb => by
    unfold ab_blk at h
    split at h
    · cases h
    · rename_i h1
      split at h
      · cases h
      · rename_i h2
        split at h
        · cases h
        · rename_i h3
          split at h
          · rename_i vc1 l1 s1 M2 hs
            split at h
            · rename_i vc2 x2 hx2
              cases h
              exact ab_big_def (by simpa using h1) h2 h3 hs hv.1 (ab_blk_ok n _ _ _ _ _ _ _ _ _ _ _ hx2 hv.2 hb)
            · cases h
          · cases h
/-! a run as a function: the machine, from here, comes to what o says -/
def ab_tr {α : Type} (xs : Nat × (Nat → Int32)) (fin : α → ab_X × ab_P) (d i pc : Nat) (rows : List ab_Row) (loc st : List ab_V) (P : ab_P) (o : Option α) : Prop := ∀ a, o = some a → ∃ f, ab_big ab_pg xs f d i pc rows loc st (ab_mk P) (fin a).1 (ab_mk (fin a).2)
abbrev iI (v : Int32) : ab_X := .inl (some (.inl (.int v)))
abbrev iL (v : Int64) : ab_X := .inl (some (.inl (.long v)))
abbrev iV : ab_X := .inl none
/-- readers, writers, and those that may throw -/
abbrev rI (P : ab_P) (v : Int32) : ab_X × ab_P := (iI v, P)
abbrev rL (P : ab_P) (v : Int64) : ab_X × ab_P := (iL v, P)
abbrev wI (q : Int32 × ab_P) : ab_X × ab_P := (iI q.1, q.2)
abbrev wL (q : Int64 × ab_P) : ab_X × ab_P := (iL q.1, q.2)
abbrev wV (q : ab_P) : ab_X × ab_P := (iV, q)
def ab_ix {ρ : Type} (inj : ρ → ab_X) (v : ρ ⊕ Fin 3) : ab_X := match v with
  | .inl a => inj a
  | .inr E => .inr E.val
abbrev xI (q : (Int32 ⊕ Fin 3) × ab_P) : ab_X × ab_P := (ab_ix iI q.1, q.2)
abbrev xL (q : (Int64 ⊕ Fin 3) × ab_P) : ab_X × ab_P := (ab_ix iL q.1, q.2)
abbrev xV (q : (Unit ⊕ Fin 3) × ab_P) : ab_X × ab_P := (ab_ix (fun _ => iV) q.1, q.2)
/-- how the parts of a run follow each other -/
def ab_lt {α β : Type} (a : α) (f : α → β) : β := f a
def ab_b2 {ρ α : Type} (g : Option (ρ × ab_P)) (K : ρ → ab_P → Option α) : Option α := g.bind fun q => K q.1 q.2
def ab_x2 {ρ α β : Type} (g : Option ((ρ ⊕ Fin 3) × ab_P)) (K : ρ → ab_P → Option ((α ⊕ Fin 3) × β)) (hb : ab_P → β) : Option ((α ⊕ Fin 3) × β) := g.bind fun q => match q.1 with
  | .inl v => K v q.2
  | .inr E => some (.inr E, hb q.2)
def ab_h2 {ρ α : Type} (g : Option ((ρ ⊕ Fin 3) × ab_P)) (K : ρ → ab_P → Option α) (K0 K1 K2 : ab_P → Option α) : Option α := g.bind fun q => match q.1 with
  | .inl v => K v q.2
  | .inr E => if E = 0 then K0 q.2 else if E = 1 then K1 q.2 else K2 q.2
abbrev ab_gi (i : Int32) (n : Nat) : Prop := ¬ (i < 0 ∨ n ≤ i.toNatClampNeg)
abbrev ab_ex (P : ab_P) : ab_P := (P.1, P.2.1, P.2.2.1, P.2.2.2.1, P.2.2.2.2.1, P.2.2.2.2.2.1 + 1, P.2.2.2.2.2.2 + 6)
section TR
variable {α : Type} {xs : Nat × (Nat → Int32)} {fin : α → ab_X × ab_P} {d i pc : Nat} {rows : List ab_Row} {loc st : List ab_V} {P : ab_P} {o : Option α}
theorem tr_nil {rows2 : List ab_Row} (h : ab_pg.2 i pc = some rows2) (hn : rows2 ≠ []) (k : ab_tr xs fin d i pc rows2 loc st P o) : ab_tr xs fin d i pc [] loc st P o := fun a e => by
  obtain ⟨f, hf⟩ := k a e
  exact ⟨f + 1, rows2, h, hn, hf⟩
theorem tr_blk (n : Nat) {vc : Prop} {pc' : Nat} {rows' : List ab_Row} {loc' st' : List ab_V} {P1 : ab_P} (h : ab_blk xs n pc rows loc st (ab_mk P) = some (vc, pc', rows', loc', st', ab_mk P1)) (hv : vc) (k : ab_tr xs fin d i pc' rows' loc' st' P1 o) : ab_tr xs fin d i pc rows loc st P o := fun a e => by
  obtain ⟨f, hf⟩ := k a e
  exact ⟨f + n, ab_blk_ok n _ _ _ _ _ _ _ _ _ _ _ h hv hf⟩
theorem tr_lt {K : ab_P → Option α} (k : ∀ P1, ab_tr xs fin d i pc rows loc st P1 (K P1)) : ab_tr xs fin d i pc rows loc st P (ab_lt P K) := k P
theorem tr_if {c : Prop} [Decidable c] {o1 o2 : Option α} (h1 : c → ab_tr xs fin d i pc rows loc st P o1) (h2 : ¬ c → ab_tr xs fin d i pc rows loc st P o2) : ab_tr xs fin d i pc rows loc st P (if c then o1 else o2) := by
  by_cases hc : c
  · rw [if_pos hc]; exact h1 hc
  · rw [if_neg hc]; exact h2 hc
theorem tr_no : ab_tr xs fin d i pc rows loc st P none := fun a e => by cases e
theorem tr_gd {c : Prop} [Decidable c] (h1 : c → ab_tr xs fin d i pc rows loc st P o) : ab_tr xs fin d i pc rows loc st P (if c then o else none) := tr_if h1 (fun _ => tr_no)
theorem tr_goto {off : Int} {len t : Nat} {r9 : List Nat} {rest : List ab_Row} (k : ab_tr xs fin d i t [] loc st P o) : ab_tr xs fin d i pc ((.goto off, len, t :: r9) :: rest) loc st P o := fun a e => by
  obtain ⟨f, hf⟩ := k a e
  exact ⟨f + 1, hf⟩
theorem tr_ifT {cd : ClassFile.Cond} {off : Int} {len t : Nat} {r9 : List Nat} {rest : List ab_Row} {x : Int32} (h : ab_cd cd x 0) (k : ab_tr xs fin d i t [] loc st P o) : ab_tr xs fin d i pc ((.ifCond cd off, len, t :: r9) :: rest) loc (.inl (.int x) :: st) P o := fun a e => by
  obtain ⟨f, hf⟩ := k a e
  exact ⟨f + 1, Or.inl ⟨h, hf⟩⟩
theorem tr_ifF {cd : ClassFile.Cond} {off : Int} {len t : Nat} {r9 : List Nat} {rest : List ab_Row} {x : Int32} (h : ¬ ab_cd cd x 0) (k : ab_tr xs fin d i (pc + len) rest loc st P o) : ab_tr xs fin d i pc ((.ifCond cd off, len, t :: r9) :: rest) loc (.inl (.int x) :: st) P o := fun a e => by
  obtain ⟨f, hf⟩ := k a e
  exact ⟨f + 1, Or.inr ⟨h, hf⟩⟩
theorem tr_icT {cd : ClassFile.Cond} {off : Int} {len t : Nat} {r9 : List Nat} {rest : List ab_Row} {x y : Int32} (h : ab_cd cd x y) (k : ab_tr xs fin d i t [] loc st P o) : ab_tr xs fin d i pc ((.if_icmp cd off, len, t :: r9) :: rest) loc (.inl (.int y) :: .inl (.int x) :: st) P o := fun a e => by
  obtain ⟨f, hf⟩ := k a e
  exact ⟨f + 1, Or.inl ⟨h, hf⟩⟩
theorem tr_icF {cd : ClassFile.Cond} {off : Int} {len t : Nat} {r9 : List Nat} {rest : List ab_Row} {x y : Int32} (h : ¬ ab_cd cd x y) (k : ab_tr xs fin d i (pc + len) rest loc st P o) : ab_tr xs fin d i pc ((.if_icmp cd off, len, t :: r9) :: rest) loc (.inl (.int y) :: .inl (.int x) :: st) P o := fun a e => by
  obtain ⟨f, hf⟩ := k a e
  exact ⟨f + 1, Or.inr ⟨h, hf⟩⟩
theorem tr_nuT {off : Int} {len t : Nat} {r9 : List Nat} {rest : List ab_Row} (k : ab_tr xs fin d i t [] loc st P o) : ab_tr xs fin d i pc ((.ifnull off, len, t :: r9) :: rest) loc (ab_nul :: st) P o := fun a e => by
  obtain ⟨f, hf⟩ := k a e
  exact ⟨f + 1, hf⟩
theorem tr_nuF {off : Int} {len t : Nat} {r9 : List Nat} {rest : List ab_Row} {k n m id : Nat} (h : k < 30) (kk : ab_tr xs fin d i (pc + len) rest loc st P o) : ab_tr xs fin d i pc ((.ifnull off, len, t :: r9) :: rest) loc (.inr (k, n, m, id) :: st) P o := fun a e => by
  obtain ⟨f, hf⟩ := kk a e
  exact ⟨f + 1, h, hf⟩
theorem tr_nnF {off : Int} {len t : Nat} {r9 : List Nat} {rest : List ab_Row} (k : ab_tr xs fin d i (pc + len) rest loc st P o) : ab_tr xs fin d i pc ((.ifnonnull off, len, t :: r9) :: rest) loc (ab_nul :: st) P o := fun a e => by
  obtain ⟨f, hf⟩ := k a e
  exact ⟨f + 1, hf⟩
theorem tr_nnT {off : Int} {len t : Nat} {r9 : List Nat} {rest : List ab_Row} {k n m id : Nat} (h : k < 30) (kk : ab_tr xs fin d i t [] loc st P o) : ab_tr xs fin d i pc ((.ifnonnull off, len, t :: r9) :: rest) loc (.inr (k, n, m, id) :: st) P o := fun a e => by
  obtain ⟨f, hf⟩ := kk a e
  exact ⟨f + 1, h, hf⟩
theorem tr_sw {df lo hi : Int} {offs : Array Int} {len t : Nat} {r9 : List Nat} {rest : List ab_Row} {x : Int32} (h : ab_sw lo hi r9 x = some t) (k : ab_tr xs fin d i t [] loc st P o) : ab_tr xs fin d i pc ((.tableswitch df lo hi offs, len, r9) :: rest) loc (.inl (.int x) :: st) P o := fun a e => by
  obtain ⟨f, hf⟩ := k a e
  exact ⟨f + 1, t, h, hf⟩
theorem tr_reI {len : Nat} {r9 : List Nat} {rest : List ab_Row} {v : Int32} {z : ab_Mi} {a : α} (hz : ab_pg.1 i = some z) (hn : ab_nv z.2.2.2.1 v) (hf : fin a = (iI v, P)) : ab_tr xs fin d i pc ((.ireturn, len, r9) :: rest) loc [.inl (.int v)] P (some a) := fun b e => by
  cases e
  exact ⟨1, ⟨z, hz, hn⟩, by rw [hf], by rw [hf]⟩
theorem tr_reL {len : Nat} {r9 : List Nat} {rest : List ab_Row} {v : Int64} {z : ab_Mi} {a : α} (hz : ab_pg.1 i = some z) (hn : z.2.2.2.1 = some .long) (hf : fin a = (iL v, P)) : ab_tr xs fin d i pc ((.lreturn, len, r9) :: rest) loc [.inl (.long v)] P (some a) := fun b e => by
  cases e
  exact ⟨1, ⟨z, hz, hn⟩, by rw [hf], by rw [hf]⟩
theorem tr_reV {len : Nat} {r9 : List Nat} {rest : List ab_Row} {z : ab_Mi} {a : α} (hz : ab_pg.1 i = some z) (hn : z.2.2.2.1 = none) (hf : fin a = (iV, P)) : ab_tr xs fin d i pc ((.return_, len, r9) :: rest) loc [] P (some a) := fun b e => by
  cases e
  exact ⟨1, ⟨z, hz, hn⟩, by rw [hf], by rw [hf]⟩
/-- a throw -/
theorem tr_thr {idx E len : Nat} {r9 : List Nat} {rest : List ab_Row} {z : ab_Mi} {a : α} (hz : ab_pg.1 i = some z) (hh : z.2.2.2.2.1 = []) (hf : fin a = (.inr E, ab_ex P)) : ab_tr xs fin d i pc ((.new idx, len, 500 :: E :: r9) :: rest) loc [] P (some a) := fun b e => by
  cases e
  refine ⟨1, ?_⟩
  rw [hf]
  exact ⟨rfl, rfl, ⟨z, hz, hh⟩, rfl⟩
variable {ins : Instr} {len j n : Nat} {r9 : List Nat} {rest : List ab_Row} {st' av : List ab_V} {z : ab_Mi} {β : Type} {fin' : β → ab_X × ab_P} {g : Option β}
theorem ab_big_call {G : ab_PG} {f d' : Nat} {M M' M1 : ab_M} {x x1 : ab_X} (hc : ab_ctl ins = false) (hst : st = av.reverse ++ st') (hn : av.length = n) (hsz : ab_szs st' ≤ 8) (hrv : ab_rv (600 :: j :: n :: r9) av) (hz : G.1 j = some z) (hfl : (av.flatMap ab_lay1).length ≤ z.2.2.1)
    (h1 : ab_big G xs f d' j 0 [] (ab_ent0 av z.2.2.1) [] M x1 M1) (h2 : ∀ x2, x2 = x1 → (match x2 with
          | .inl v => ab_big G xs f (d' + 1) i (pc + len) rest loc (ab_rs v st') M1 x M'
          | .inr E => E < 3 ∧ ∃ zi, G.1 i = some zi ∧ (match ab_hnd zi.2.2.2.2.2 pc E with
            | some h => ∀ q, ab_big G xs f (d' + 1) i h [] loc [.inr (40, E, 0, q)] M1 x M'
            | none => x = .inr E ∧ M' = M1))) : ab_big G xs (f + 1) (d' + 1) i pc ((ins, len, 600 :: j :: n :: r9) :: rest) loc st M x M' := by
  have e1 : (st.take n).reverse = av := by rw [hst, ← hn]; simp
  have e2 : st.drop n = st' := by rw [hst, ← hn]; simp
  have e3 : n ≤ st.length := by rw [hst, ← hn]; simp
  simp only [ab_big]
  split
  all_goals first | (cases hc; done) | skip
  refine ⟨d', rfl, e3, ?_⟩
  rw [e1, e2]
  exact ⟨⟨hsz, hrv⟩, z, x1, M1, hz, hfl, h1, h2 x1 rfl⟩
/-- a call that throws nothing -/
theorem tr_call (v : β → Option ab_V) (S : β → ab_P) {K : β → Option α} (hb : ∀ b, fin' b = (.inl (v b), S b)) (hc : ab_ctl ins = false) (hst : st = av.reverse ++ st') (hn : av.length = n) (hsz : ab_szs st' ≤ 8) (hrv : ab_rv (600 :: j :: n :: r9) av) (hz : ab_pg.1 j = some z) (hfl : (av.flatMap ab_lay1).length ≤ z.2.2.1)
    (hm : ab_tr xs fin' d j 0 [] (ab_ent0 av z.2.2.1) [] P g) (k : ∀ b, ab_tr xs fin (d + 1) i (pc + len) rest loc (ab_rs (v b) st') (S b) (K b)) : ab_tr xs fin (d + 1) i pc ((ins, len, 600 :: j :: n :: r9) :: rest) loc st P (g.bind K) := fun a e => by
  cases g with
  | none => cases e
  | some q =>
    obtain ⟨f1, h1⟩ := hm q rfl
    obtain ⟨f2, h2⟩ := k q a e
    rw [hb] at h1
    exact ⟨f1 + f2 + 1, ab_big_call hc hst hn hsz hrv hz hfl (ab_big_up _ _ _ _ _ _ _ _ _ _ h1 (f1 + f2) d (by omega) (Nat.le_refl _)) (fun _ e9 => by subst e9; exact ab_big_up _ _ _ _ _ _ _ _ _ _ h2 (f1 + f2) (d + 1) (by omega) (Nat.le_refl _))⟩
/-- a call that may throw; nothing is caught here -/
theorem tr_cax {ρ γ : Type} {inj : ρ → ab_X} (v : ρ → Option ab_V) {fin : (γ ⊕ Fin 3) × ab_P → ab_X × ab_P} {g : Option ((ρ ⊕ Fin 3) × ab_P)} {K : ρ → ab_P → Option ((γ ⊕ Fin 3) × ab_P)} {zi : ab_Mi} (hi : ∀ b, inj b = .inl (v b)) (hfin : ∀ E P1, fin (.inr E, P1) = (.inr E.val, P1)) (hzi : ab_pg.1 i = some zi) (hno : zi.2.2.2.2.2 = []) (hc : ab_ctl ins = false) (hst : st = av.reverse ++ st') (hn : av.length = n) (hsz : ab_szs st' ≤ 8) (hrv : ab_rv (600 :: j :: n :: r9) av) (hz : ab_pg.1 j = some z) (hfl : (av.flatMap ab_lay1).length ≤ z.2.2.1)
    (hm : ab_tr xs (fun q : (ρ ⊕ Fin 3) × ab_P => (ab_ix inj q.1, q.2)) d j 0 [] (ab_ent0 av z.2.2.1) [] P g) (k : ∀ b P1, ab_tr xs fin (d + 1) i (pc + len) rest loc (ab_rs (v b) st') P1 (K b P1)) : ab_tr xs fin (d + 1) i pc ((ins, len, 600 :: j :: n :: r9) :: rest) loc st P (ab_x2 g K (fun q => q)) := fun a e => by
  cases g with
  | none => cases e
  | some q =>
    obtain ⟨w, P1⟩ := q
    obtain ⟨f1, h1⟩ := hm (w, P1) rfl
    cases w with
    | inl b =>
      obtain ⟨f2, h2⟩ := k b P1 a e
      have h1' : ab_big ab_pg xs f1 d j 0 [] (ab_ent0 av z.2.2.1) [] (ab_mk P) (.inl (v b)) (ab_mk P1) := by rw [← hi]; exact h1
      exact ⟨f1 + f2 + 1, ab_big_call hc hst hn hsz hrv hz hfl (ab_big_up _ _ _ _ _ _ _ _ _ _ h1' (f1 + f2) d (by omega) (Nat.le_refl _)) (fun _ e9 => by subst e9; exact ab_big_up _ _ _ _ _ _ _ _ _ _ h2 (f1 + f2) (d + 1) (by omega) (Nat.le_refl _))⟩
    | inr E =>
      cases e
      rw [hfin]
      refine ⟨f1 + 1, ab_big_call hc hst hn hsz hrv hz hfl h1 (fun x2 e9 => ?_)⟩
      subst e9
      refine ⟨E.isLt, zi, hzi, ?_⟩
      rw [hno]
      exact ⟨rfl, rfl⟩
/-- a call whose throws are caught here, or go on -/
def ab_af {α : Type} (xs : Nat × (Nat → Int32)) (fin : α → ab_X × ab_P) (d i : Nat) (loc : List ab_V) (P : ab_P) (h : Option Nat) (E : Nat) (o : Option α) : Prop := match h with
  | some t => ∀ a, o = some a → ∃ f, ∀ q, ab_big ab_pg xs f d i t [] loc [.inr (40, E, 0, q)] (ab_mk P) (fin a).1 (ab_mk (fin a).2)
  | none => o = none
theorem tr_han {t E l3 pc' : Nat} {r3 : List Nat} {rows2 : List ab_Row} {v : Int32} {z : ab_Mi} {a : α} (vc : Prop) (loc' : Nat → List ab_V) (hr : ab_pg.2 i t = some rows2) (hne : rows2 ≠ []) (hb : ∀ q, ab_blk xs 2 t rows2 loc [.inr (40, E, 0, q)] (ab_mk P) = some (vc, pc', [(.ireturn, l3, r3)], loc' q, [.inl (.int v)], ab_mk P)) (hv : vc) (hz : ab_pg.1 i = some z) (hn : ab_nv z.2.2.2.1 v) (hf : fin a = (iI v, P)) : ab_af xs fin d i loc P (some t) E (some a) := fun b e => by
  cases e
  refine ⟨1 + 2 + 1, fun q => ⟨rows2, hr, hne, ab_blk_ok 2 _ _ _ _ _ _ _ _ _ _ _ (hb q) hv ?_⟩⟩
  rw [hf]
  exact ⟨⟨z, hz, hn⟩, rfl, rfl⟩
theorem tr_cah {ρ : Type} {inj : ρ → ab_X} (v : ρ → Option ab_V) {g : Option ((ρ ⊕ Fin 3) × ab_P)} {K : ρ → ab_P → Option α} {K0 K1 K2 : ab_P → Option α} {zi : ab_Mi} (hi : ∀ b, inj b = .inl (v b)) (hzi : ab_pg.1 i = some zi) (hc : ab_ctl ins = false) (hst : st = av.reverse ++ st') (hn : av.length = n) (hsz : ab_szs st' ≤ 8) (hrv : ab_rv (600 :: j :: n :: r9) av) (hz : ab_pg.1 j = some z) (hfl : (av.flatMap ab_lay1).length ≤ z.2.2.1)
    (hm : ab_tr xs (fun q : (ρ ⊕ Fin 3) × ab_P => (ab_ix inj q.1, q.2)) d j 0 [] (ab_ent0 av z.2.2.1) [] P g) (k : ∀ b P1, ab_tr xs fin (d + 1) i (pc + len) rest loc (ab_rs (v b) st') P1 (K b P1))
    (k0 : ∀ P1, ab_af xs fin (d + 1) i loc P1 (ab_hnd zi.2.2.2.2.2 pc 0) 0 (K0 P1)) (k1 : ∀ P1, ab_af xs fin (d + 1) i loc P1 (ab_hnd zi.2.2.2.2.2 pc 1) 1 (K1 P1)) (k2 : ∀ P1, ab_af xs fin (d + 1) i loc P1 (ab_hnd zi.2.2.2.2.2 pc 2) 2 (K2 P1)) : ab_tr xs fin (d + 1) i pc ((ins, len, 600 :: j :: n :: r9) :: rest) loc st P (ab_h2 g K K0 K1 K2) := fun a e => by
  cases g with
  | none => cases e
  | some q =>
    obtain ⟨w, P1⟩ := q
    obtain ⟨f1, h1⟩ := hm (w, P1) rfl
    cases w with
    | inl b =>
      obtain ⟨f2, h2⟩ := k b P1 a e
      have h1' : ab_big ab_pg xs f1 d j 0 [] (ab_ent0 av z.2.2.1) [] (ab_mk P) (.inl (v b)) (ab_mk P1) := by rw [← hi]; exact h1
      exact ⟨f1 + f2 + 1, ab_big_call hc hst hn hsz hrv hz hfl (ab_big_up _ _ _ _ _ _ _ _ _ _ h1' (f1 + f2) d (by omega) (Nat.le_refl _)) (fun _ e9 => by subst e9; exact ab_big_up _ _ _ _ _ _ _ _ _ _ h2 (f1 + f2) (d + 1) (by omega) (Nat.le_refl _))⟩
    | inr E =>
      have key : ∀ (E : Fin 3) (o : Option α), ab_af xs fin (d + 1) i loc P1 (ab_hnd zi.2.2.2.2.2 pc E.val) E.val o → o = some a → ab_big ab_pg xs f1 d j 0 [] (ab_ent0 av z.2.2.1) [] (ab_mk P) (.inr E.val) (ab_mk P1) → ∃ f, ab_big ab_pg xs f (d + 1) i pc ((ins, len, 600 :: j :: n :: r9) :: rest) loc st (ab_mk P) (fin a).1 (ab_mk (fin a).2) := fun E o ho e h1 => by
        generalize hh : ab_hnd zi.2.2.2.2.2 pc E.val = h at ho
        cases h with
        | none => rw [show o = none from ho] at e; cases e
        | some t =>
          have h3 : ∃ f2, ∀ q, ab_big ab_pg xs f2 (d + 1) i t [] loc [.inr (40, E.val, 0, q)] (ab_mk P1) (fin a).1 (ab_mk (fin a).2) := ho a e
          obtain ⟨f2, h2⟩ := h3
          refine ⟨f1 + f2 + 1, ab_big_call hc hst hn hsz hrv hz hfl (ab_big_up _ _ _ _ _ _ _ _ _ _ h1 (f1 + f2) d (by omega) (Nat.le_refl _)) (fun x2 e9 => ?_)⟩
          subst e9
          refine ⟨E.isLt, zi, hzi, ?_⟩
          rw [hh]
          exact fun q => ab_big_up _ _ _ _ _ _ _ _ _ _ (h2 q) (f1 + f2) (d + 1) (by omega) (Nat.le_refl _)
      by_cases h0 : E = 0
      · subst h0; exact key 0 (K0 P1) (k0 P1) e h1
      · by_cases h9 : E = 1
        · subst h9; exact key 1 (K1 P1) (k1 P1) e h1
        · have h8 : E = 2 := by omega
          subst h8; exact key 2 (K2 P1) (k2 P1) e h1
end TR
