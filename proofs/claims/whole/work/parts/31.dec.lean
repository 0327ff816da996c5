/-! what the printed functions and their proofs name -/
theorem ab_vi {i : Int32} {n : Nat} (h : ab_gi i n) : vp_in i n := h
def ab_cdb (c : ClassFile.Cond) (x y : Int32) : Bool := match c with
  | .eq => decide (x = y)
  | .ne => decide (¬ x = y)
  | .lt => decide (x < y)
  | .ge => decide (y ≤ x)
  | .gt => decide (y < x)
  | .le => decide (x ≤ y)
theorem ab_cdT {c : ClassFile.Cond} {x y : Int32} (h : ab_cdb c x y = true) : ab_cd c x y := by
  cases c <;> (simp only [ab_cdb, decide_eq_true_eq] at h; exact h)
theorem ab_cdF {c : ClassFile.Cond} {x y : Int32} (h : ab_cdb c x y = false) : ¬ ab_cd c x y := by
  cases c <;> (simp only [ab_cdb, decide_eq_false_iff_not] at h; exact h)
theorem ab_grl {n m id : Nat} {i : Int32} (h : vp_in i n) : ab_gr n m id i.toNatClampNeg = .inr (20, m, 0, id + 1 + i.toNatClampNeg) := by
  unfold ab_gr
  rw [if_pos]
  unfold vp_in at h
  omega
abbrev ab_pC (P : ab_P) (d : Nat) (row : Nat → Int32) (sp dp n : Nat) : ab_P := (ab_rowI P.1 d (va_cpy row (P.1 d) sp dp n), P.2)
theorem ab_nar {ty : FieldType} {v : Int32} (ht : (match ty with | .boolean => true | .byte => true | .char => true | _ => false) = true) (h : vp_nar ty v = v) : narrow ty (.int v) = .int v := by
  unfold vp_nar at h
  cases ty <;> first | (cases ht; done) | (exact congrArg Value.int h)
/-- no case of the switch -/
def ab_ne (x : Int32) (lo : Int) (k : Nat) : Prop := match k with
  | 0 => True
  | k + 1 => ¬ x.toInt = lo ∧ ab_ne x (lo + 1) k
theorem ab_ne_i {x : Int32} : ∀ {k : Nat} {lo : Int}, ab_ne x lo k → x.toInt < lo ∨ lo + k ≤ x.toInt
  | 0, lo, _ => by omega
  | k + 1, lo, h => by
    have h1 := ab_ne_i h.2
    have h2 := h.1
    omega
theorem ab_swd {lo hi : Int} {r : List Nat} {x : Int32} {t k : Nat} (hk : lo + k = hi + 1) (ht : r.getLast? = some t) (h : ab_ne x lo k) : ab_sw lo hi r x = some t := by
  unfold ab_sw
  rw [if_pos]
  · exact ht
  · have := ab_ne_i h
    omega
theorem ab_nei {x c : Int32} (h : ¬ x = c) {n : Int} (hn : c.toInt = n) : ¬ x.toInt = n := fun e => h (Int32.toInt_inj.mp (e.trans hn.symm))
section TR
variable {α : Type} {xs : Nat × (Nat → Int32)} {fin : α → ab_X × ab_P} {d i pc : Nat} {rows : List ab_Row} {loc st : List ab_V} {P : ab_P} {o : Option α}
theorem tr_up {d1 : Nat} (h : d1 ≤ d) (k : ab_tr xs fin d1 i pc rows loc st P o) : ab_tr xs fin d i pc rows loc st P o := fun a e => by
  obtain ⟨f, hf⟩ := k a e
  exact ⟨f, ab_big_up _ _ _ _ _ _ _ _ _ _ hf _ _ (Nat.le_refl _) h⟩
theorem tr_sh {v : Option Nat} {K : Nat → Option α} (k : ∀ q, ab_tr xs fin d i pc rows loc (.inr (6, 0, 0, q) :: st) P (K q)) : ab_tr xs fin d i pc rows loc (ab_lg v :: st) P (v.bind K) := by
  cases v with
  | none => exact tr_no
  | some q => exact k q
variable {ins : Instr} {len j n : Nat} {r9 : List Nat} {rest : List ab_Row} {st' av : List ab_V} {z : ab_Mi}
theorem tr_cRI {g : Option Int32} {K : Int32 → Option α} (hc : ab_ctl ins = false) (hst : st = av.reverse ++ st') (hn : av.length = n) (hsz : ab_szs st' ≤ 8) (hrv : ab_rv (600 :: j :: n :: r9) av) (hz : ab_pg.1 j = some z) (hfl : (av.flatMap ab_lay1).length ≤ z.2.2.1)
    (hm : ab_tr xs (rI P) d j 0 [] (ab_ent0 av z.2.2.1) [] P g) (k : ∀ v, ab_tr xs fin (d + 1) i (pc + len) rest loc (.inl (.int v) :: st') P (K v)) : ab_tr xs fin (d + 1) i pc ((ins, len, 600 :: j :: n :: r9) :: rest) loc st P (g.bind K) :=
  tr_call (fun v => some (.inl (.int v))) (fun _ => P) (fun _ => rfl) hc hst hn hsz hrv hz hfl hm k
theorem tr_cRL {g : Option Int64} {K : Int64 → Option α} (hc : ab_ctl ins = false) (hst : st = av.reverse ++ st') (hn : av.length = n) (hsz : ab_szs st' ≤ 8) (hrv : ab_rv (600 :: j :: n :: r9) av) (hz : ab_pg.1 j = some z) (hfl : (av.flatMap ab_lay1).length ≤ z.2.2.1)
    (hm : ab_tr xs (rL P) d j 0 [] (ab_ent0 av z.2.2.1) [] P g) (k : ∀ v, ab_tr xs fin (d + 1) i (pc + len) rest loc (.inl (.long v) :: st') P (K v)) : ab_tr xs fin (d + 1) i pc ((ins, len, 600 :: j :: n :: r9) :: rest) loc st P (g.bind K) :=
  tr_call (fun v => some (.inl (.long v))) (fun _ => P) (fun _ => rfl) hc hst hn hsz hrv hz hfl hm k
abbrev rV (P : ab_P) (_ : Unit) : ab_X × ab_P := (iV, P)
theorem tr_cRV {g : Option Unit} {K : Unit → Option α} (hc : ab_ctl ins = false) (hst : st = av.reverse ++ st') (hn : av.length = n) (hsz : ab_szs st' ≤ 8) (hrv : ab_rv (600 :: j :: n :: r9) av) (hz : ab_pg.1 j = some z) (hfl : (av.flatMap ab_lay1).length ≤ z.2.2.1)
    (hm : ab_tr xs (rV P) d j 0 [] (ab_ent0 av z.2.2.1) [] P g) (k : ∀ v, ab_tr xs fin (d + 1) i (pc + len) rest loc st' P (K v)) : ab_tr xs fin (d + 1) i pc ((ins, len, 600 :: j :: n :: r9) :: rest) loc st P (g.bind K) :=
  tr_call (fun _ => none) (fun _ => P) (fun _ => rfl) hc hst hn hsz hrv hz hfl hm k
theorem tr_cWI {g : Option (Int32 × ab_P)} {K : Int32 → ab_P → Option α} (hc : ab_ctl ins = false) (hst : st = av.reverse ++ st') (hn : av.length = n) (hsz : ab_szs st' ≤ 8) (hrv : ab_rv (600 :: j :: n :: r9) av) (hz : ab_pg.1 j = some z) (hfl : (av.flatMap ab_lay1).length ≤ z.2.2.1)
    (hm : ab_tr xs wI d j 0 [] (ab_ent0 av z.2.2.1) [] P g) (k : ∀ v P1, ab_tr xs fin (d + 1) i (pc + len) rest loc (.inl (.int v) :: st') P1 (K v P1)) : ab_tr xs fin (d + 1) i pc ((ins, len, 600 :: j :: n :: r9) :: rest) loc st P (ab_b2 g K) :=
  tr_call (K := fun q => K q.1 q.2) (fun (q : Int32 × ab_P) => some (.inl (.int q.1))) (fun q => q.2) (fun _ => rfl) hc hst hn hsz hrv hz hfl hm (fun q => k q.1 q.2)
theorem tr_cWL {g : Option (Int64 × ab_P)} {K : Int64 → ab_P → Option α} (hc : ab_ctl ins = false) (hst : st = av.reverse ++ st') (hn : av.length = n) (hsz : ab_szs st' ≤ 8) (hrv : ab_rv (600 :: j :: n :: r9) av) (hz : ab_pg.1 j = some z) (hfl : (av.flatMap ab_lay1).length ≤ z.2.2.1)
    (hm : ab_tr xs wL d j 0 [] (ab_ent0 av z.2.2.1) [] P g) (k : ∀ v P1, ab_tr xs fin (d + 1) i (pc + len) rest loc (.inl (.long v) :: st') P1 (K v P1)) : ab_tr xs fin (d + 1) i pc ((ins, len, 600 :: j :: n :: r9) :: rest) loc st P (ab_b2 g K) :=
  tr_call (K := fun q => K q.1 q.2) (fun (q : Int64 × ab_P) => some (.inl (.long q.1))) (fun q => q.2) (fun _ => rfl) hc hst hn hsz hrv hz hfl hm (fun q => k q.1 q.2)
theorem tr_cWV {g : Option ab_P} {K : ab_P → Option α} (hc : ab_ctl ins = false) (hst : st = av.reverse ++ st') (hn : av.length = n) (hsz : ab_szs st' ≤ 8) (hrv : ab_rv (600 :: j :: n :: r9) av) (hz : ab_pg.1 j = some z) (hfl : (av.flatMap ab_lay1).length ≤ z.2.2.1)
    (hm : ab_tr xs wV d j 0 [] (ab_ent0 av z.2.2.1) [] P g) (k : ∀ P1, ab_tr xs fin (d + 1) i (pc + len) rest loc st' P1 (K P1)) : ab_tr xs fin (d + 1) i pc ((ins, len, 600 :: j :: n :: r9) :: rest) loc st P (g.bind K) :=
  tr_call (fun _ => none) (fun q => q) (fun _ => rfl) hc hst hn hsz hrv hz hfl hm k
end TR
/-! a shelf's place: the ledger made there when it is wanted first -/
def ab_tm {α : Type} (xs : Nat × (Nat → Int32)) (fin : α → ab_X × ab_P) (d i pc : Nat) (rows : List ab_Row) (loc st : List ab_V) (M : ab_M) (o : Option α) : Prop := ∀ a, o = some a → ∃ f, ab_big ab_pg xs f d i pc rows loc st M (fin a).1 (ab_mk (fin a).2)
theorem tm_blk {α : Type} {xs : Nat × (Nat → Int32)} {fin : α → ab_X × ab_P} {d i pc : Nat} {rows : List ab_Row} {loc st : List ab_V} {M : ab_M} {o : Option α} (n : Nat) {vc : Prop} {pc' : Nat} {rows' : List ab_Row} {loc' st' : List ab_V} {M1 : ab_M} (h : ab_blk xs n pc rows loc st M = some (vc, pc', rows', loc', st', M1)) (hv : vc) (k : ab_tm xs fin d i pc' rows' loc' st' M1 o) : ab_tm xs fin d i pc rows loc st M o := fun a e => by
  obtain ⟨f, hf⟩ := k a e
  exact ⟨f + n, ab_blk_ok n _ _ _ _ _ _ _ _ _ _ _ h hv hf⟩
theorem tm_cal {α : Type} {xs : Nat × (Nat → Int32)} {fin : α → ab_X × ab_P} {d i pc : Nat} {loc st : List ab_V} {M M1 : ab_M} {o : Option α} {ins : Instr} {len j n : Nat} {r9 : List Nat} {rest : List ab_Row} {st' av : List ab_V} {z : ab_Mi} (hc : ab_ctl ins = false) (hst : st = av.reverse ++ st') (hn : av.length = n) (hsz : ab_szs st' ≤ 8) (hrv : ab_rv (600 :: j :: n :: r9) av) (hz : ab_pg.1 j = some z) (hfl : (av.flatMap ab_lay1).length ≤ z.2.2.1)
    (hm : ∃ f, ab_big ab_pg xs f d j 0 [] (ab_ent0 av z.2.2.1) [] M (.inl none) M1) (k : ab_tm xs fin (d + 1) i (pc + len) rest loc st' M1 o) : ab_tm xs fin (d + 1) i pc ((ins, len, 600 :: j :: n :: r9) :: rest) loc st M o := fun a e => by
  obtain ⟨f1, h1⟩ := hm
  obtain ⟨f2, h2⟩ := k a e
  exact ⟨f1 + f2 + 1, ab_big_call hc hst hn hsz hrv hz hfl (ab_big_up _ _ _ _ _ _ _ _ _ _ h1 (f1 + f2) d (by omega) (Nat.le_refl _)) (fun _ e9 => by subst e9; exact ab_big_up _ _ _ _ _ _ _ _ _ _ h2 (f1 + f2) (d + 1) (by omega) (Nat.le_refl _))⟩
