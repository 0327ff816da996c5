/-! the abstract machine runs: methods by numbers, their rows by the places where blocks begin -/
/-- a method: its name, bytes, locals, result, the table of its handlers (real; abstract: from, to, where, what) -/
abbrev ab_Mi : Type := MethodName × ByteArray × Nat × Option FieldType × List (Nat × Nat × Nat × Nat) × List (Nat × Nat × Nat × Nat)
abbrev ab_PG : Type := (Nat → Option ab_Mi) × (Nat → Nat → Option (List ab_Row))
abbrev ab_X : Type := Option ab_V ⊕ Nat
def ab_cd (c : ClassFile.Cond) (x y : Int32) : Prop := match c with
  | .eq => x = y
  | .ne => ¬ x = y
  | .lt => x < y
  | .ge => y ≤ x
  | .gt => y < x
  | .le => x ≤ y
/-- the locals at a method's begin -/
def ab_lay1 (v : ab_V) : List ab_V := match v with
  | .inl (.long x) => [.inl (.long x), ab_top]
  | w => [w]
def ab_ent0 (args : List ab_V) (nL : Nat) : List ab_V := (args.flatMap ab_lay1) ++ List.replicate (nL - (args.flatMap ab_lay1).length) ab_top
/-- where the handler of E at pc is -/
def ab_hnd (hs : List (Nat × Nat × Nat × Nat)) (pc E : Nat) : Option Nat := match hs with
  | [] => none
  | h :: r => if h.1 ≤ pc ∧ pc < h.2.1 ∧ h.2.2.2 = E then some h.2.2.1 else ab_hnd r pc E
/-- the switch: its row's numbers are the places of its cases, and the other one's last -/
def ab_sw (lo hi : Int) (r : List Nat) (x : Int32) : Option Nat := if x.toInt < lo ∨ hi < x.toInt then r.getLast? else r[(x.toInt - lo).toNat]?
def ab_nv (ty : Option FieldType) (v : Int32) : Prop := ∃ t, ty = some t ∧ narrow t (.int v) = .int v
/-- a call's result on the stack -/
def ab_rs (v : Option ab_V) (st : List ab_V) : List ab_V := match v with
  | some w => w :: st
  | none => st
/-- whom a call is made on, as its row says -/
def ab_rv (r : List Nat) (args : List ab_V) : Prop := match r with
  | _ :: _ :: _ :: 0 :: _ :: _ :: _ :: rk :: _ => (match args with
    | .inr (k, n, _, id) :: _ => k = rk ∧ (k < 13 ∨ (k = 30 ∧ id = 2 + 2 * n ∧ n < 3))
    | _ => False)
  | _ :: _ :: _ :: 1 :: _ => True
  | _ :: _ :: _ :: 3 :: _ => True
  | _ :: _ :: _ :: 5 :: _ => True
  | _ => (match args with
    | .inr (k, _, _, _) :: _ => k < 13
    | _ => False)
def ab_big (G : ab_PG) (xs : Nat × (Nat → Int32)) : Nat → Nat → Nat → Nat → List ab_Row → List ab_V → List ab_V → ab_M → ab_X → ab_M → Prop
  | 0, _, _, _, _, _, _, _, _, _ => False
  | f + 1, d, i, pc, [], loc, st, M, x, M' => ∃ rows, G.2 i pc = some rows ∧ rows ≠ [] ∧ ab_big G xs f d i pc rows loc st M x M'
  | f + 1, d, i, pc, (ins, len, r) :: rest, loc, st, M, x, M' => match ins with
    | .goto _ => ab_big G xs f d i (ab_r0 r) [] loc st M x M'
    | .ifCond cd _ => (match st with
      | .inl (.int a) :: st' => (ab_cd cd a 0 ∧ ab_big G xs f d i (ab_r0 r) [] loc st' M x M') ∨ (¬ ab_cd cd a 0 ∧ ab_big G xs f d i (pc + len) rest loc st' M x M')
      | _ => False)
    | .if_icmp cd _ => (match st with
      | .inl (.int b) :: .inl (.int a) :: st' => (ab_cd cd a b ∧ ab_big G xs f d i (ab_r0 r) [] loc st' M x M') ∨ (¬ ab_cd cd a b ∧ ab_big G xs f d i (pc + len) rest loc st' M x M')
      | _ => False)
    | .ifnull _ => (match st with
      | .inl .null :: st' => ab_big G xs f d i (ab_r0 r) [] loc st' M x M'
      | .inr (k, _, _, _) :: st' => k < 30 ∧ ab_big G xs f d i (pc + len) rest loc st' M x M'
      | _ => False)
    | .ifnonnull _ => (match st with
      | .inl .null :: st' => ab_big G xs f d i (pc + len) rest loc st' M x M'
      | .inr (k, _, _, _) :: st' => k < 30 ∧ ab_big G xs f d i (ab_r0 r) [] loc st' M x M'
      | _ => False)
    | .tableswitch _ lo hi _ => (match st with
      | .inl (.int a) :: st' => ∃ tgt, ab_sw lo hi r a = some tgt ∧ ab_big G xs f d i tgt [] loc st' M x M'
      | _ => False)
    | .ireturn => (match st with
      | [.inl (.int v)] => (∃ z, G.1 i = some z ∧ ab_nv z.2.2.2.1 v) ∧ x = .inl (some (.inl (.int v))) ∧ M' = M
      | _ => False)
    | .lreturn => (match st with
      | [.inl (.long v)] => (∃ z, G.1 i = some z ∧ z.2.2.2.1 = some .long) ∧ x = .inl (some (.inl (.long v))) ∧ M' = M
      | _ => False)
    | .return_ => (match st with
      | [] => (∃ z, G.1 i = some z ∧ z.2.2.2.1 = none) ∧ x = .inl none ∧ M' = M
      | _ => False)
    | _ => match r with
      | 500 :: E :: _ => x = .inr E ∧ st = [] ∧ (∃ z, G.1 i = some z ∧ z.2.2.2.2.1 = []) ∧ M' = (M.1, M.2.1, M.2.2.1, M.2.2.2.1, M.2.2.2.2.1, M.2.2.2.2.2.1 + 1, M.2.2.2.2.2.2 + 6)
      | 600 :: j :: n :: _ => ∃ d', d = d' + 1 ∧ n ≤ st.length ∧ (ab_szs (st.drop n) ≤ 8 ∧ ab_rv r (st.take n).reverse) ∧ ∃ z x1 M1, G.1 j = some z ∧ (((st.take n).reverse).flatMap ab_lay1).length ≤ z.2.2.1 ∧ ab_big G xs f d' j 0 [] (ab_ent0 (st.take n).reverse z.2.2.1) [] M x1 M1 ∧
        (match x1 with
          | .inl v => ab_big G xs f d i (pc + len) rest loc (ab_rs v (st.drop n)) M1 x M'
          | .inr E => E < 3 ∧ ∃ zi, G.1 i = some zi ∧ (match ab_hnd zi.2.2.2.2.2 pc E with
            | some h => ∀ q, ab_big G xs f d i h [] loc [.inr (40, E, 0, q)] M1 x M'
            | none => x = .inr E ∧ M' = M1))
      | _ => (match ab_step xs ins r loc st M with
        | some (vc, loc', st', M2) => vc ∧ ab_big G xs f d i (pc + len) rest loc' st' M2 x M'
        | none => False)
/-- nothing is unmade, no kind is another -/
def ab_le (M M' : ab_M) : Prop := M.2.2.2.2.1 ≤ M'.2.2.2.2.1 ∧ M.2.2.2.2.2.1 ≤ M'.2.2.2.2.2.1 ∧ M.2.2.2.2.2.2 ≤ M'.2.2.2.2.2.2 ∧ ∀ id, id < M.2.2.2.2.1 → M'.2.2.2.1 id = M.2.2.2.1 id
theorem ab_step_mono {xs : Nat × (Nat → Int32)} {ins : Instr} {r : List Nat} {loc loc' st st' : List ab_V} {M M' : ab_M} {vc : Prop} (h : ab_step xs ins r loc st M = some (vc, loc', st', M')) : ab_le M M' := by
  have same : M'.2.2.2 = M.2.2.2 → ab_le M M' := fun e => by
    unfold ab_le
    rw [e]; exact ⟨Nat.le_refl _, Nat.le_refl _, Nat.le_refl _, fun _ _ => rfl⟩
  have nw : ∀ x k, ab_le M (ab_new M x k) := fun x k => ⟨Nat.le_succ _, Nat.le_succ _, Nat.le_add_right _ _, fun id hi => by show ab_upS M.2.2.2.1 M.2.2.2.2.1 x id = _; rw [ab_upS, if_neg (by omega)]⟩
  cases ins <;> simp only [ab_step] at h <;> first
    | (cases h; done)
    | (cases h; exact same rfl)
    | (unfold ab_nwo at h; split at h <;> first | (cases h; done) | (split at h <;> first | (cases h; done) | (cases h; exact nw _ _)))
    | (unfold ab_nwa at h; split at h <;> first | (cases h; done) | (cases h; exact nw _ _))
    | (unfold ab_nwg at h; split at h <;> first | (cases h; done) | (cases h; refine ⟨?_, ?_, ?_, ?_⟩ <;> first | (simp only [ab_grid]; omega) | (intro id hi; simp only [ab_grid]; rw [if_neg (by omega), if_neg (by omega)])))
    | (unfold ab_get at h; repeat' split at h) <;> first | (cases h; done) | (cases h; exact same rfl)
    | (unfold ab_put at h; repeat' split at h) <;> first | (cases h; done) | (cases h; exact same rfl)
    | (unfold ab_bi at h; split at h) <;> first | (cases h; done) | (cases h; exact same rfl)
    | (unfold ab_ui at h; split at h) <;> first | (cases h; done) | (cases h; exact same rfl)
    | (unfold ab_bl at h; split at h) <;> first | (cases h; done) | (cases h; exact same rfl)
    | (unfold ab_sl at h; split at h) <;> first | (cases h; done) | (cases h; exact same rfl)
    | (unfold ab_dv at h; split at h) <;> first | (cases h; done) | (cases h; exact same rfl)
    | (unfold ab_ldI at h; split at h) <;> first | (cases h; done) | (cases h; exact same rfl)
    | (unfold ab_ldL at h; split at h) <;> first | (cases h; done) | (cases h; exact same rfl)
    | (unfold ab_ldA at h; repeat' split at h) <;> first | (cases h; done) | (cases h; exact same rfl)
    | (unfold ab_stI at h; repeat' split at h) <;> first | (cases h; done) | (cases h; exact same rfl)
    | (unfold ab_stL at h; repeat' split at h) <;> first | (cases h; done) | (cases h; exact same rfl)
    | (unfold ab_stA at h; repeat' split at h) <;> first | (cases h; done) | (cases h; exact same rfl)
    | (unfold ab_inc at h; repeat' split at h) <;> first | (cases h; done) | (cases h; exact same rfl)
    | (unfold ab_dup at h; repeat' split at h) <;> first | (cases h; done) | (cases h; exact same rfl)
    | (unfold ab_pop at h; repeat' split at h) <;> first | (cases h; done) | (cases h; exact same rfl)
    | (unfold ab_dup2 at h; repeat' split at h) <;> first | (cases h; done) | (cases h; exact same rfl)
    | (unfold ab_ldc at h; repeat' split at h) <;> first | (cases h; done) | (cases h; exact same rfl)
    | (unfold ab_gst at h; repeat' split at h) <;> first | (cases h; done) | (cases h; exact same rfl)
    | (unfold ab_ald at h; repeat' split at h) <;> first | (cases h; done) | (cases h; exact same rfl)
    | (unfold ab_ast at h; repeat' split at h) <;> first | (cases h; done) | (cases h; exact same rfl)
    | (unfold ab_bld at h; repeat' split at h) <;> first | (cases h; done) | (cases h; exact same rfl)
    | (unfold ab_bst at h; repeat' split at h) <;> first | (cases h; done) | (cases h; exact same rfl)
    | (unfold ab_lld at h; repeat' split at h) <;> first | (cases h; done) | (cases h; exact same rfl)
    | (unfold ab_lst at h; repeat' split at h) <;> first | (cases h; done) | (cases h; exact same rfl)
    | (unfold ab_aald at h; repeat' split at h) <;> first | (cases h; done) | (cases h; exact same rfl)
    | (unfold ab_aast at h; repeat' split at h) <;> first | (cases h; done) | (cases h; exact same rfl)
    | (unfold ab_len at h; repeat' split at h) <;> first | (cases h; done) | (cases h; exact same rfl)
    | (unfold ab_ivs ab_mi ab_ck ab_cpy at h; repeat' split at h) <;> first | (cases h; done) | (cases h; exact same rfl)
    | (unfold ab_oi at h; repeat' split at h) <;> first | (cases h; done) | (cases h; exact same rfl)
