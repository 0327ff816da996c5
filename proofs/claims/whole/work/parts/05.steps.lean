/-! one instruction that neither jumps nor calls, as a function of the locals, the stack and the numbers -/
abbrev ab_T : Type := List ab_V × List ab_V × ab_M
def ab_bi (f : Int32 → Int32 → Int32) (loc st : List ab_V) (M : ab_M) : Option ab_T := match st with
  | .inl (.int y) :: .inl (.int x) :: r => some (loc, .inl (.int (f x y)) :: r, M)
  | _ => none
def ab_ui (f : Int32 → Value) (loc st : List ab_V) (M : ab_M) : Option ab_T := match st with
  | .inl (.int x) :: r => some (loc, .inl (f x) :: r, M)
  | _ => none
def ab_bl (f : Int64 → Int64 → Value) (loc st : List ab_V) (M : ab_M) : Option ab_T := match st with
  | .inl (.long y) :: .inl (.long x) :: r => some (loc, .inl (f x y) :: r, M)
  | _ => none
def ab_sl (f : Int64 → Int32 → Int64) (loc st : List ab_V) (M : ab_M) : Option ab_T := match st with
  | .inl (.int y) :: .inl (.long x) :: r => some (loc, .inl (.long (f x y)) :: r, M)
  | _ => none
def ab_dv (f : Int32 → Int32 → Int32) (loc st : List ab_V) (M : ab_M) : Option ab_T := match st with
  | .inl (.int y) :: .inl (.int x) :: r => if y = 0 then none else some (loc, .inl (.int (f x y)) :: r, M)
  | _ => none
def ab_ldI (i : Nat) (loc st : List ab_V) (M : ab_M) : Option ab_T := match loc[i]? with
  | some (.inl (.int x)) => some (loc, .inl (.int x) :: st, M)
  | _ => none
def ab_ldL (i : Nat) (loc st : List ab_V) (M : ab_M) : Option ab_T := match loc[i]? with
  | some (.inl (.long x)) => some (loc, .inl (.long x) :: st, M)
  | _ => none
def ab_ldA (i : Nat) (loc st : List ab_V) (M : ab_M) : Option ab_T := match loc[i]? with
  | some (.inl .null) => some (loc, .inl .null :: st, M)
  | some (.inr (k, n, m, id)) => if k < 99 then some (loc, .inr (k, n, m, id) :: st, M) else none
  | _ => none
/-- a long that begins one place ahead is gone -/
def ab_kill (loc : List ab_V) (i : Nat) : List ab_V := match i with
  | 0 => loc
  | j + 1 => match loc[j]? with
    | some (.inl (.long _)) => loc.set j ab_top
    | _ => loc
def ab_stI (i : Nat) (loc st : List ab_V) (M : ab_M) : Option ab_T := match st with
  | .inl (.int x) :: r => if i < loc.length then some ((ab_kill loc i).set i (.inl (.int x)), r, M) else none
  | _ => none
def ab_stL (i : Nat) (loc st : List ab_V) (M : ab_M) : Option ab_T := match st with
  | .inl (.long x) :: r => if i + 1 < loc.length then some (((ab_kill loc i).set i (.inl (.long x))).set (i + 1) ab_top, r, M) else none
  | _ => none
def ab_stA (i : Nat) (loc st : List ab_V) (M : ab_M) : Option ab_T := match st with
  | .inl .null :: r => if i < loc.length then some ((ab_kill loc i).set i (.inl .null), r, M) else none
  | .inr (k, n, m, id) :: r => if i < loc.length then some ((ab_kill loc i).set i (.inr (k, n, m, id)), r, M) else none
  | _ => none
def ab_inc (i : Nat) (n : Int) (loc st : List ab_V) (M : ab_M) : Option ab_T := match loc[i]? with
  | some (.inl (.int x)) => if i < loc.length then some ((ab_kill loc i).set i (.inl (.int (x + Int32.ofInt n))), st, M) else none
  | _ => none
def ab_get (k j : Nat) (loc st : List ab_V) (M : ab_M) : Option ab_T := match st with
  | .inr (k', _, _, id) :: r => if k' = k then (match (ab_lay k)[j]? with
    | some 0 => some (loc, .inl (.int (M.1 id j)) :: r, M)
    | some 1 => some (loc, .inl (.long (M.2.1 id j)) :: r, M)
    | some 2 => some (loc, ab_wire k id j :: r, M)
    | _ => none) else none
  | _ => none
def ab_put (k j : Nat) (loc st : List ab_V) (M : ab_M) : Option ab_T := match st with
  | .inl (.int x) :: .inr (k', _, _, id) :: r => if k' = k then (match (ab_lay k)[j]? with
    | some 0 => some (loc, r, ab_setI M id j x)
    | _ => none) else none
  | .inl (.long x) :: .inr (k', _, _, id) :: r => if k' = k then (match (ab_lay k)[j]? with
    | some 1 => some (loc, r, ab_setL M id j x)
    | _ => none) else none
  | _ => none
abbrev ab_in (i : Int32) (n : Nat) : Prop := ¬ (i < 0 ∨ n ≤ i.toNatClampNeg)
/-- the script's ints stand under this id -/
abbrev ab_scr : Nat := 1000000
def ab_ald (loc st : List ab_V) (M : ab_M) : Option ab_T := match st with
  | .inl (.int i) :: .inr (20, n, _, id) :: r => if ab_in i n then some (loc, .inl (.int (M.1 id i.toNatClampNeg)) :: r, M) else none
  | .inl (.int i) :: .inr (31, n, _, _) :: r => if ab_in i n then some (loc, .inl (.int (M.1 ab_scr i.toNatClampNeg)) :: r, M) else none
  | _ => none
def ab_ast (loc st : List ab_V) (M : ab_M) : Option ab_T := match st with
  | .inl (.int x) :: .inl (.int i) :: .inr (20, n, _, id) :: r => if ab_in i n then some (loc, r, ab_setI M id i.toNatClampNeg x) else none
  | _ => none
def ab_bld (loc st : List ab_V) (M : ab_M) : Option ab_T := match st with
  | .inl (.int i) :: .inr (21, n, _, id) :: r => if ab_in i n then some (loc, .inl (.int (M.1 id i.toNatClampNeg)) :: r, M) else none
  | .inl (.int i) :: .inr (23, n, _, id) :: r => if ab_in i n then some (loc, .inl (.int (M.1 id i.toNatClampNeg)) :: r, M) else none
  | _ => none
def ab_bst (loc st : List ab_V) (M : ab_M) : Option ab_T := match st with
  | .inl (.int x) :: .inl (.int i) :: .inr (21, n, _, id) :: r => if ab_in i n then some (loc, r, ab_setI M id i.toNatClampNeg (vp_nar .byte x)) else none
  | .inl (.int x) :: .inl (.int i) :: .inr (23, n, _, id) :: r => if ab_in i n then some (loc, r, ab_setI M id i.toNatClampNeg (vp_nar .boolean x)) else none
  | _ => none
def ab_lld (loc st : List ab_V) (M : ab_M) : Option ab_T := match st with
  | .inl (.int i) :: .inr (22, n, _, id) :: r => if ab_in i n then some (loc, .inl (.long (M.2.1 id i.toNatClampNeg)) :: r, M) else none
  | _ => none
def ab_lst (loc st : List ab_V) (M : ab_M) : Option ab_T := match st with
  | .inl (.long x) :: .inl (.int i) :: .inr (22, n, _, id) :: r => if ab_in i n then some (loc, r, ab_setL M id i.toNatClampNeg x) else none
  | _ => none
/-- a ledger, or null -/
def ab_led (o : Option Nat) : ab_V := match o with
  | some r => .inr (6, 0, 0, r)
  | none => .inl .null
def ab_aald (loc st : List ab_V) (M : ab_M) : Option ab_T := match st with
  | .inl (.int i) :: .inr (24, n, m, id) :: r => if ab_in i n then some (loc, .inr (20, m, 0, id + 1 + i.toNatClampNeg) :: r, M) else none
  | .inl (.int i) :: .inr (25, n, _, id) :: r => if ab_in i n then some (loc, ab_led (M.2.2.1 id i.toNatClampNeg) :: r, M) else none
  | _ => none
def ab_aast (loc st : List ab_V) (M : ab_M) : Option ab_T := match st with
  | .inr (6, _, _, q) :: .inl (.int i) :: .inr (25, n, _, id) :: r => if ab_in i n then some (loc, r, ab_setR M id i.toNatClampNeg (some q)) else none
  | _ => none
def ab_len (loc st : List ab_V) (M : ab_M) : Option ab_T := match st with
  | .inr (k, n, _, _) :: r => if 20 ≤ k ∧ k ≤ 25 ∨ k = 31 then some (loc, .inl (.int (Int32.ofNat n)) :: r, M) else none
  | _ => none
/-- a value of one slot -/
def ab_c1 (v : ab_V) : Bool := match v with
  | .inl (.int _) => true
  | .inl .null => true
  | .inr (k, _, _, _) => decide (k < 99)
  | _ => false
def ab_dup (loc st : List ab_V) (M : ab_M) : Option ab_T := match st with
  | v :: r => if ab_c1 v = true then some (loc, v :: v :: r, M) else none
  | _ => none
def ab_pop (loc st : List ab_V) (M : ab_M) : Option ab_T := match st with
  | v :: r => if ab_c1 v = true then some (loc, r, M) else none
  | _ => none
def ab_dup2 (loc st : List ab_V) (M : ab_M) : Option ab_T := match st with
  | .inl (.long x) :: r => some (loc, .inl (.long x) :: .inl (.long x) :: r, M)
  | v :: w :: r => if ab_c1 v = true ∧ ab_c1 w = true then some (loc, v :: w :: v :: w :: r, M) else none
  | _ => none
def ab_lc (r : List Nat) : Int64 := match r with
  | [n] => Int64.ofNat n
  | _ => -1
/-- the numbers behind an instruction's row: getfield, putfield the class and the place; ldc the number -/
def ab_r0 (r : List Nat) : Nat := r.headD 0
def ab_r1 (r : List Nat) : Nat := r.tail.headD 0
def ab_step (ins : Instr) (r : List Nat) (loc st : List ab_V) (M : ab_M) : Option ab_T := match ins with
  | .nop => some (loc.set (ab_r0 r) ab_top, st, M)
  | .aconst_null => some (loc, .inl .null :: st, M)
  | .iconst n => some (loc, .inl (.int (Int32.ofInt n)) :: st, M)
  | .bipush n => some (loc, .inl (.int (Int32.ofInt n)) :: st, M)
  | .sipush n => some (loc, .inl (.int (Int32.ofInt n)) :: st, M)
  | .lconst n => some (loc, .inl (.long (Int64.ofNat (n : Nat))) :: st, M)
  | .ldc _ => some (loc, .inl (.int (Int32.ofNat (ab_r0 r))) :: st, M)
  | .ldc_w _ => some (loc, .inl (.int (Int32.ofNat (ab_r0 r))) :: st, M)
  | .ldc2_w _ => some (loc, .inl (.long (ab_lc r)) :: st, M)
  | .iload_n k => ab_ldI k loc st M
  | .iload i => ab_ldI i loc st M
  | .lload_n k => ab_ldL k loc st M
  | .lload i => ab_ldL i loc st M
  | .aload_n k => ab_ldA k loc st M
  | .aload i => ab_ldA i loc st M
  | .istore_n k => ab_stI k loc st M
  | .istore i => ab_stI i loc st M
  | .lstore_n k => ab_stL k loc st M
  | .lstore i => ab_stL i loc st M
  | .astore_n k => ab_stA k loc st M
  | .astore i => ab_stA i loc st M
  | .iinc i n => ab_inc i n loc st M
  | .iadd => ab_bi (fun x y => x + y) loc st M
  | .isub => ab_bi (fun x y => x - y) loc st M
  | .imul => ab_bi (fun x y => x * y) loc st M
  | .iand => ab_bi (fun x y => x &&& y) loc st M
  | .ior => ab_bi (fun x y => x ||| y) loc st M
  | .ixor => ab_bi (fun x y => x ^^^ y) loc st M
  | .ishl => ab_bi (fun x y => x <<< (y &&& 31)) loc st M
  | .ishr => ab_bi (fun x y => x >>> (y &&& 31)) loc st M
  | .iushr => ab_bi (fun x y => (x.toUInt32 >>> (y.toUInt32 &&& Int32.toUInt32 31)).toInt32) loc st M
  | .idiv => ab_dv (fun x y => x / y) loc st M
  | .irem => ab_dv (fun x y => x - x / y * y) loc st M
  | .ineg => ab_ui (fun x => .int (-x)) loc st M
  | .i2l => ab_ui (fun x => .long x.toInt64) loc st M
  | .i2b => ab_ui (fun x => .int x.toInt8.toInt32) loc st M
  | .ladd => ab_bl (fun x y => .long (x + y)) loc st M
  | .lsub => ab_bl (fun x y => .long (x - y)) loc st M
  | .lmul => ab_bl (fun x y => .long (x * y)) loc st M
  | .land => ab_bl (fun x y => .long (x &&& y)) loc st M
  | .lor => ab_bl (fun x y => .long (x ||| y)) loc st M
  | .lcmp => ab_bl (fun x y => .int (lg_cmp x y)) loc st M
  | .lshl => ab_sl (fun x y => x <<< (y.toInt64 &&& 63)) loc st M
  | .lshr => ab_sl (fun x y => x >>> (y.toInt64 &&& 63)) loc st M
  | .lushr => ab_sl (fun x y => (x.toUInt64 >>> (y.toInt64.toUInt64 &&& Int64.toUInt64 63)).toInt64) loc st M
  | .dup => ab_dup loc st M
  | .dup2 => ab_dup2 loc st M
  | .pop => ab_pop loc st M
  | .getfield _ => ab_get (ab_r0 r) (ab_r1 r) loc st M
  | .putfield _ => ab_put (ab_r0 r) (ab_r1 r) loc st M
  | .iaload => ab_ald loc st M
  | .iastore => ab_ast loc st M
  | .baload => ab_bld loc st M
  | .bastore => ab_bst loc st M
  | .laload => ab_lld loc st M
  | .lastore => ab_lst loc st M
  | .aaload => ab_aald loc st M
  | .aastore => ab_aast loc st M
  | .arraylength => ab_len loc st M
  | _ => none
theorem ab_t1 : ab_step .iadd [] [] [.inl (.int 2), .inl (.int 3)] (fun _ _ => 0, fun _ _ => 0, fun _ _ => none, fun _ => (0, 0, 0), 0, 0, 0) = some ([], [.inl (.int (3 + 2))], (fun _ _ => 0, fun _ _ => 0, fun _ _ => none, fun _ => (0, 0, 0), 0, 0, 0)) := rfl
