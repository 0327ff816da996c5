/-! one instruction that neither jumps nor calls, as a function of the locals, the stack and the numbers; ahead of these what must hold for it to run through -/
abbrev ab_T : Type := Prop × List ab_V × List ab_V × ab_M
def ab_bi (f : Int32 → Int32 → Int32) (loc st : List ab_V) (M : ab_M) : Option ab_T := match st with
  | .inl (.int y) :: .inl (.int x) :: r => some (True, loc, .inl (.int (f x y)) :: r, M)
  | _ => none
def ab_ui (f : Int32 → Value) (loc st : List ab_V) (M : ab_M) : Option ab_T := match st with
  | .inl (.int x) :: r => some (True, loc, .inl (f x) :: r, M)
  | _ => none
def ab_bl (f : Int64 → Int64 → Value) (loc st : List ab_V) (M : ab_M) : Option ab_T := match st with
  | .inl (.long y) :: .inl (.long x) :: r => some (True, loc, .inl (f x y) :: r, M)
  | _ => none
def ab_sl (f : Int64 → Int32 → Int64) (loc st : List ab_V) (M : ab_M) : Option ab_T := match st with
  | .inl (.int y) :: .inl (.long x) :: r => some (True, loc, .inl (.long (f x y)) :: r, M)
  | _ => none
def ab_dv (f : Int32 → Int32 → Int32) (loc st : List ab_V) (M : ab_M) : Option ab_T := match st with
  | .inl (.int y) :: .inl (.int x) :: r => some (¬ y = 0, loc, .inl (.int (f x y)) :: r, M)
  | _ => none
def ab_ldI (i : Nat) (loc st : List ab_V) (M : ab_M) : Option ab_T := match loc[i]? with
  | some (.inl (.int x)) => some (True, loc, .inl (.int x) :: st, M)
  | _ => none
def ab_ldL (i : Nat) (loc st : List ab_V) (M : ab_M) : Option ab_T := match loc[i]? with
  | some (.inl (.long x)) => some (True, loc, .inl (.long x) :: st, M)
  | _ => none
def ab_ldA (i : Nat) (loc st : List ab_V) (M : ab_M) : Option ab_T := match loc[i]? with
  | some (.inr (k, n, m, id)) => if k < 99 then some (True, loc, .inr (k, n, m, id) :: st, M) else none
  | _ => none
/-- a long that begins one place ahead is gone -/
def ab_kill (loc : List ab_V) (i : Nat) : List ab_V := match i with
  | 0 => loc
  | j + 1 => match loc[j]? with
    | some (.inl (.long _)) => loc.set j ab_top
    | _ => loc
def ab_stI (i : Nat) (loc st : List ab_V) (M : ab_M) : Option ab_T := match st with
  | .inl (.int x) :: r => if i < loc.length then some (True, (ab_kill loc i).set i (.inl (.int x)), r, M) else none
  | _ => none
def ab_stL (i : Nat) (loc st : List ab_V) (M : ab_M) : Option ab_T := match st with
  | .inl (.long x) :: r => if i + 1 < loc.length then some (True, ((ab_kill loc i).set i (.inl (.long x))).set (i + 1) ab_top, r, M) else none
  | _ => none
def ab_stA (i : Nat) (loc st : List ab_V) (M : ab_M) : Option ab_T := match st with
  | .inr (k, n, m, id) :: r => if i < loc.length ∧ k < 99 then some (True, (ab_kill loc i).set i (.inr (k, n, m, id)), r, M) else none
  | _ => none
/-- a small constant -/
def ab_k (n : Int) : Int32 := match n with
  | .ofNat k => Int32.ofNat k
  | .negSucc k => -Int32.ofNat (k + 1)
def ab_inc (i : Nat) (n : Int) (loc st : List ab_V) (M : ab_M) : Option ab_T := match loc[i]? with
  | some (.inl (.int x)) => if i < loc.length then some (True, (ab_kill loc i).set i (.inl (.int (x + ab_k n))), st, M) else none
  | _ => none
/-- how long the text of a number is, and its bytes -/
def ab_txs : List (List Nat) := [
  [112,101,114,115,111,110,32,119,114,111,110,103,32,102,97,108,115,101,32,105,110,116,101,114,101,115,116,32,98,105,116,101],
  [115,105,122,101,32,97,103,101,32,116,101,109,112,101,114,32,104,101,97,116,32,112,97,115,115,101,100,32,116,111,108,100,32,100,97,121,32,104,101,108,100,32,108,101,97,115,116,32,109,111,115,116],
  [100,97,121,32,115,108,97,112,32,112,97,115,115,32,115,112,108,105,116,32,106,111,105,110,32,116,101,108,108,32,115,111,114,114,121,32,119,114,111,110,103,108,121,32,102,111,114,103,105,118,101,32,112,97,121]]
def ab_txl (t : Nat) : Nat := ((ab_txs[t]?).getD []).length
def ab_txc (t j : Nat) : Int32 := Int32.ofNat ((((ab_txs[t]?).getD [])[j]?).getD 0)
/-- the static row -/
def ab_wo (j : Nat) : Int32 := Int32.ofNat (([50, 5, 1002, 2002, 2000, 1005, 2001][j]?).getD 0)
def ab_get (k j : Nat) (loc st : List ab_V) (M : ab_M) : Option ab_T := match st with
  | .inr (k', n, _, id) :: r => if k' = k then (if k = 30 then (if id = 2 + 2 * n ∧ n < 3 then (match j with
      | 0 => some (True, loc, .inr (33, ab_txl n, n, 3 + 2 * n) :: r, M)
      | 1 => some (True, loc, .inl (.int 0) :: r, M)
      | _ => none) else none) else (match (ab_lay k)[j]? with
    | some 0 => some (True, loc, .inl (.int (M.1 id j)) :: r, M)
    | some 1 => some (True, loc, .inl (.long (M.2.1 id j)) :: r, M)
    | some 2 => some (True, loc, M.2.2.1 k id j :: r, M)
    | _ => none)) else none
  | _ => none
/-- the same field, when the thing it holds is known to be x: no step of a row, but what a proof may take for one -/
def ab_put (k j : Nat) (loc st : List ab_V) (M : ab_M) : Option ab_T := match st with
  | v :: .inr (k', _, _, id) :: r => if k' = k then (match (ab_lay k)[j]? with
    | some 0 => (match v with
      | .inl (.int x) => some (True, loc, r, ab_setI M id j x)
      | _ => none)
    | some 1 => (match v with
      | .inl (.long x) => some (True, loc, r, ab_setL M id j x)
      | _ => none)
    | some 2 => (match v with
      | .inr (k2, n2, m2, q) => if k2 < 30 then some (True, loc, r, ab_setR M k id j (.inr (k2, n2, m2, q))) else none
      | _ => none)
    | _ => none) else none
  | _ => none
abbrev ab_scr : Nat := 0
def ab_ald (xs : Nat × (Nat → Int32)) (loc st : List ab_V) (M : ab_M) : Option ab_T := match st with
  | .inl (.int i) :: .inr (20, n, _, id) :: r => some (vp_in i n, loc, .inl (.int (M.1 id i.toNatClampNeg)) :: r, M)
  | .inl (.int i) :: .inr (31, n, _, 0) :: r => some (vp_in i n ∧ n = xs.1, loc, .inl (.int (xs.2 i.toNatClampNeg)) :: r, M)
  | _ => none
def ab_ast (loc st : List ab_V) (M : ab_M) : Option ab_T := match st with
  | .inl (.int x) :: .inl (.int i) :: .inr (20, n, _, id) :: r => some (vp_in i n, loc, r, ab_setI M id i.toNatClampNeg x)
  | _ => none
def ab_bld (loc st : List ab_V) (M : ab_M) : Option ab_T := match st with
  | .inl (.int i) :: .inr (21, n, _, id) :: r => some (vp_in i n, loc, .inl (.int (M.1 id i.toNatClampNeg)) :: r, M)
  | .inl (.int i) :: .inr (23, n, _, id) :: r => some (vp_in i n, loc, .inl (.int (M.1 id i.toNatClampNeg)) :: r, M)
  | .inl (.int i) :: .inr (33, n, t, id) :: r => some (vp_in i n ∧ n = ab_txl t ∧ id = 3 + 2 * t ∧ t < 3, loc, .inl (.int (ab_txc t i.toNatClampNeg)) :: r, M)
  | _ => none
def ab_bst (loc st : List ab_V) (M : ab_M) : Option ab_T := match st with
  | .inl (.int x) :: .inl (.int i) :: .inr (21, n, _, id) :: r => some (vp_in i n, loc, r, ab_setI M id i.toNatClampNeg (vp_nar .byte x))
  | .inl (.int x) :: .inl (.int i) :: .inr (23, n, _, id) :: r => some (vp_in i n, loc, r, ab_setI M id i.toNatClampNeg (vp_nar .boolean x))
  | _ => none
def ab_lld (loc st : List ab_V) (M : ab_M) : Option ab_T := match st with
  | .inl (.int i) :: .inr (22, n, _, id) :: r => some (vp_in i n, loc, .inl (.long (M.2.1 id i.toNatClampNeg)) :: r, M)
  | _ => none
def ab_lst (loc st : List ab_V) (M : ab_M) : Option ab_T := match st with
  | .inl (.long x) :: .inl (.int i) :: .inr (22, n, _, id) :: r => some (vp_in i n, loc, r, ab_setL M id i.toNatClampNeg x)
  | _ => none
def ab_aald (loc st : List ab_V) (M : ab_M) : Option ab_T := match st with
  | .inl (.int i) :: .inr (24, n, m, id) :: r => some (vp_in i n ∧ M.2.2.1 24 id i.toNatClampNeg = .inr (20, m, 0, id + 1 + i.toNatClampNeg), loc, .inr (20, m, 0, id + 1 + i.toNatClampNeg) :: r, M)
  | .inl (.int i) :: .inr (25, n, _, id) :: r => some (vp_in i n, loc, M.2.2.1 25 id i.toNatClampNeg :: r, M)
  | _ => none
def ab_aast (loc st : List ab_V) (M : ab_M) : Option ab_T := match st with
  | .inr (6, n2, m2, q) :: .inl (.int i) :: .inr (25, n, _, id) :: r => some (vp_in i n, loc, r, ab_setR M 25 id i.toNatClampNeg (.inr (6, n2, m2, q)))
  | _ => none
def ab_len (Lx : Nat) (loc st : List ab_V) (M : ab_M) : Option ab_T := match st with
  | .inr (k, n, t, id) :: r => some ((20 ≤ k ∧ k ≤ 25) ∨ (k = 31 ∧ n = Lx ∧ id = 0) ∨ (k = 32 ∧ n = 7 ∧ id = 1) ∨ (k = 33 ∧ n = ab_txl t ∧ id = 3 + 2 * t ∧ t < 3), loc, .inl (.int (Int32.ofNat n)) :: r, M)
  | _ => none
/-- a value of one slot -/
def ab_c1 (v : ab_V) : Bool := match v with
  | .inl (.int _) => true
  | .inl .null => true
  | .inr (k, _, _, _) => decide (k < 99)
  | _ => false
def ab_dup (loc st : List ab_V) (M : ab_M) : Option ab_T := match st with
  | v :: r => if ab_c1 v = true then some (True, loc, v :: v :: r, M) else none
  | _ => none
def ab_pop (loc st : List ab_V) (M : ab_M) : Option ab_T := match st with
  | v :: r => if ab_c1 v = true then some (True, loc, r, M) else none
  | _ => none
def ab_dup2 (loc st : List ab_V) (M : ab_M) : Option ab_T := match st with
  | .inl (.long x) :: r => some (True, loc, .inl (.long x) :: .inl (.long x) :: r, M)
  | v :: w :: r => if ab_c1 v = true ∧ ab_c1 w = true then some (True, loc, v :: w :: v :: w :: r, M) else none
  | _ => none
/-- the copying of ints; of a thing to itself not -/
def ab_cpy (loc st : List ab_V) (M : ab_M) : Option ab_T := match st with
  | [.inl (.int n), .inl (.int dp), .inr (20, n1, _, d), .inl (.int sp), .inr (20, n0, _, a)] =>
    some (¬ sp < 0 ∧ ¬ dp < 0 ∧ ¬ n < 0 ∧ sp.toNatClampNeg + n.toNatClampNeg ≤ n0 ∧ dp.toNatClampNeg + n.toNatClampNeg ≤ n1, loc, [], (ab_rowI M.1 d (va_cpy (M.1 a) (M.1 d) sp.toNatClampNeg dp.toNatClampNeg n.toNatClampNeg), M.2))
  | [.inl (.int n), .inl (.int dp), .inr (20, n1, _, d), .inl (.int sp), .inr (32, 7, _, 1)] =>
    some (¬ sp < 0 ∧ ¬ dp < 0 ∧ ¬ n < 0 ∧ sp.toNatClampNeg + n.toNatClampNeg ≤ 7 ∧ dp.toNatClampNeg + n.toNatClampNeg ≤ n1, loc, [], (ab_rowI M.1 d (va_cpy ab_wo (M.1 d) sp.toNatClampNeg dp.toNatClampNeg n.toNatClampNeg), M.2))
  | _ => none
def ab_sz (v : ab_V) : Nat := match v with
  | .inl (.long _) => 2
  | _ => 1
def ab_szs (st : List ab_V) : Nat := (st.map ab_sz).sum
/-- Math.min and Math.max of ints -/
def ab_mi (f : Int32 → Int32 → Int32) (loc st : List ab_V) (M : ab_M) : Option ab_T := match st with
  | .inl (.int y) :: .inl (.int x) :: r => some (ab_szs r ≤ 8, loc, .inl (.int (f x y)) :: r, M)
  | _ => none
def ab_mn (x y : Int32) : Int32 := if y < x then y else x
def ab_mx (x y : Int32) : Int32 := if x < y then y else x
/-- String.checkIndex, the index within -/
def ab_ck (loc st : List ab_V) (M : ab_M) : Option ab_T := match st with
  | .inl (.int n) :: .inl (.int i) :: r => some ((¬ i < 0 ∧ i < n) ∧ ab_szs r ≤ 8, loc, r, M)
  | _ => none
def ab_ivs (r : List Nat) (loc st : List ab_V) (M : ab_M) : Option ab_T := if r.headD 0 = 710 then ab_mi ab_mn loc st M else if r.headD 0 = 711 then ab_mi ab_mx loc st M else if r.headD 0 = 720 then ab_ck loc st M else ab_cpy loc st M
/-- a new row of the kind; all 0 or null -/
def ab_nwa (k : Nat) (loc st : List ab_V) (M : ab_M) : Option ab_T := match st with
  | .inl (.int n) :: r => some (¬ n < 0 ∧ n.toNatClampNeg ≤ 100000, loc, .inr (k, n.toNatClampNeg, 0, M.2.2.2.2.1) :: r, ab_new M (k, n.toNatClampNeg, 0) n.toNatClampNeg)
  | _ => none
/-- n rows of m ints, and the row of them ahead -/
def ab_grid (M : ab_M) (n m : Nat) : ab_M :=
  (fun b => if M.2.2.2.2.1 ≤ b then (fun _ => 0) else M.1 b, fun b => if M.2.2.2.2.1 ≤ b then (fun _ => 0) else M.2.1 b,
   fun k b j => if k = 24 ∧ b = M.2.2.2.2.1 then (if j < n then .inr (20, m, 0, M.2.2.2.2.1 + 1 + j) else ab_nul) else if k = 20 ∧ M.2.2.2.2.1 < b then ab_nul else M.2.2.1 k b j,
   fun b => if b = M.2.2.2.2.1 then (24, n, m) else if M.2.2.2.2.1 ≤ b then (20, m, 0) else M.2.2.2.1 b,
   M.2.2.2.2.1 + 1 + n, M.2.2.2.2.2.1 + 1 + n, M.2.2.2.2.2.2 + n + n * m)
def ab_nwg (loc st : List ab_V) (M : ab_M) : Option ab_T := match st with
  | .inl (.int m) :: .inl (.int n) :: r => some (¬ n < 0 ∧ ¬ m < 0 ∧ n.toNatClampNeg ≤ 1000 ∧ m.toNatClampNeg ≤ 10000, loc, .inr (24, n.toNatClampNeg, m.toNatClampNeg, M.2.2.2.2.1) :: r, ab_grid M n.toNatClampNeg m.toNatClampNeg)
  | _ => none
def ab_lc (r : List Nat) : Int64 := match r with
  | 0 :: n :: _ => Int64.ofNat n
  | 1 :: n :: _ => -Int64.ofNat n
  | _ => 0
/-- the numbers behind an instruction's row: getfield, putfield the class and the place; ldc the number or the text's -/
def ab_r0 (r : List Nat) : Nat := r.headD 0
def ab_r1 (r : List Nat) : Nat := r.tail.headD 0
def ab_ldc (r : List Nat) (loc st : List ab_V) (M : ab_M) : Option ab_T := match r with
  | 0 :: n :: _ => some (True, loc, .inl (.int (Int32.ofNat n)) :: st, M)
  | 30 :: t :: _ => some (True, loc, .inr (30, t, 0, 2 + 2 * t) :: st, M)
  | _ => none
def ab_gst (r : List Nat) (loc st : List ab_V) (M : ab_M) : Option ab_T := match r with
  | 0 :: _ => some (True, loc, .inl (.int 1) :: st, M)
  | 1 :: _ => some (True, loc, .inr (32, 7, 0, 1) :: st, M)
  | _ => none
def ab_nwo (r : List Nat) (loc st : List ab_V) (M : ab_M) : Option ab_T := match r with
  | k :: nf :: _ => if k < 13 then some (True, loc, .inr (k, 0, 0, M.2.2.2.2.1) :: st, ab_new M (k, 0, 0) nf) else none
  | _ => none
/-- the empty constructor of all things -/
def ab_oi (loc st : List ab_V) (M : ab_M) : Option ab_T := match st with
  | [.inr (k, _, _, _)] => some (k < 13, loc, [], M)
  | _ => none
def ab_step (xs : Nat × (Nat → Int32)) (ins : Instr) (r : List Nat) (loc st : List ab_V) (M : ab_M) : Option ab_T := match ins with
  | .aconst_null => some (True, loc, ab_nul :: st, M)
  | .iconst n => some (True, loc, .inl (.int (ab_k n)) :: st, M)
  | .bipush n => some (True, loc, .inl (.int (ab_k n)) :: st, M)
  | .sipush n => some (True, loc, .inl (.int (ab_k n)) :: st, M)
  | .lconst n => some (True, loc, .inl (.long (Int64.ofNat (n : Nat))) :: st, M)
  | .ldc _ => ab_ldc r loc st M
  | .ldc_w _ => ab_ldc r loc st M
  | .ldc2_w _ => some (True, loc, .inl (.long (ab_lc r)) :: st, M)
  | .iload_n k => ab_ldI k loc st M
  | .iload i => ab_ldI i loc st M
  | .lload_n k => ab_ldL k loc st M
  | .lload i => ab_ldL i loc st M
  | .aload_n k => ab_ldA k loc st M
  | .aload i => ab_ldA i loc st M
  | .istore_n k => ab_stI k loc st M
  | .istore i => ab_stI i loc st M
  | .lstore_n k => ab_stL k loc st M
  | .lstore i => ab_stL i loc st M
  | .astore_n k => ab_stA k loc st M
  | .astore i => ab_stA i loc st M
  | .iinc i n => ab_inc i n loc st M
  | .iadd => ab_bi (fun x y => x + y) loc st M
  | .isub => ab_bi (fun x y => x - y) loc st M
  | .imul => ab_bi (fun x y => x * y) loc st M
  | .iand => ab_bi (fun x y => x &&& y) loc st M
  | .ior => ab_bi (fun x y => x ||| y) loc st M
  | .ixor => ab_bi (fun x y => x ^^^ y) loc st M
  | .ishl => ab_bi (fun x y => x <<< (y &&& 31)) loc st M
  | .ishr => ab_bi (fun x y => x >>> (y &&& 31)) loc st M
  | .iushr => ab_bi (fun x y => (x.toUInt32 >>> (y.toUInt32 &&& Int32.toUInt32 31)).toInt32) loc st M
  | .idiv => ab_dv (fun x y => x / y) loc st M
  | .irem => ab_dv (fun x y => x - x / y * y) loc st M
  | .ineg => ab_ui (fun x => .int (-x)) loc st M
  | .i2l => ab_ui (fun x => .long x.toInt64) loc st M
  | .i2b => ab_ui (fun x => .int x.toInt8.toInt32) loc st M
  | .i2c => ab_ui (fun x => .int (x.toUInt32 % 65536).toInt32) loc st M
  | .ladd => ab_bl (fun x y => .long (x + y)) loc st M
  | .lsub => ab_bl (fun x y => .long (x - y)) loc st M
  | .lmul => ab_bl (fun x y => .long (x * y)) loc st M
  | .land => ab_bl (fun x y => .long (x &&& y)) loc st M
  | .lor => ab_bl (fun x y => .long (x ||| y)) loc st M
  | .lcmp => ab_bl (fun x y => .int (lg_cmp x y)) loc st M
  | .lshl => ab_sl (fun x y => x <<< (y.toInt64 &&& 63)) loc st M
  | .lshr => ab_sl (fun x y => x >>> (y.toInt64 &&& 63)) loc st M
  | .lushr => ab_sl (fun x y => (x.toUInt64 >>> (y.toInt64.toUInt64 &&& Int64.toUInt64 63)).toInt64) loc st M
  | .dup => ab_dup loc st M
  | .dup2 => ab_dup2 loc st M
  | .pop => ab_pop loc st M
  | .getfield _ => ab_get (ab_r0 r) (ab_r1 r) loc st M
  | .putfield _ => ab_put (ab_r0 r) (ab_r1 r) loc st M
  | .getstatic _ => ab_gst r loc st M
  | .iaload => ab_ald xs loc st M
  | .iastore => ab_ast loc st M
  | .baload => ab_bld loc st M
  | .bastore => ab_bst loc st M
  | .laload => ab_lld loc st M
  | .lastore => ab_lst loc st M
  | .aaload => ab_aald loc st M
  | .aastore => ab_aast loc st M
  | .arraylength => ab_len xs.1 loc st M
  | .invokestatic _ => ab_ivs r loc st M
  | .invokespecial _ => ab_oi loc st M
  | .newarray _ => ab_nwa (ab_r0 r) loc st M
  | .anewarray _ => ab_nwa 25 loc st M
  | .multianewarray _ _ => ab_nwg loc st M
  | .new _ => ab_nwo r loc st M
  | _ => none
theorem ab_t1 : ab_step (0, fun _ => 0) .iadd [] [] [.inl (.int 2), .inl (.int 3)] (fun _ _ => 0, fun _ _ => 0, fun _ _ _ => ab_nul, fun _ => (0, 0, 0), 0, 0, 0) = some (True, [], [.inl (.int (3 + 2))], (fun _ _ => 0, fun _ _ => 0, fun _ _ _ => ab_nul, fun _ => (0, 0, 0), 0, 0, 0)) := rfl
