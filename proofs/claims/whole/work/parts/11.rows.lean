/-! what a row of a method must be, decided by the kernel -/
abbrev ab_Row : Type := Instr × Nat × List Nat
def ab_w (i : Nat) (w : Cond) : Bool := decide (lw_tbl[i]? = some w)
def ab_ln (ins : Instr) : Nat := match ins with
  | .bipush _ => 2
  | .sipush _ => 3
  | .ldc _ => 2
  | .ldc_w _ => 3
  | .ldc2_w _ => 3
  | .iload _ => 2
  | .lload _ => 2
  | .aload _ => 2
  | .istore _ => 2
  | .lstore _ => 2
  | .astore _ => 2
  | .iinc _ _ => 3
  | .getfield _ => 3
  | .putfield _ => 3
  | .getstatic _ => 3
  | .invokestatic _ => 3
  | .invokevirtual _ => 3
  | .invokespecial _ => 3
  | .newarray _ => 2
  | .anewarray _ => 3
  | .multianewarray _ _ => 4
  | .new _ => 3
  | .goto _ => 3
  | .ifCond _ _ => 3
  | .if_icmp _ _ => 3
  | .ifnull _ => 3
  | .ifnonnull _ => 3
  | _ => 1
def ab_kty (k : Nat) : FieldType := match k with
  | 20 => .int
  | 21 => .byte
  | 22 => .long
  | _ => .boolean
/-- a step's row -/
def ab_rk (y : MethodName) (ins : Instr) (len : Nat) (r : List Nat) : Bool := decide (len = ab_ln ins) && match ins with
  | .iconst n => decide (Int32.ofInt n = ab_k n)
  | .bipush n => decide ((Int8.ofInt n).toInt32 = ab_k n)
  | .sipush n => decide ((Int16.ofInt n).toInt32 = ab_k n)
  | .iinc _ n => decide (Int32.ofInt n = ab_k n)
  | .ldc i => (match r with
    | 0 :: n :: q :: _ => ab_w q (.constant y.cls i (Int32.ofNat n))
    | 30 :: t :: q :: _ => decide (ab_lds[q]?.map (fun z => (z.1, z.2.1, z.2.2.2)) = some (y.cls, i, t))
    | _ => false)
  | .ldc_w i => (match r with
    | 0 :: n :: q :: _ => ab_w q (.constant y.cls i (Int32.ofNat n))
    | _ => false)
  | .ldc2_w i => ab_w ((r[2]?).getD 0) (.constantLong y.cls i (ab_lc r))
  | .getfield i => (match r with
    | 30 :: 0 :: q :: _ => ab_w q (.fieldLink y.cls i "java/lang/String" "value" "[B")
    | 30 :: 1 :: q :: _ => ab_w q (.fieldLink y.cls i "java/lang/String" "coder" "B")
    | k :: j :: q :: _ => (match ab_cls[k]? with
      | some z => decide (j < z.2.2) && (ab_w q (.fieldLink y.cls i z.1 (z.2.1 j).2.1 (z.2.1 j).2.2.1) || ab_w q (.fieldLinkNest y.cls i z.1 (z.2.1 j).2.1 (z.2.1 j).2.2.1 RX11))
      | none => false)
    | _ => false)
  | .putfield i => (match r with
    | k :: j :: q :: t :: _ => (match ab_cls[k]? with
      | some z => decide (j < z.2.2) && (if t = 0 then ab_w q (.fieldLink y.cls i z.1 (z.2.1 j).2.1 (z.2.1 j).2.2.1) && !(z.2.1 j).2.2.2
          else if t = 1 then ab_w q (.fieldLinkNest y.cls i z.1 (z.2.1 j).2.1 (z.2.1 j).2.2.1 RX11) && !(z.2.1 j).2.2.2
          else ab_w q (.fieldLink y.cls i z.1 (z.2.1 j).2.1 (z.2.1 j).2.2.1) && (z.2.1 j).2.2.2 && decide (y.name = "<init>") && decide (z.1 = y.cls))
      | none => false)
    | _ => false)
  | .getstatic i => (match r with
    | 0 :: q :: _ => ab_w q (.fieldLink y.cls i "java/lang/String" "COMPACT_STRINGS" "Z")
    | 1 :: q :: _ => ab_w q (.fieldLink y.cls i RX5 "WITHOUT" "[I")
    | _ => false)
  | .invokestatic i => (match r with
    | 710 :: q1 :: q2 :: q3 :: q4 :: _ => ab_w q1 (.methodLink y.cls i Lib.Math.min.name) && ab_w q2 (.static Lib.Math.min.name) && ab_w q3 (.initialized "java/lang/Math") && ab_w q4 (.code Lib.Math.min.name Lib.Math.min.code 2 (some .int))
    | 711 :: q1 :: q2 :: q3 :: q4 :: _ => ab_w q1 (.methodLink y.cls i Lib.Math.max.name) && ab_w q2 (.static Lib.Math.max.name) && ab_w q3 (.initialized "java/lang/Math") && ab_w q4 (.code Lib.Math.max.name Lib.Math.max.code 2 (some .int))
    | 720 :: q1 :: q2 :: q3 :: q4 :: _ => ab_w q1 (.methodLink y.cls i ySc) && ab_w q2 (.static ySc) && ab_w q3 (.initialized "java/lang/String") && ab_w q4 (.code ySc bSc 2 none)
    | 1000 :: q1 :: q2 :: q3 :: q4 :: _ => ab_w q1 (.methodLink y.cls i arraycopyName) && ab_w q2 (.native arraycopyName) && ab_w q3 (.static arraycopyName) && ab_w q4 (.initialized "java/lang/System")
    | _ => false)
  | .invokespecial i => (match r with
    | _ :: q1 :: q2 :: q3 :: _ => ab_w q1 (.methodLink y.cls i Lib.objectInit) && ab_w q2 (.instanceMethod Lib.objectInit) && ab_w q3 (.code Lib.objectInit ⟨#[0xb1]⟩ 1 none)
    | _ => false)
  | .newarray a => (match r with
    | k :: q :: _ => decide (20 ≤ k ∧ k < 24) && decide (newarray.typeOf a = ab_kty k) && ab_w q (.arrayClass (ab_kty k))
    | _ => false)
  | .anewarray i => (match r with
    | q :: _ => ab_w q (.classLink y.cls i RX6)
    | _ => false)
  | .multianewarray i d => (match r with
    | q :: _ => decide (d = 2) && ab_w q (.classLink y.cls i "[[I")
    | _ => false)
  | .new i => (match r with
    | k :: nf :: q1 :: q2 :: q3 :: _ => (match ab_cls[k]? with
      | some z => decide (nf = z.2.2) && ab_w q1 (.classLink y.cls i z.1) && ab_w q2 (.instantiable z.1 z.2.2) && ab_w q3 (.initialized z.1)
      | none => false)
    | _ => false)
  | _ => true
theorem ab_w_G {i : Nat} {w : Cond} (h : ab_w i w = true) (hg : goodWord w = true) : w ∈ ab_G := ab_G_in i h hg
theorem ab_w_N {i : Nat} {w : Cond} (h : ab_w i w = true) (hg : ab_isN w = true) : w ∈ ab_N := ab_N_in i h hg
theorem ab_rk_len {y : MethodName} {ins : Instr} {len : Nat} {r : List Nat} (h : ab_rk y ins len r = true) : len = ab_ln ins := by
  unfold ab_rk at h
  exact of_decide_eq_true (Bool.and_eq_true_iff.mp h).1
