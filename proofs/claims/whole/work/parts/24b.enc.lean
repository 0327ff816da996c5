/-! decoding by what bytes an instruction has: quick for the kernel -/
/-- the bytes as numbers -/
def ab_by (cc : ByteArray) : List Nat := cc.data.toList.map UInt8.toNat
theorem ab_bd {α β : Type} (x : ClassFile.Decoder α) (f : α → ClassFile.Decoder β) (cc : ByteArray) (p : Nat) : (x >>= f) cc p = (match x cc p with
    | .ok a => f a.1 cc a.2
    | .error e => .error e) := by
  show Except.bind (x cc p) _ = _
  cases x cc p <;> rfl
theorem ab_u1 {cc : ByteArray} {p b : Nat} (h : (ab_by cc)[p]? = some b) : (ClassFile.Reader.u1 : ClassFile.Decoder Nat) cc p = .ok (b, p + 1) := by
  have h2 : ∃ x : UInt8, cc.data.toList[p]? = some x ∧ x.toNat = b := by
    unfold ab_by at h
    rw [List.getElem?_map] at h
    cases hx : cc.data.toList[p]? with
    | none => rw [hx] at h; cases h
    | some x => rw [hx] at h; exact ⟨x, rfl, Option.some.inj h⟩
  obtain ⟨x, hx, rfl⟩ := h2
  have hlt : p < cc.size := by
    have := (List.getElem?_eq_some_iff.mp hx).1
    simpa using this
  have hg : cc[p] = x := by
    obtain ⟨h3, h4⟩ := List.getElem?_eq_some_iff.mp hx
    have h4 : cc.data[p] = x := by simpa using h4
    exact h4
  unfold ClassFile.Reader.u1
  rw [ab_bd]
  show ((get : ClassFile.Decoder Nat) >>= fun q => (if h : q < cc.size then (do set (q + 1); pure cc[q].toNat) else throw (ClassFile.HasTruncated.truncated q) : ClassFile.Decoder Nat)) cc p = _
  rw [ab_bd]
  show (if h : p < cc.size then (do set (p + 1); pure cc[p].toNat) else throw (ClassFile.HasTruncated.truncated p) : ClassFile.Decoder Nat) cc p = _
  rw [dif_pos hlt, hg]
  rfl
theorem ab_dec {cc : ByteArray} {p q : Nat} {i : Instr} (h : ClassFile.Decoder.instr p cc p = .ok (i, q)) : decode cc p = .ok (i, q - p) := by
  show Except.bind (ClassFile.Decoder.instr p cc p) _ = _
  rw [h]
  rfl
theorem ab_u2 {cc : ByteArray} {p a b : Nat} (ha : (ab_by cc)[p]? = some a) (hb : (ab_by cc)[p + 1]? = some b) : (ClassFile.Reader.u2 : ClassFile.Decoder Nat) cc p = .ok (a * 256 + b, p + 1 + 1) := by
  unfold ClassFile.Reader.u2
  rw [ab_bd, ab_u1 ha]
  show ((ClassFile.Reader.u1 : ClassFile.Decoder Nat) >>= fun lo => Pure.pure (a * 256 + lo)) cc (p + 1) = _
  rw [ab_bd, ab_u1 hb]
  rfl
theorem ab_s1 {cc : ByteArray} {p a : Nat} (ha : (ab_by cc)[p]? = some a) : (ClassFile.Reader.s1 : ClassFile.Decoder Int) cc p = .ok (ClassFile.Reader.signed 8 a, p + 1) := by
  show Except.map _ ((ClassFile.Reader.u1 : ClassFile.Decoder Nat) cc p) = _
  rw [ab_u1 ha]
  rfl
theorem ab_s2 {cc : ByteArray} {p a b : Nat} (ha : (ab_by cc)[p]? = some a) (hb : (ab_by cc)[p + 1]? = some b) : (ClassFile.Reader.s2 : ClassFile.Decoder Int) cc p = .ok (ClassFile.Reader.signed 16 (a * 256 + b), p + 1 + 1) := by
  show Except.map _ ((ClassFile.Reader.u2 : ClassFile.Decoder Nat) cc p) = _
  rw [ab_u2 ha hb]
  rfl
theorem ab_in_0 {cc : ByteArray} {p b : Nat} {i : Instr} {K : Nat → ClassFile.Decoder Instr} (h : (ab_by cc)[p]? = some b) (hi : ClassFile.Decoder.instr p = (ClassFile.Reader.u1 >>= K)) (hK : K b = Pure.pure i) : decode cc p = .ok (i, 1) := by
  have e : ClassFile.Decoder.instr p cc p = .ok (i, p + 1) := by
    rw [hi, ab_bd, ab_u1 h]
    show K b cc (p + 1) = _
    rw [hK]
    rfl
  rw [ab_dec e, Nat.add_sub_cancel_left]
theorem ab_in_u1 {cc : ByteArray} {p b a : Nat} {C : Nat → Instr} {K : Nat → ClassFile.Decoder Instr} (h : (ab_by cc)[p]? = some b) (ha : (ab_by cc)[p + 1]? = some a) (hi : ClassFile.Decoder.instr p = (ClassFile.Reader.u1 >>= K)) (hK : K b = (ClassFile.Reader.u1 >>= fun z => Pure.pure (C z))) : decode cc p = .ok (C a, 2) := by
  have e : ClassFile.Decoder.instr p cc p = .ok (C a, p + 1 + 1) := by
    rw [hi, ab_bd, ab_u1 h]
    show K b cc (p + 1) = _
    rw [hK, ab_bd, ab_u1 ha]
    rfl
  rw [ab_dec e, show p + 1 + 1 - p = 2 by omega]
theorem ab_in_s1 {cc : ByteArray} {p b a : Nat} {C : Int → Instr} {K : Nat → ClassFile.Decoder Instr} (h : (ab_by cc)[p]? = some b) (ha : (ab_by cc)[p + 1]? = some a) (hi : ClassFile.Decoder.instr p = (ClassFile.Reader.u1 >>= K)) (hK : K b = (ClassFile.Reader.s1 >>= fun z => Pure.pure (C z))) : decode cc p = .ok (C (ClassFile.Reader.signed 8 a), 2) := by
  have e : ClassFile.Decoder.instr p cc p = .ok (C (ClassFile.Reader.signed 8 a), p + 1 + 1) := by
    rw [hi, ab_bd, ab_u1 h]
    show K b cc (p + 1) = _
    rw [hK, ab_bd, ab_s1 ha]
    rfl
  rw [ab_dec e, show p + 1 + 1 - p = 2 by omega]
theorem ab_in_u2 {cc : ByteArray} {p b a a2 : Nat} {C : Nat → Instr} {K : Nat → ClassFile.Decoder Instr} (h : (ab_by cc)[p]? = some b) (ha : (ab_by cc)[p + 1]? = some a) (ha2 : (ab_by cc)[p + 1 + 1]? = some a2) (hi : ClassFile.Decoder.instr p = (ClassFile.Reader.u1 >>= K)) (hK : K b = (ClassFile.Reader.u2 >>= fun z => Pure.pure (C z))) : decode cc p = .ok (C (a * 256 + a2), 3) := by
  have e : ClassFile.Decoder.instr p cc p = .ok (C (a * 256 + a2), p + 1 + 1 + 1) := by
    rw [hi, ab_bd, ab_u1 h]
    show K b cc (p + 1) = _
    rw [hK, ab_bd, ab_u2 ha ha2]
    rfl
  rw [ab_dec e, show p + 1 + 1 + 1 - p = 3 by omega]
theorem ab_in_s2 {cc : ByteArray} {p b a a2 : Nat} {C : Int → Instr} {K : Nat → ClassFile.Decoder Instr} (h : (ab_by cc)[p]? = some b) (ha : (ab_by cc)[p + 1]? = some a) (ha2 : (ab_by cc)[p + 1 + 1]? = some a2) (hi : ClassFile.Decoder.instr p = (ClassFile.Reader.u1 >>= K)) (hK : K b = (ClassFile.Reader.s2 >>= fun z => Pure.pure (C z))) : decode cc p = .ok (C (ClassFile.Reader.signed 16 (a * 256 + a2)), 3) := by
  have e : ClassFile.Decoder.instr p cc p = .ok (C (ClassFile.Reader.signed 16 (a * 256 + a2)), p + 1 + 1 + 1) := by
    rw [hi, ab_bd, ab_u1 h]
    show K b cc (p + 1) = _
    rw [hK, ab_bd, ab_s2 ha ha2]
    rfl
  rw [ab_dec e, show p + 1 + 1 + 1 - p = 3 by omega]
def ab_e8 (n : Int) : Nat := (n % 256).toNat
def ab_e16 (n : Int) : Nat := (n % 65536).toNat
theorem ab_e8_ok {n : Int} (h : -128 ≤ n ∧ n < 128) : ClassFile.Reader.signed 8 (ab_e8 n) = n := by
  unfold ClassFile.Reader.signed ab_e8
  simp only [Nat.reduceSub, Nat.reducePow]
  split <;> omega
theorem ab_e16_ok {n : Int} (h : -32768 ≤ n ∧ n < 32768) : ClassFile.Reader.signed 16 (ab_e16 n / 256 * 256 + ab_e16 n % 256) = n := by
  rw [show ab_e16 n / 256 * 256 + ab_e16 n % 256 = ab_e16 n by omega]
  unfold ClassFile.Reader.signed ab_e16
  simp only [Nat.reduceSub, Nat.reducePow]
  split <;> omega
set_option maxRecDepth 40000 in
theorem ab_do_1 {cc : ByteArray} {p : Nat} (h : (ab_by cc)[p]? = some 1) : decode cc p = .ok (.aconst_null, 1) := ab_in_0 h rfl rfl
set_option maxRecDepth 40000 in
theorem ab_do_2 {cc : ByteArray} {p : Nat} (h : (ab_by cc)[p]? = some 2) : decode cc p = .ok (.iconst (-1), 1) := ab_in_0 h rfl rfl
set_option maxRecDepth 40000 in
theorem ab_do_3 {cc : ByteArray} {p : Nat} (h : (ab_by cc)[p]? = some 3) : decode cc p = .ok (.iconst 0, 1) := ab_in_0 h rfl rfl
set_option maxRecDepth 40000 in
theorem ab_do_4 {cc : ByteArray} {p : Nat} (h : (ab_by cc)[p]? = some 4) : decode cc p = .ok (.iconst 1, 1) := ab_in_0 h rfl rfl
set_option maxRecDepth 40000 in
theorem ab_do_5 {cc : ByteArray} {p : Nat} (h : (ab_by cc)[p]? = some 5) : decode cc p = .ok (.iconst 2, 1) := ab_in_0 h rfl rfl
set_option maxRecDepth 40000 in
theorem ab_do_6 {cc : ByteArray} {p : Nat} (h : (ab_by cc)[p]? = some 6) : decode cc p = .ok (.iconst 3, 1) := ab_in_0 h rfl rfl
set_option maxRecDepth 40000 in
theorem ab_do_7 {cc : ByteArray} {p : Nat} (h : (ab_by cc)[p]? = some 7) : decode cc p = .ok (.iconst 4, 1) := ab_in_0 h rfl rfl
set_option maxRecDepth 40000 in
theorem ab_do_8 {cc : ByteArray} {p : Nat} (h : (ab_by cc)[p]? = some 8) : decode cc p = .ok (.iconst 5, 1) := ab_in_0 h rfl rfl
set_option maxRecDepth 40000 in
theorem ab_do_9 {cc : ByteArray} {p : Nat} (h : (ab_by cc)[p]? = some 9) : decode cc p = .ok (.lconst 0, 1) := ab_in_0 h rfl rfl
set_option maxRecDepth 40000 in
theorem ab_do_10 {cc : ByteArray} {p : Nat} (h : (ab_by cc)[p]? = some 10) : decode cc p = .ok (.lconst 1, 1) := ab_in_0 h rfl rfl
set_option maxRecDepth 40000 in
theorem ab_do_26 {cc : ByteArray} {p : Nat} (h : (ab_by cc)[p]? = some 26) : decode cc p = .ok (.iload_n 0, 1) := ab_in_0 h rfl rfl
set_option maxRecDepth 40000 in
theorem ab_do_27 {cc : ByteArray} {p : Nat} (h : (ab_by cc)[p]? = some 27) : decode cc p = .ok (.iload_n 1, 1) := ab_in_0 h rfl rfl
set_option maxRecDepth 40000 in
theorem ab_do_28 {cc : ByteArray} {p : Nat} (h : (ab_by cc)[p]? = some 28) : decode cc p = .ok (.iload_n 2, 1) := ab_in_0 h rfl rfl
set_option maxRecDepth 40000 in
theorem ab_do_29 {cc : ByteArray} {p : Nat} (h : (ab_by cc)[p]? = some 29) : decode cc p = .ok (.iload_n 3, 1) := ab_in_0 h rfl rfl
set_option maxRecDepth 40000 in
theorem ab_do_30 {cc : ByteArray} {p : Nat} (h : (ab_by cc)[p]? = some 30) : decode cc p = .ok (.lload_n 0, 1) := ab_in_0 h rfl rfl
set_option maxRecDepth 40000 in
theorem ab_do_31 {cc : ByteArray} {p : Nat} (h : (ab_by cc)[p]? = some 31) : decode cc p = .ok (.lload_n 1, 1) := ab_in_0 h rfl rfl
set_option maxRecDepth 40000 in
theorem ab_do_32 {cc : ByteArray} {p : Nat} (h : (ab_by cc)[p]? = some 32) : decode cc p = .ok (.lload_n 2, 1) := ab_in_0 h rfl rfl
set_option maxRecDepth 40000 in
theorem ab_do_33 {cc : ByteArray} {p : Nat} (h : (ab_by cc)[p]? = some 33) : decode cc p = .ok (.lload_n 3, 1) := ab_in_0 h rfl rfl
set_option maxRecDepth 40000 in
theorem ab_do_42 {cc : ByteArray} {p : Nat} (h : (ab_by cc)[p]? = some 42) : decode cc p = .ok (.aload_n 0, 1) := ab_in_0 h rfl rfl
set_option maxRecDepth 40000 in
theorem ab_do_43 {cc : ByteArray} {p : Nat} (h : (ab_by cc)[p]? = some 43) : decode cc p = .ok (.aload_n 1, 1) := ab_in_0 h rfl rfl
set_option maxRecDepth 40000 in
theorem ab_do_44 {cc : ByteArray} {p : Nat} (h : (ab_by cc)[p]? = some 44) : decode cc p = .ok (.aload_n 2, 1) := ab_in_0 h rfl rfl
set_option maxRecDepth 40000 in
theorem ab_do_45 {cc : ByteArray} {p : Nat} (h : (ab_by cc)[p]? = some 45) : decode cc p = .ok (.aload_n 3, 1) := ab_in_0 h rfl rfl
set_option maxRecDepth 40000 in
theorem ab_do_46 {cc : ByteArray} {p : Nat} (h : (ab_by cc)[p]? = some 46) : decode cc p = .ok (.iaload, 1) := ab_in_0 h rfl rfl
set_option maxRecDepth 40000 in
theorem ab_do_47 {cc : ByteArray} {p : Nat} (h : (ab_by cc)[p]? = some 47) : decode cc p = .ok (.laload, 1) := ab_in_0 h rfl rfl
set_option maxRecDepth 40000 in
theorem ab_do_50 {cc : ByteArray} {p : Nat} (h : (ab_by cc)[p]? = some 50) : decode cc p = .ok (.aaload, 1) := ab_in_0 h rfl rfl
set_option maxRecDepth 40000 in
theorem ab_do_51 {cc : ByteArray} {p : Nat} (h : (ab_by cc)[p]? = some 51) : decode cc p = .ok (.baload, 1) := ab_in_0 h rfl rfl
set_option maxRecDepth 40000 in
theorem ab_do_59 {cc : ByteArray} {p : Nat} (h : (ab_by cc)[p]? = some 59) : decode cc p = .ok (.istore_n 0, 1) := ab_in_0 h rfl rfl
set_option maxRecDepth 40000 in
theorem ab_do_60 {cc : ByteArray} {p : Nat} (h : (ab_by cc)[p]? = some 60) : decode cc p = .ok (.istore_n 1, 1) := ab_in_0 h rfl rfl
set_option maxRecDepth 40000 in
theorem ab_do_61 {cc : ByteArray} {p : Nat} (h : (ab_by cc)[p]? = some 61) : decode cc p = .ok (.istore_n 2, 1) := ab_in_0 h rfl rfl
set_option maxRecDepth 40000 in
theorem ab_do_62 {cc : ByteArray} {p : Nat} (h : (ab_by cc)[p]? = some 62) : decode cc p = .ok (.istore_n 3, 1) := ab_in_0 h rfl rfl
set_option maxRecDepth 40000 in
theorem ab_do_63 {cc : ByteArray} {p : Nat} (h : (ab_by cc)[p]? = some 63) : decode cc p = .ok (.lstore_n 0, 1) := ab_in_0 h rfl rfl
set_option maxRecDepth 40000 in
theorem ab_do_64 {cc : ByteArray} {p : Nat} (h : (ab_by cc)[p]? = some 64) : decode cc p = .ok (.lstore_n 1, 1) := ab_in_0 h rfl rfl
set_option maxRecDepth 40000 in
theorem ab_do_65 {cc : ByteArray} {p : Nat} (h : (ab_by cc)[p]? = some 65) : decode cc p = .ok (.lstore_n 2, 1) := ab_in_0 h rfl rfl
set_option maxRecDepth 40000 in
theorem ab_do_66 {cc : ByteArray} {p : Nat} (h : (ab_by cc)[p]? = some 66) : decode cc p = .ok (.lstore_n 3, 1) := ab_in_0 h rfl rfl
set_option maxRecDepth 40000 in
theorem ab_do_75 {cc : ByteArray} {p : Nat} (h : (ab_by cc)[p]? = some 75) : decode cc p = .ok (.astore_n 0, 1) := ab_in_0 h rfl rfl
set_option maxRecDepth 40000 in
theorem ab_do_76 {cc : ByteArray} {p : Nat} (h : (ab_by cc)[p]? = some 76) : decode cc p = .ok (.astore_n 1, 1) := ab_in_0 h rfl rfl
set_option maxRecDepth 40000 in
theorem ab_do_77 {cc : ByteArray} {p : Nat} (h : (ab_by cc)[p]? = some 77) : decode cc p = .ok (.astore_n 2, 1) := ab_in_0 h rfl rfl
set_option maxRecDepth 40000 in
theorem ab_do_78 {cc : ByteArray} {p : Nat} (h : (ab_by cc)[p]? = some 78) : decode cc p = .ok (.astore_n 3, 1) := ab_in_0 h rfl rfl
set_option maxRecDepth 40000 in
theorem ab_do_79 {cc : ByteArray} {p : Nat} (h : (ab_by cc)[p]? = some 79) : decode cc p = .ok (.iastore, 1) := ab_in_0 h rfl rfl
set_option maxRecDepth 40000 in
theorem ab_do_80 {cc : ByteArray} {p : Nat} (h : (ab_by cc)[p]? = some 80) : decode cc p = .ok (.lastore, 1) := ab_in_0 h rfl rfl
set_option maxRecDepth 40000 in
theorem ab_do_83 {cc : ByteArray} {p : Nat} (h : (ab_by cc)[p]? = some 83) : decode cc p = .ok (.aastore, 1) := ab_in_0 h rfl rfl
set_option maxRecDepth 40000 in
theorem ab_do_84 {cc : ByteArray} {p : Nat} (h : (ab_by cc)[p]? = some 84) : decode cc p = .ok (.bastore, 1) := ab_in_0 h rfl rfl
set_option maxRecDepth 40000 in
theorem ab_do_87 {cc : ByteArray} {p : Nat} (h : (ab_by cc)[p]? = some 87) : decode cc p = .ok (.pop, 1) := ab_in_0 h rfl rfl
set_option maxRecDepth 40000 in
theorem ab_do_89 {cc : ByteArray} {p : Nat} (h : (ab_by cc)[p]? = some 89) : decode cc p = .ok (.dup, 1) := ab_in_0 h rfl rfl
set_option maxRecDepth 40000 in
theorem ab_do_92 {cc : ByteArray} {p : Nat} (h : (ab_by cc)[p]? = some 92) : decode cc p = .ok (.dup2, 1) := ab_in_0 h rfl rfl
set_option maxRecDepth 40000 in
theorem ab_do_96 {cc : ByteArray} {p : Nat} (h : (ab_by cc)[p]? = some 96) : decode cc p = .ok (.iadd, 1) := ab_in_0 h rfl rfl
set_option maxRecDepth 40000 in
theorem ab_do_97 {cc : ByteArray} {p : Nat} (h : (ab_by cc)[p]? = some 97) : decode cc p = .ok (.ladd, 1) := ab_in_0 h rfl rfl
set_option maxRecDepth 40000 in
theorem ab_do_100 {cc : ByteArray} {p : Nat} (h : (ab_by cc)[p]? = some 100) : decode cc p = .ok (.isub, 1) := ab_in_0 h rfl rfl
set_option maxRecDepth 40000 in
theorem ab_do_101 {cc : ByteArray} {p : Nat} (h : (ab_by cc)[p]? = some 101) : decode cc p = .ok (.lsub, 1) := ab_in_0 h rfl rfl
set_option maxRecDepth 40000 in
theorem ab_do_104 {cc : ByteArray} {p : Nat} (h : (ab_by cc)[p]? = some 104) : decode cc p = .ok (.imul, 1) := ab_in_0 h rfl rfl
set_option maxRecDepth 40000 in
theorem ab_do_105 {cc : ByteArray} {p : Nat} (h : (ab_by cc)[p]? = some 105) : decode cc p = .ok (.lmul, 1) := ab_in_0 h rfl rfl
set_option maxRecDepth 40000 in
theorem ab_do_108 {cc : ByteArray} {p : Nat} (h : (ab_by cc)[p]? = some 108) : decode cc p = .ok (.idiv, 1) := ab_in_0 h rfl rfl
set_option maxRecDepth 40000 in
theorem ab_do_112 {cc : ByteArray} {p : Nat} (h : (ab_by cc)[p]? = some 112) : decode cc p = .ok (.irem, 1) := ab_in_0 h rfl rfl
set_option maxRecDepth 40000 in
theorem ab_do_116 {cc : ByteArray} {p : Nat} (h : (ab_by cc)[p]? = some 116) : decode cc p = .ok (.ineg, 1) := ab_in_0 h rfl rfl
set_option maxRecDepth 40000 in
theorem ab_do_120 {cc : ByteArray} {p : Nat} (h : (ab_by cc)[p]? = some 120) : decode cc p = .ok (.ishl, 1) := ab_in_0 h rfl rfl
set_option maxRecDepth 40000 in
theorem ab_do_121 {cc : ByteArray} {p : Nat} (h : (ab_by cc)[p]? = some 121) : decode cc p = .ok (.lshl, 1) := ab_in_0 h rfl rfl
set_option maxRecDepth 40000 in
theorem ab_do_122 {cc : ByteArray} {p : Nat} (h : (ab_by cc)[p]? = some 122) : decode cc p = .ok (.ishr, 1) := ab_in_0 h rfl rfl
set_option maxRecDepth 40000 in
theorem ab_do_123 {cc : ByteArray} {p : Nat} (h : (ab_by cc)[p]? = some 123) : decode cc p = .ok (.lshr, 1) := ab_in_0 h rfl rfl
set_option maxRecDepth 40000 in
theorem ab_do_124 {cc : ByteArray} {p : Nat} (h : (ab_by cc)[p]? = some 124) : decode cc p = .ok (.iushr, 1) := ab_in_0 h rfl rfl
set_option maxRecDepth 40000 in
theorem ab_do_125 {cc : ByteArray} {p : Nat} (h : (ab_by cc)[p]? = some 125) : decode cc p = .ok (.lushr, 1) := ab_in_0 h rfl rfl
set_option maxRecDepth 40000 in
theorem ab_do_126 {cc : ByteArray} {p : Nat} (h : (ab_by cc)[p]? = some 126) : decode cc p = .ok (.iand, 1) := ab_in_0 h rfl rfl
set_option maxRecDepth 40000 in
theorem ab_do_127 {cc : ByteArray} {p : Nat} (h : (ab_by cc)[p]? = some 127) : decode cc p = .ok (.land, 1) := ab_in_0 h rfl rfl
set_option maxRecDepth 40000 in
theorem ab_do_128 {cc : ByteArray} {p : Nat} (h : (ab_by cc)[p]? = some 128) : decode cc p = .ok (.ior, 1) := ab_in_0 h rfl rfl
set_option maxRecDepth 40000 in
theorem ab_do_129 {cc : ByteArray} {p : Nat} (h : (ab_by cc)[p]? = some 129) : decode cc p = .ok (.lor, 1) := ab_in_0 h rfl rfl
set_option maxRecDepth 40000 in
theorem ab_do_130 {cc : ByteArray} {p : Nat} (h : (ab_by cc)[p]? = some 130) : decode cc p = .ok (.ixor, 1) := ab_in_0 h rfl rfl
set_option maxRecDepth 40000 in
theorem ab_do_133 {cc : ByteArray} {p : Nat} (h : (ab_by cc)[p]? = some 133) : decode cc p = .ok (.i2l, 1) := ab_in_0 h rfl rfl
set_option maxRecDepth 40000 in
theorem ab_do_145 {cc : ByteArray} {p : Nat} (h : (ab_by cc)[p]? = some 145) : decode cc p = .ok (.i2b, 1) := ab_in_0 h rfl rfl
set_option maxRecDepth 40000 in
theorem ab_do_146 {cc : ByteArray} {p : Nat} (h : (ab_by cc)[p]? = some 146) : decode cc p = .ok (.i2c, 1) := ab_in_0 h rfl rfl
set_option maxRecDepth 40000 in
theorem ab_do_148 {cc : ByteArray} {p : Nat} (h : (ab_by cc)[p]? = some 148) : decode cc p = .ok (.lcmp, 1) := ab_in_0 h rfl rfl
set_option maxRecDepth 40000 in
theorem ab_do_172 {cc : ByteArray} {p : Nat} (h : (ab_by cc)[p]? = some 172) : decode cc p = .ok (.ireturn, 1) := ab_in_0 h rfl rfl
set_option maxRecDepth 40000 in
theorem ab_do_173 {cc : ByteArray} {p : Nat} (h : (ab_by cc)[p]? = some 173) : decode cc p = .ok (.lreturn, 1) := ab_in_0 h rfl rfl
set_option maxRecDepth 40000 in
theorem ab_do_177 {cc : ByteArray} {p : Nat} (h : (ab_by cc)[p]? = some 177) : decode cc p = .ok (.return_, 1) := ab_in_0 h rfl rfl
set_option maxRecDepth 40000 in
theorem ab_do_190 {cc : ByteArray} {p : Nat} (h : (ab_by cc)[p]? = some 190) : decode cc p = .ok (.arraylength, 1) := ab_in_0 h rfl rfl
set_option maxRecDepth 40000 in
theorem ab_do_191 {cc : ByteArray} {p : Nat} (h : (ab_by cc)[p]? = some 191) : decode cc p = .ok (.athrow, 1) := ab_in_0 h rfl rfl
set_option maxRecDepth 40000 in
theorem ab_do_18 {cc : ByteArray} {p a : Nat} (h : (ab_by cc)[p]? = some 18) (ha : (ab_by cc)[p + 1]? = some a) : decode cc p = .ok (.ldc a, 2) := ab_in_u1 (C := fun z => .ldc z) h ha rfl rfl
set_option maxRecDepth 40000 in
theorem ab_do_21 {cc : ByteArray} {p a : Nat} (h : (ab_by cc)[p]? = some 21) (ha : (ab_by cc)[p + 1]? = some a) : decode cc p = .ok (.iload a, 2) := ab_in_u1 (C := fun z => .iload z) h ha rfl rfl
set_option maxRecDepth 40000 in
theorem ab_do_22 {cc : ByteArray} {p a : Nat} (h : (ab_by cc)[p]? = some 22) (ha : (ab_by cc)[p + 1]? = some a) : decode cc p = .ok (.lload a, 2) := ab_in_u1 (C := fun z => .lload z) h ha rfl rfl
set_option maxRecDepth 40000 in
theorem ab_do_25 {cc : ByteArray} {p a : Nat} (h : (ab_by cc)[p]? = some 25) (ha : (ab_by cc)[p + 1]? = some a) : decode cc p = .ok (.aload a, 2) := ab_in_u1 (C := fun z => .aload z) h ha rfl rfl
set_option maxRecDepth 40000 in
theorem ab_do_54 {cc : ByteArray} {p a : Nat} (h : (ab_by cc)[p]? = some 54) (ha : (ab_by cc)[p + 1]? = some a) : decode cc p = .ok (.istore a, 2) := ab_in_u1 (C := fun z => .istore z) h ha rfl rfl
set_option maxRecDepth 40000 in
theorem ab_do_55 {cc : ByteArray} {p a : Nat} (h : (ab_by cc)[p]? = some 55) (ha : (ab_by cc)[p + 1]? = some a) : decode cc p = .ok (.lstore a, 2) := ab_in_u1 (C := fun z => .lstore z) h ha rfl rfl
set_option maxRecDepth 40000 in
theorem ab_do_58 {cc : ByteArray} {p a : Nat} (h : (ab_by cc)[p]? = some 58) (ha : (ab_by cc)[p + 1]? = some a) : decode cc p = .ok (.astore a, 2) := ab_in_u1 (C := fun z => .astore z) h ha rfl rfl
set_option maxRecDepth 40000 in
theorem ab_do_16 {cc : ByteArray} {p a : Nat} (h : (ab_by cc)[p]? = some 16) (ha : (ab_by cc)[p + 1]? = some a) : decode cc p = .ok (.bipush (ClassFile.Reader.signed 8 a), 2) := ab_in_s1 (C := fun z => .bipush z) h ha rfl rfl
set_option maxRecDepth 40000 in
theorem ab_do_19 {cc : ByteArray} {p a a2 : Nat} (h : (ab_by cc)[p]? = some 19) (ha : (ab_by cc)[p + 1]? = some a) (ha2 : (ab_by cc)[p + 1 + 1]? = some a2) : decode cc p = .ok (.ldc_w (a * 256 + a2), 3) := ab_in_u2 (C := fun z => .ldc_w z) h ha ha2 rfl rfl
set_option maxRecDepth 40000 in
theorem ab_do_20 {cc : ByteArray} {p a a2 : Nat} (h : (ab_by cc)[p]? = some 20) (ha : (ab_by cc)[p + 1]? = some a) (ha2 : (ab_by cc)[p + 1 + 1]? = some a2) : decode cc p = .ok (.ldc2_w (a * 256 + a2), 3) := ab_in_u2 (C := fun z => .ldc2_w z) h ha ha2 rfl rfl
set_option maxRecDepth 40000 in
theorem ab_do_178 {cc : ByteArray} {p a a2 : Nat} (h : (ab_by cc)[p]? = some 178) (ha : (ab_by cc)[p + 1]? = some a) (ha2 : (ab_by cc)[p + 1 + 1]? = some a2) : decode cc p = .ok (.getstatic (a * 256 + a2), 3) := ab_in_u2 (C := fun z => .getstatic z) h ha ha2 rfl rfl
set_option maxRecDepth 40000 in
theorem ab_do_180 {cc : ByteArray} {p a a2 : Nat} (h : (ab_by cc)[p]? = some 180) (ha : (ab_by cc)[p + 1]? = some a) (ha2 : (ab_by cc)[p + 1 + 1]? = some a2) : decode cc p = .ok (.getfield (a * 256 + a2), 3) := ab_in_u2 (C := fun z => .getfield z) h ha ha2 rfl rfl
set_option maxRecDepth 40000 in
theorem ab_do_181 {cc : ByteArray} {p a a2 : Nat} (h : (ab_by cc)[p]? = some 181) (ha : (ab_by cc)[p + 1]? = some a) (ha2 : (ab_by cc)[p + 1 + 1]? = some a2) : decode cc p = .ok (.putfield (a * 256 + a2), 3) := ab_in_u2 (C := fun z => .putfield z) h ha ha2 rfl rfl
set_option maxRecDepth 40000 in
theorem ab_do_182 {cc : ByteArray} {p a a2 : Nat} (h : (ab_by cc)[p]? = some 182) (ha : (ab_by cc)[p + 1]? = some a) (ha2 : (ab_by cc)[p + 1 + 1]? = some a2) : decode cc p = .ok (.invokevirtual (a * 256 + a2), 3) := ab_in_u2 (C := fun z => .invokevirtual z) h ha ha2 rfl rfl
set_option maxRecDepth 40000 in
theorem ab_do_183 {cc : ByteArray} {p a a2 : Nat} (h : (ab_by cc)[p]? = some 183) (ha : (ab_by cc)[p + 1]? = some a) (ha2 : (ab_by cc)[p + 1 + 1]? = some a2) : decode cc p = .ok (.invokespecial (a * 256 + a2), 3) := ab_in_u2 (C := fun z => .invokespecial z) h ha ha2 rfl rfl
set_option maxRecDepth 40000 in
theorem ab_do_184 {cc : ByteArray} {p a a2 : Nat} (h : (ab_by cc)[p]? = some 184) (ha : (ab_by cc)[p + 1]? = some a) (ha2 : (ab_by cc)[p + 1 + 1]? = some a2) : decode cc p = .ok (.invokestatic (a * 256 + a2), 3) := ab_in_u2 (C := fun z => .invokestatic z) h ha ha2 rfl rfl
set_option maxRecDepth 40000 in
theorem ab_do_187 {cc : ByteArray} {p a a2 : Nat} (h : (ab_by cc)[p]? = some 187) (ha : (ab_by cc)[p + 1]? = some a) (ha2 : (ab_by cc)[p + 1 + 1]? = some a2) : decode cc p = .ok (.new (a * 256 + a2), 3) := ab_in_u2 (C := fun z => .new z) h ha ha2 rfl rfl
set_option maxRecDepth 40000 in
theorem ab_do_189 {cc : ByteArray} {p a a2 : Nat} (h : (ab_by cc)[p]? = some 189) (ha : (ab_by cc)[p + 1]? = some a) (ha2 : (ab_by cc)[p + 1 + 1]? = some a2) : decode cc p = .ok (.anewarray (a * 256 + a2), 3) := ab_in_u2 (C := fun z => .anewarray z) h ha ha2 rfl rfl
set_option maxRecDepth 40000 in
theorem ab_do_17 {cc : ByteArray} {p a a2 : Nat} (h : (ab_by cc)[p]? = some 17) (ha : (ab_by cc)[p + 1]? = some a) (ha2 : (ab_by cc)[p + 1 + 1]? = some a2) : decode cc p = .ok (.sipush (ClassFile.Reader.signed 16 (a * 256 + a2)), 3) := ab_in_s2 (C := fun z => .sipush z) h ha ha2 rfl rfl
set_option maxRecDepth 40000 in
theorem ab_do_153 {cc : ByteArray} {p a a2 : Nat} (h : (ab_by cc)[p]? = some 153) (ha : (ab_by cc)[p + 1]? = some a) (ha2 : (ab_by cc)[p + 1 + 1]? = some a2) : decode cc p = .ok (.ifCond .eq (ClassFile.Reader.signed 16 (a * 256 + a2)), 3) := ab_in_s2 (C := fun z => .ifCond .eq z) h ha ha2 rfl rfl
set_option maxRecDepth 40000 in
theorem ab_do_154 {cc : ByteArray} {p a a2 : Nat} (h : (ab_by cc)[p]? = some 154) (ha : (ab_by cc)[p + 1]? = some a) (ha2 : (ab_by cc)[p + 1 + 1]? = some a2) : decode cc p = .ok (.ifCond .ne (ClassFile.Reader.signed 16 (a * 256 + a2)), 3) := ab_in_s2 (C := fun z => .ifCond .ne z) h ha ha2 rfl rfl
set_option maxRecDepth 40000 in
theorem ab_do_155 {cc : ByteArray} {p a a2 : Nat} (h : (ab_by cc)[p]? = some 155) (ha : (ab_by cc)[p + 1]? = some a) (ha2 : (ab_by cc)[p + 1 + 1]? = some a2) : decode cc p = .ok (.ifCond .lt (ClassFile.Reader.signed 16 (a * 256 + a2)), 3) := ab_in_s2 (C := fun z => .ifCond .lt z) h ha ha2 rfl rfl
set_option maxRecDepth 40000 in
theorem ab_do_156 {cc : ByteArray} {p a a2 : Nat} (h : (ab_by cc)[p]? = some 156) (ha : (ab_by cc)[p + 1]? = some a) (ha2 : (ab_by cc)[p + 1 + 1]? = some a2) : decode cc p = .ok (.ifCond .ge (ClassFile.Reader.signed 16 (a * 256 + a2)), 3) := ab_in_s2 (C := fun z => .ifCond .ge z) h ha ha2 rfl rfl
set_option maxRecDepth 40000 in
theorem ab_do_157 {cc : ByteArray} {p a a2 : Nat} (h : (ab_by cc)[p]? = some 157) (ha : (ab_by cc)[p + 1]? = some a) (ha2 : (ab_by cc)[p + 1 + 1]? = some a2) : decode cc p = .ok (.ifCond .gt (ClassFile.Reader.signed 16 (a * 256 + a2)), 3) := ab_in_s2 (C := fun z => .ifCond .gt z) h ha ha2 rfl rfl
set_option maxRecDepth 40000 in
theorem ab_do_158 {cc : ByteArray} {p a a2 : Nat} (h : (ab_by cc)[p]? = some 158) (ha : (ab_by cc)[p + 1]? = some a) (ha2 : (ab_by cc)[p + 1 + 1]? = some a2) : decode cc p = .ok (.ifCond .le (ClassFile.Reader.signed 16 (a * 256 + a2)), 3) := ab_in_s2 (C := fun z => .ifCond .le z) h ha ha2 rfl rfl
set_option maxRecDepth 40000 in
theorem ab_do_159 {cc : ByteArray} {p a a2 : Nat} (h : (ab_by cc)[p]? = some 159) (ha : (ab_by cc)[p + 1]? = some a) (ha2 : (ab_by cc)[p + 1 + 1]? = some a2) : decode cc p = .ok (.if_icmp .eq (ClassFile.Reader.signed 16 (a * 256 + a2)), 3) := ab_in_s2 (C := fun z => .if_icmp .eq z) h ha ha2 rfl rfl
set_option maxRecDepth 40000 in
theorem ab_do_160 {cc : ByteArray} {p a a2 : Nat} (h : (ab_by cc)[p]? = some 160) (ha : (ab_by cc)[p + 1]? = some a) (ha2 : (ab_by cc)[p + 1 + 1]? = some a2) : decode cc p = .ok (.if_icmp .ne (ClassFile.Reader.signed 16 (a * 256 + a2)), 3) := ab_in_s2 (C := fun z => .if_icmp .ne z) h ha ha2 rfl rfl
set_option maxRecDepth 40000 in
theorem ab_do_161 {cc : ByteArray} {p a a2 : Nat} (h : (ab_by cc)[p]? = some 161) (ha : (ab_by cc)[p + 1]? = some a) (ha2 : (ab_by cc)[p + 1 + 1]? = some a2) : decode cc p = .ok (.if_icmp .lt (ClassFile.Reader.signed 16 (a * 256 + a2)), 3) := ab_in_s2 (C := fun z => .if_icmp .lt z) h ha ha2 rfl rfl
set_option maxRecDepth 40000 in
theorem ab_do_162 {cc : ByteArray} {p a a2 : Nat} (h : (ab_by cc)[p]? = some 162) (ha : (ab_by cc)[p + 1]? = some a) (ha2 : (ab_by cc)[p + 1 + 1]? = some a2) : decode cc p = .ok (.if_icmp .ge (ClassFile.Reader.signed 16 (a * 256 + a2)), 3) := ab_in_s2 (C := fun z => .if_icmp .ge z) h ha ha2 rfl rfl
set_option maxRecDepth 40000 in
theorem ab_do_163 {cc : ByteArray} {p a a2 : Nat} (h : (ab_by cc)[p]? = some 163) (ha : (ab_by cc)[p + 1]? = some a) (ha2 : (ab_by cc)[p + 1 + 1]? = some a2) : decode cc p = .ok (.if_icmp .gt (ClassFile.Reader.signed 16 (a * 256 + a2)), 3) := ab_in_s2 (C := fun z => .if_icmp .gt z) h ha ha2 rfl rfl
set_option maxRecDepth 40000 in
theorem ab_do_164 {cc : ByteArray} {p a a2 : Nat} (h : (ab_by cc)[p]? = some 164) (ha : (ab_by cc)[p + 1]? = some a) (ha2 : (ab_by cc)[p + 1 + 1]? = some a2) : decode cc p = .ok (.if_icmp .le (ClassFile.Reader.signed 16 (a * 256 + a2)), 3) := ab_in_s2 (C := fun z => .if_icmp .le z) h ha ha2 rfl rfl
set_option maxRecDepth 40000 in
theorem ab_do_167 {cc : ByteArray} {p a a2 : Nat} (h : (ab_by cc)[p]? = some 167) (ha : (ab_by cc)[p + 1]? = some a) (ha2 : (ab_by cc)[p + 1 + 1]? = some a2) : decode cc p = .ok (.goto (ClassFile.Reader.signed 16 (a * 256 + a2)), 3) := ab_in_s2 (C := fun z => .goto z) h ha ha2 rfl rfl
set_option maxRecDepth 40000 in
theorem ab_do_198 {cc : ByteArray} {p a a2 : Nat} (h : (ab_by cc)[p]? = some 198) (ha : (ab_by cc)[p + 1]? = some a) (ha2 : (ab_by cc)[p + 1 + 1]? = some a2) : decode cc p = .ok (.ifnull (ClassFile.Reader.signed 16 (a * 256 + a2)), 3) := ab_in_s2 (C := fun z => .ifnull z) h ha ha2 rfl rfl
set_option maxRecDepth 40000 in
theorem ab_do_199 {cc : ByteArray} {p a a2 : Nat} (h : (ab_by cc)[p]? = some 199) (ha : (ab_by cc)[p + 1]? = some a) (ha2 : (ab_by cc)[p + 1 + 1]? = some a2) : decode cc p = .ok (.ifnonnull (ClassFile.Reader.signed 16 (a * 256 + a2)), 3) := ab_in_s2 (C := fun z => .ifnonnull z) h ha ha2 rfl rfl
set_option maxRecDepth 40000 in
theorem ab_do_132 {cc : ByteArray} {p a b : Nat} (h : (ab_by cc)[p]? = some 132) (ha : (ab_by cc)[p + 1]? = some a) (hb : (ab_by cc)[p + 1 + 1]? = some b) : decode cc p = .ok (.iinc a (ClassFile.Reader.signed 8 b), 3) := by
  have e : ClassFile.Decoder.instr p cc p = .ok (.iinc a (ClassFile.Reader.signed 8 b), p + 1 + 1 + 1) := by
    unfold ClassFile.Decoder.instr
    rw [ab_bd, ab_u1 h]
    show ((ClassFile.Reader.u1 : ClassFile.Decoder Nat) >>= fun z => (ClassFile.Reader.s1 : ClassFile.Decoder Int) >>= fun w => Pure.pure (Instr.iinc z w)) cc (p + 1) = _
    rw [ab_bd, ab_u1 ha]
    show ((ClassFile.Reader.s1 : ClassFile.Decoder Int) >>= fun w => Pure.pure (Instr.iinc a w)) cc (p + 1 + 1) = _
    rw [ab_bd, ab_s1 hb]
    rfl
  rw [ab_dec e, show p + 1 + 1 + 1 - p = 3 by omega]
def ab_aty (t : ClassFile.ArrayType) : Nat := match t with
  | .boolean => 4
  | .char => 5
  | .float => 6
  | .double => 7
  | .byte => 8
  | .short => 9
  | .int => 10
  | .long => 11
set_option maxRecDepth 40000 in
theorem ab_do_188 {cc : ByteArray} {p : Nat} {t : ClassFile.ArrayType} (h : (ab_by cc)[p]? = some 188) (ha : (ab_by cc)[p + 1]? = some (ab_aty t)) : decode cc p = .ok (.newarray t, 2) := by
  have e : ClassFile.Decoder.instr p cc p = .ok (.newarray t, p + 1 + 1) := by
    unfold ClassFile.Decoder.instr
    rw [ab_bd, ab_u1 h]
    show ClassFile.Decoder.newarray p cc (p + 1) = _
    unfold ClassFile.Decoder.newarray
    rw [ab_bd, ab_u1 ha]
    cases t <;> rfl
  rw [ab_dec e, show p + 1 + 1 - p = 2 by omega]
/-- an instruction's bytes -/
def ab_enc (ins : Instr) : Option (List Nat) := match ins with
  | .aconst_null => some [1]
  | .iaload => some [46]
  | .laload => some [47]
  | .aaload => some [50]
  | .baload => some [51]
  | .iastore => some [79]
  | .lastore => some [80]
  | .aastore => some [83]
  | .bastore => some [84]
  | .pop => some [87]
  | .dup => some [89]
  | .dup2 => some [92]
  | .iadd => some [96]
  | .ladd => some [97]
  | .isub => some [100]
  | .lsub => some [101]
  | .imul => some [104]
  | .lmul => some [105]
  | .idiv => some [108]
  | .irem => some [112]
  | .ineg => some [116]
  | .ishl => some [120]
  | .lshl => some [121]
  | .ishr => some [122]
  | .lshr => some [123]
  | .iushr => some [124]
  | .lushr => some [125]
  | .iand => some [126]
  | .land => some [127]
  | .ior => some [128]
  | .lor => some [129]
  | .ixor => some [130]
  | .i2l => some [133]
  | .i2b => some [145]
  | .i2c => some [146]
  | .lcmp => some [148]
  | .ireturn => some [172]
  | .lreturn => some [173]
  | .return_ => some [177]
  | .arraylength => some [190]
  | .athrow => some [191]
  | .iload_n k => some [26 + k.val]
  | .lload_n k => some [30 + k.val]
  | .aload_n k => some [42 + k.val]
  | .istore_n k => some [59 + k.val]
  | .lstore_n k => some [63 + k.val]
  | .astore_n k => some [75 + k.val]
  | .lconst k => some [9 + k.val]
  | .iconst n => if -1 ≤ n ∧ n ≤ 5 then some [(n + 3).toNat] else none
  | .ldc n => some [18, n]
  | .iload n => some [21, n]
  | .lload n => some [22, n]
  | .aload n => some [25, n]
  | .istore n => some [54, n]
  | .lstore n => some [55, n]
  | .astore n => some [58, n]
  | .bipush n => if -128 ≤ n ∧ n < 128 then some [16, ab_e8 n] else none
  | .ldc_w n => some [19, n / 256, n % 256]
  | .ldc2_w n => some [20, n / 256, n % 256]
  | .getstatic n => some [178, n / 256, n % 256]
  | .getfield n => some [180, n / 256, n % 256]
  | .putfield n => some [181, n / 256, n % 256]
  | .invokevirtual n => some [182, n / 256, n % 256]
  | .invokespecial n => some [183, n / 256, n % 256]
  | .invokestatic n => some [184, n / 256, n % 256]
  | .new n => some [187, n / 256, n % 256]
  | .anewarray n => some [189, n / 256, n % 256]
  | .sipush n => if -32768 ≤ n ∧ n < 32768 then some [17, ab_e16 n / 256, ab_e16 n % 256] else none
  | .ifCond .eq n => if -32768 ≤ n ∧ n < 32768 then some [153, ab_e16 n / 256, ab_e16 n % 256] else none
  | .ifCond .ne n => if -32768 ≤ n ∧ n < 32768 then some [154, ab_e16 n / 256, ab_e16 n % 256] else none
  | .ifCond .lt n => if -32768 ≤ n ∧ n < 32768 then some [155, ab_e16 n / 256, ab_e16 n % 256] else none
  | .ifCond .ge n => if -32768 ≤ n ∧ n < 32768 then some [156, ab_e16 n / 256, ab_e16 n % 256] else none
  | .ifCond .gt n => if -32768 ≤ n ∧ n < 32768 then some [157, ab_e16 n / 256, ab_e16 n % 256] else none
  | .ifCond .le n => if -32768 ≤ n ∧ n < 32768 then some [158, ab_e16 n / 256, ab_e16 n % 256] else none
  | .if_icmp .eq n => if -32768 ≤ n ∧ n < 32768 then some [159, ab_e16 n / 256, ab_e16 n % 256] else none
  | .if_icmp .ne n => if -32768 ≤ n ∧ n < 32768 then some [160, ab_e16 n / 256, ab_e16 n % 256] else none
  | .if_icmp .lt n => if -32768 ≤ n ∧ n < 32768 then some [161, ab_e16 n / 256, ab_e16 n % 256] else none
  | .if_icmp .ge n => if -32768 ≤ n ∧ n < 32768 then some [162, ab_e16 n / 256, ab_e16 n % 256] else none
  | .if_icmp .gt n => if -32768 ≤ n ∧ n < 32768 then some [163, ab_e16 n / 256, ab_e16 n % 256] else none
  | .if_icmp .le n => if -32768 ≤ n ∧ n < 32768 then some [164, ab_e16 n / 256, ab_e16 n % 256] else none
  | .goto n => if -32768 ≤ n ∧ n < 32768 then some [167, ab_e16 n / 256, ab_e16 n % 256] else none
  | .ifnull n => if -32768 ≤ n ∧ n < 32768 then some [198, ab_e16 n / 256, ab_e16 n % 256] else none
  | .ifnonnull n => if -32768 ≤ n ∧ n < 32768 then some [199, ab_e16 n / 256, ab_e16 n % 256] else none
  | .iinc a n => if -128 ≤ n ∧ n < 128 then some [132, a, ab_e8 n] else none
  | .newarray t => some [188, ab_aty t]
  | _ => none
theorem ab_enc_ok {ins : Instr} {bs t : List Nat} {cc : ByteArray} {p : Nat} (h : ab_enc ins = some bs) (hp : (ab_by cc).drop p = bs ++ t) : decode cc p = .ok (ins, bs.length) := by
  have at9 : ∀ k, k < bs.length → (ab_by cc)[p + k]? = bs[k]? := fun k hk => by
    rw [← List.getElem?_drop, hp, List.getElem?_append_left hk]
  have h0 : ∀ {a b : Nat} {l : List Nat}, bs = a :: l → a = b → (ab_by cc)[p]? = some b := fun e1 e2 => by
    have := at9 0 (by rw [e1]; simp)
    rw [e1] at this
    rw [← e2]; simpa using this
  have h1 : ∀ {a b c : Nat} {l : List Nat}, bs = a :: c :: l → c = b → (ab_by cc)[p + 1]? = some b := fun e1 e2 => by
    have := at9 1 (by rw [e1]; simp)
    rw [e1] at this
    rw [← e2]; simpa using this
  have h2 : ∀ {a b c d : Nat} {l : List Nat}, bs = a :: c :: d :: l → d = b → (ab_by cc)[p + 1 + 1]? = some b := fun e1 e2 => by
    have := at9 2 (by rw [e1]; simp)
    rw [e1] at this
    rw [← e2]; simpa using this
  cases ins
  case aconst_null => cases h; exact ab_do_1 (h0 rfl rfl)
  case iaload => cases h; exact ab_do_46 (h0 rfl rfl)
  case laload => cases h; exact ab_do_47 (h0 rfl rfl)
  case aaload => cases h; exact ab_do_50 (h0 rfl rfl)
  case baload => cases h; exact ab_do_51 (h0 rfl rfl)
  case iastore => cases h; exact ab_do_79 (h0 rfl rfl)
  case lastore => cases h; exact ab_do_80 (h0 rfl rfl)
  case aastore => cases h; exact ab_do_83 (h0 rfl rfl)
  case bastore => cases h; exact ab_do_84 (h0 rfl rfl)
  case pop => cases h; exact ab_do_87 (h0 rfl rfl)
  case dup => cases h; exact ab_do_89 (h0 rfl rfl)
  case dup2 => cases h; exact ab_do_92 (h0 rfl rfl)
  case iadd => cases h; exact ab_do_96 (h0 rfl rfl)
  case ladd => cases h; exact ab_do_97 (h0 rfl rfl)
  case isub => cases h; exact ab_do_100 (h0 rfl rfl)
  case lsub => cases h; exact ab_do_101 (h0 rfl rfl)
  case imul => cases h; exact ab_do_104 (h0 rfl rfl)
  case lmul => cases h; exact ab_do_105 (h0 rfl rfl)
  case idiv => cases h; exact ab_do_108 (h0 rfl rfl)
  case irem => cases h; exact ab_do_112 (h0 rfl rfl)
  case ineg => cases h; exact ab_do_116 (h0 rfl rfl)
  case ishl => cases h; exact ab_do_120 (h0 rfl rfl)
  case lshl => cases h; exact ab_do_121 (h0 rfl rfl)
  case ishr => cases h; exact ab_do_122 (h0 rfl rfl)
  case lshr => cases h; exact ab_do_123 (h0 rfl rfl)
  case iushr => cases h; exact ab_do_124 (h0 rfl rfl)
  case lushr => cases h; exact ab_do_125 (h0 rfl rfl)
  case iand => cases h; exact ab_do_126 (h0 rfl rfl)
  case land => cases h; exact ab_do_127 (h0 rfl rfl)
  case ior => cases h; exact ab_do_128 (h0 rfl rfl)
  case lor => cases h; exact ab_do_129 (h0 rfl rfl)
  case ixor => cases h; exact ab_do_130 (h0 rfl rfl)
  case i2l => cases h; exact ab_do_133 (h0 rfl rfl)
  case i2b => cases h; exact ab_do_145 (h0 rfl rfl)
  case i2c => cases h; exact ab_do_146 (h0 rfl rfl)
  case lcmp => cases h; exact ab_do_148 (h0 rfl rfl)
  case ireturn => cases h; exact ab_do_172 (h0 rfl rfl)
  case lreturn => cases h; exact ab_do_173 (h0 rfl rfl)
  case return_ => cases h; exact ab_do_177 (h0 rfl rfl)
  case arraylength => cases h; exact ab_do_190 (h0 rfl rfl)
  case athrow => cases h; exact ab_do_191 (h0 rfl rfl)
  case iload_n k =>
    cases h
    rcases k with ⟨k, hk⟩
    rcases (show k = 0 ∨ k = 1 ∨ k = 2 ∨ k = 3 by omega) with rfl | rfl | rfl | rfl
    · exact ab_do_26 (h0 rfl rfl)
    · exact ab_do_27 (h0 rfl rfl)
    · exact ab_do_28 (h0 rfl rfl)
    · exact ab_do_29 (h0 rfl rfl)
  case lload_n k =>
    cases h
    rcases k with ⟨k, hk⟩
    rcases (show k = 0 ∨ k = 1 ∨ k = 2 ∨ k = 3 by omega) with rfl | rfl | rfl | rfl
    · exact ab_do_30 (h0 rfl rfl)
    · exact ab_do_31 (h0 rfl rfl)
    · exact ab_do_32 (h0 rfl rfl)
    · exact ab_do_33 (h0 rfl rfl)
  case aload_n k =>
    cases h
    rcases k with ⟨k, hk⟩
    rcases (show k = 0 ∨ k = 1 ∨ k = 2 ∨ k = 3 by omega) with rfl | rfl | rfl | rfl
    · exact ab_do_42 (h0 rfl rfl)
    · exact ab_do_43 (h0 rfl rfl)
    · exact ab_do_44 (h0 rfl rfl)
    · exact ab_do_45 (h0 rfl rfl)
  case istore_n k =>
    cases h
    rcases k with ⟨k, hk⟩
    rcases (show k = 0 ∨ k = 1 ∨ k = 2 ∨ k = 3 by omega) with rfl | rfl | rfl | rfl
    · exact ab_do_59 (h0 rfl rfl)
    · exact ab_do_60 (h0 rfl rfl)
    · exact ab_do_61 (h0 rfl rfl)
    · exact ab_do_62 (h0 rfl rfl)
  case lstore_n k =>
    cases h
    rcases k with ⟨k, hk⟩
    rcases (show k = 0 ∨ k = 1 ∨ k = 2 ∨ k = 3 by omega) with rfl | rfl | rfl | rfl
    · exact ab_do_63 (h0 rfl rfl)
    · exact ab_do_64 (h0 rfl rfl)
    · exact ab_do_65 (h0 rfl rfl)
    · exact ab_do_66 (h0 rfl rfl)
  case astore_n k =>
    cases h
    rcases k with ⟨k, hk⟩
    rcases (show k = 0 ∨ k = 1 ∨ k = 2 ∨ k = 3 by omega) with rfl | rfl | rfl | rfl
    · exact ab_do_75 (h0 rfl rfl)
    · exact ab_do_76 (h0 rfl rfl)
    · exact ab_do_77 (h0 rfl rfl)
    · exact ab_do_78 (h0 rfl rfl)
  case lconst k =>
    cases h
    rcases k with ⟨k, hk⟩
    rcases (show k = 0 ∨ k = 1 by omega) with rfl | rfl
    · exact ab_do_9 (h0 rfl rfl)
    · exact ab_do_10 (h0 rfl rfl)
  case iconst n =>
    simp only [ab_enc] at h
    split at h
    · rename_i hn
      cases h
      rcases (show n = -1 ∨ n = 0 ∨ n = 1 ∨ n = 2 ∨ n = 3 ∨ n = 4 ∨ n = 5 by omega) with rfl | rfl | rfl | rfl | rfl | rfl | rfl
      · exact ab_do_2 (h0 rfl rfl)
      · exact ab_do_3 (h0 rfl rfl)
      · exact ab_do_4 (h0 rfl rfl)
      · exact ab_do_5 (h0 rfl rfl)
      · exact ab_do_6 (h0 rfl rfl)
      · exact ab_do_7 (h0 rfl rfl)
      · exact ab_do_8 (h0 rfl rfl)
    · cases h
  case ldc n => cases h; exact ab_do_18 (h0 rfl rfl) (h1 rfl rfl)
  case iload n => cases h; exact ab_do_21 (h0 rfl rfl) (h1 rfl rfl)
  case lload n => cases h; exact ab_do_22 (h0 rfl rfl) (h1 rfl rfl)
  case aload n => cases h; exact ab_do_25 (h0 rfl rfl) (h1 rfl rfl)
  case istore n => cases h; exact ab_do_54 (h0 rfl rfl) (h1 rfl rfl)
  case lstore n => cases h; exact ab_do_55 (h0 rfl rfl) (h1 rfl rfl)
  case astore n => cases h; exact ab_do_58 (h0 rfl rfl) (h1 rfl rfl)
  case bipush n =>
    simp only [ab_enc] at h
    split at h
    · rename_i hn
      cases h
      rw [ab_do_16 (h0 rfl rfl) (h1 rfl rfl), ab_e8_ok hn]; rfl
    · cases h
  case ldc_w n => cases h; rw [ab_do_19 (h0 rfl rfl) (h1 rfl rfl) (h2 rfl rfl), show n / 256 * 256 + n % 256 = n by omega]; rfl
  case ldc2_w n => cases h; rw [ab_do_20 (h0 rfl rfl) (h1 rfl rfl) (h2 rfl rfl), show n / 256 * 256 + n % 256 = n by omega]; rfl
  case getstatic n => cases h; rw [ab_do_178 (h0 rfl rfl) (h1 rfl rfl) (h2 rfl rfl), show n / 256 * 256 + n % 256 = n by omega]; rfl
  case getfield n => cases h; rw [ab_do_180 (h0 rfl rfl) (h1 rfl rfl) (h2 rfl rfl), show n / 256 * 256 + n % 256 = n by omega]; rfl
  case putfield n => cases h; rw [ab_do_181 (h0 rfl rfl) (h1 rfl rfl) (h2 rfl rfl), show n / 256 * 256 + n % 256 = n by omega]; rfl
  case invokevirtual n => cases h; rw [ab_do_182 (h0 rfl rfl) (h1 rfl rfl) (h2 rfl rfl), show n / 256 * 256 + n % 256 = n by omega]; rfl
  case invokespecial n => cases h; rw [ab_do_183 (h0 rfl rfl) (h1 rfl rfl) (h2 rfl rfl), show n / 256 * 256 + n % 256 = n by omega]; rfl
  case invokestatic n => cases h; rw [ab_do_184 (h0 rfl rfl) (h1 rfl rfl) (h2 rfl rfl), show n / 256 * 256 + n % 256 = n by omega]; rfl
  case new n => cases h; rw [ab_do_187 (h0 rfl rfl) (h1 rfl rfl) (h2 rfl rfl), show n / 256 * 256 + n % 256 = n by omega]; rfl
  case anewarray n => cases h; rw [ab_do_189 (h0 rfl rfl) (h1 rfl rfl) (h2 rfl rfl), show n / 256 * 256 + n % 256 = n by omega]; rfl
  case sipush n =>
    · simp only [ab_enc] at h
      split at h
      · rename_i hn
        cases h
        rw [ab_do_17 (h0 rfl rfl) (h1 rfl rfl) (h2 rfl rfl), ab_e16_ok hn]; rfl
      · cases h
  case ifCond cd n =>
    cases cd
    · simp only [ab_enc] at h
      split at h
      · rename_i hn
        cases h
        rw [ab_do_153 (h0 rfl rfl) (h1 rfl rfl) (h2 rfl rfl), ab_e16_ok hn]; rfl
      · cases h
    · simp only [ab_enc] at h
      split at h
      · rename_i hn
        cases h
        rw [ab_do_154 (h0 rfl rfl) (h1 rfl rfl) (h2 rfl rfl), ab_e16_ok hn]; rfl
      · cases h
    · simp only [ab_enc] at h
      split at h
      · rename_i hn
        cases h
        rw [ab_do_155 (h0 rfl rfl) (h1 rfl rfl) (h2 rfl rfl), ab_e16_ok hn]; rfl
      · cases h
    · simp only [ab_enc] at h
      split at h
      · rename_i hn
        cases h
        rw [ab_do_156 (h0 rfl rfl) (h1 rfl rfl) (h2 rfl rfl), ab_e16_ok hn]; rfl
      · cases h
    · simp only [ab_enc] at h
      split at h
      · rename_i hn
        cases h
        rw [ab_do_157 (h0 rfl rfl) (h1 rfl rfl) (h2 rfl rfl), ab_e16_ok hn]; rfl
      · cases h
    · simp only [ab_enc] at h
      split at h
      · rename_i hn
        cases h
        rw [ab_do_158 (h0 rfl rfl) (h1 rfl rfl) (h2 rfl rfl), ab_e16_ok hn]; rfl
      · cases h
  case if_icmp cd n =>
    cases cd
    · simp only [ab_enc] at h
      split at h
      · rename_i hn
        cases h
        rw [ab_do_159 (h0 rfl rfl) (h1 rfl rfl) (h2 rfl rfl), ab_e16_ok hn]; rfl
      · cases h
    · simp only [ab_enc] at h
      split at h
      · rename_i hn
        cases h
        rw [ab_do_160 (h0 rfl rfl) (h1 rfl rfl) (h2 rfl rfl), ab_e16_ok hn]; rfl
      · cases h
    · simp only [ab_enc] at h
      split at h
      · rename_i hn
        cases h
        rw [ab_do_161 (h0 rfl rfl) (h1 rfl rfl) (h2 rfl rfl), ab_e16_ok hn]; rfl
      · cases h
    · simp only [ab_enc] at h
      split at h
      · rename_i hn
        cases h
        rw [ab_do_162 (h0 rfl rfl) (h1 rfl rfl) (h2 rfl rfl), ab_e16_ok hn]; rfl
      · cases h
    · simp only [ab_enc] at h
      split at h
      · rename_i hn
        cases h
        rw [ab_do_163 (h0 rfl rfl) (h1 rfl rfl) (h2 rfl rfl), ab_e16_ok hn]; rfl
      · cases h
    · simp only [ab_enc] at h
      split at h
      · rename_i hn
        cases h
        rw [ab_do_164 (h0 rfl rfl) (h1 rfl rfl) (h2 rfl rfl), ab_e16_ok hn]; rfl
      · cases h
  case goto n =>
    · simp only [ab_enc] at h
      split at h
      · rename_i hn
        cases h
        rw [ab_do_167 (h0 rfl rfl) (h1 rfl rfl) (h2 rfl rfl), ab_e16_ok hn]; rfl
      · cases h
  case ifnull n =>
    · simp only [ab_enc] at h
      split at h
      · rename_i hn
        cases h
        rw [ab_do_198 (h0 rfl rfl) (h1 rfl rfl) (h2 rfl rfl), ab_e16_ok hn]; rfl
      · cases h
  case ifnonnull n =>
    · simp only [ab_enc] at h
      split at h
      · rename_i hn
        cases h
        rw [ab_do_199 (h0 rfl rfl) (h1 rfl rfl) (h2 rfl rfl), ab_e16_ok hn]; rfl
      · cases h
  case iinc a n =>
    simp only [ab_enc] at h
    split at h
    · rename_i hn
      cases h
      rw [ab_do_132 (h0 rfl rfl) (h1 rfl rfl) (h2 rfl rfl), ab_e8_ok hn]; rfl
    · cases h
  case newarray t => cases h; exact ab_do_188 (h0 rfl rfl) (h1 rfl rfl)
  all_goals (cases h)
/-- rows against what is left of the bytes -/
def ab_vq (G : ab_PG) (y : MethodName) (cc : ByteArray) : List Nat → Nat → List ab_Row → Bool
  | _, _, [] => true
  | suf, pc, row :: rest => (match ab_enc row.1 with
      | some bs => bs.isPrefixOf suf && decide (row.2.1 = bs.length)
      | none => decide (decode cc pc = .ok (row.1, row.2.1))) && ab_rj G y pc row rest && (if ab_th row = true then ab_dcs cc (pc + row.2.1) rest else ab_vq G y cc (suf.drop row.2.1) (pc + row.2.1) rest)
theorem ab_vq_ok {G : ab_PG} {y : MethodName} {cc : ByteArray} : ∀ (rows : List ab_Row) (suf : List Nat) (pc : Nat), suf = (ab_by cc).drop pc → ab_vq G y cc suf pc rows = true → ab_vl G y cc pc rows = true := by
  intro rows
  induction rows with
  | nil => intro _ _ _ _; rfl
  | cons row rest ih =>
    intro suf pc hs h
    unfold ab_vq at h
    obtain ⟨h1, h3⟩ := Bool.and_eq_true_iff.mp h
    obtain ⟨h1, h2⟩ := Bool.and_eq_true_iff.mp h1
    have h4 : (if ab_th row = true then ab_dcs cc (pc + row.2.1) rest else ab_vl G y cc (pc + row.2.1) rest) = true := by
      split at h3
      · rename_i e; rw [if_pos e]; exact h3
      · rename_i e; rw [if_neg e]; exact ih (suf.drop row.2.1) (pc + row.2.1) (by rw [hs, List.drop_drop]) h3
    unfold ab_vl
    rw [h2, h4, Bool.and_true, Bool.and_true]
    apply decide_eq_true
    split at h1
    · rename_i bs hb
      obtain ⟨a1, a2⟩ := Bool.and_eq_true_iff.mp h1
      obtain ⟨t, ht⟩ := List.isPrefixOf_iff_prefix.mp a1
      rw [of_decide_eq_true a2]
      exact ab_enc_ok hb (by rw [← hs]; exact ht.symm)
    · exact of_decide_eq_true h1
