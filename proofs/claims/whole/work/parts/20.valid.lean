/-! rows that are the method's own, decided by the kernel; a method's facts -/
def ab_np (y : MethodName) (k : Nat) : Bool := decide ((parseMethodDescriptor y.desc).map (fun d => d.parameters.length) = some k)
/-- whose methods: the class of a kind -/
def ab_kc (k : Nat) : String := if k = 30 then "java/lang/String" else match ab_cls[k]? with
  | some z => z.1
  | none => ""
def ab_jm (pc : Nat) (off : Int) (t : Nat) : Bool := decide ((pc : Int) + off = (t : Int))
/-- the sites of throws: index of the class, of the text, of the constructor -/
abbrev ab_sit : List (Nat × Nat × Nat × Nat) := [(383, 385, 387, 0), (383, 390, 387, 0), (392, 394, 396, 1), (397, 399, 401, 2)]
def ab_rck (y : MethodName) (z : ab_Mi) (ins : Instr) (n kd q q1 q2 rk : Nat) : Bool := match ins, kd with
  | .invokevirtual i, 0 => ab_w q (.methodLink y.cls i z.1) && ab_w q1 (.instanceMethod z.1) && ab_w q2 (.selects z.1.cls z.1 z.1) && decide (z.2.2.2.2.1 = []) && decide (1 ≤ n) && ab_np z.1 (n - 1) && decide (ab_kc rk = z.1.cls)
  | .invokestatic i, 1 => ab_w q (.methodLink y.cls i z.1) && ab_w q1 (.static z.1) && decide (z.2.2.2.2.1 = []) && ab_np z.1 n
  | .invokespecial i, 2 => ab_w q (.methodLink y.cls i z.1) && ab_w q1 (.instanceMethod z.1) && decide (z.1.name = "<init>") && decide (z.2.2.2.1 = none) && decide (z.2.2.2.2.1 = []) && decide (1 ≤ n) && ab_np z.1 (n - 1)
  | .invokestatic i, 3 => ab_w q (.methodLinkNest y.cls i z.1 RX11) && ab_w q1 (.static z.1) && decide (z.2.2.2.2.1 = []) && ab_np z.1 n
  | .invokespecial i, 4 => ab_w q (.methodLinkNest y.cls i z.1 RX11) && ab_w q1 (.instanceMethod z.1) && decide (z.1.name = "<init>") && decide (z.2.2.2.1 = none) && decide (z.2.2.2.2.1 = []) && decide (1 ≤ n) && ab_np z.1 (n - 1)
  | .invokestatic i, 5 => ab_w q (.methodLink y.cls i z.1) && ab_w q1 (.static z.1) && decide (z.2.2.2.2.1 ≠ []) && ab_np z.1 n
  | _, _ => false
def ab_rcl (G : ab_PG) (y : MethodName) (ins : Instr) (len : Nat) (r : List Nat) : Bool := match r with
  | _ :: j :: n :: kd :: q :: q1 :: q2 :: rk :: _ => (match G.1 j with
    | some z => decide (len = 3) && decide (j ≠ 0) && ab_rck y z ins n kd q q1 q2 rk
    | none => false)
  | _ => false
def ab_rj2 (G : ab_PG) (y : MethodName) (ins : Instr) (len : Nat) (r : List Nat) (rest : List ab_Row) : Bool := match r with
  | 500 :: E :: q :: _ => (match ins, ab_sit[q]? with
    | .new i, some z => decide (y.cls = RX11) && decide (len = 3) && decide (i = z.1) && decide (E = z.2.2.2) && decide (rest.map (fun w => (w.1, w.2.1)) = [(.dup, 1), (.ldc_w z.2.1, 3), (.invokespecial z.2.2.1, 3), (.athrow, 1)])
    | _, _ => false)
  | 600 :: _ => ab_rcl G y ins len r
  | 500 :: _ => false
  | _ => ab_rk y ins len r
def ab_rj (G : ab_PG) (y : MethodName) (pc : Nat) (row : ab_Row) (rest : List ab_Row) : Bool := match row with
  | (ins, len, r) => match ins with
    | .goto off => decide (len = 3) && ab_jm pc off (ab_r0 r)
    | .ifCond _ off => decide (len = 3) && ab_jm pc off (ab_r0 r)
    | .if_icmp _ off => decide (len = 3) && ab_jm pc off (ab_r0 r)
    | .ifnull off => decide (len = 3) && ab_jm pc off (ab_r0 r)
    | .ifnonnull off => decide (len = 3) && ab_jm pc off (ab_r0 r)
    | .tableswitch dflt lo hi offs => decide (r.length = offs.size + 1) && decide (lo + offs.size = hi + 1) && (List.range offs.size).all (fun k => match offs[k]?, r[k]? with
        | some o, some t => ab_jm pc o t
        | _, _ => false) && ab_jm pc dflt ((r.getLast?).getD 0)
    | .ireturn => decide (len = 1)
    | .lreturn => decide (len = 1)
    | .return_ => decide (len = 1)
    | _ => ab_rj2 G y ins len r rest
/-- what stands behind a throw is its own rows only -/
def ab_th (row : ab_Row) : Bool := match row with
  | (.new _, _, 500 :: _ :: _) => true
  | _ => false
def ab_dcs (cc : ByteArray) : Nat → List ab_Row → Bool
  | _, [] => true
  | pc, row :: rest => decide (decode cc pc = .ok (row.1, row.2.1)) && ab_dcs cc (pc + row.2.1) rest
def ab_vl (G : ab_PG) (y : MethodName) (cc : ByteArray) : Nat → List ab_Row → Bool
  | _, [] => true
  | pc, row :: rest => decide (decode cc pc = .ok (row.1, row.2.1)) && ab_rj G y pc row rest && (if ab_th row = true then ab_dcs cc (pc + row.2.1) rest else ab_vl G y cc (pc + row.2.1) rest)
/-- the handlers of the abstract table are those of the real one -/
def ab_hok (y : MethodName) (hh ha : List (Nat × Nat × Nat × Nat)) : Prop := match hh, ha with
  | [], [] => True
  | h :: r, a :: q => h.1 = a.1 ∧ h.2.1 = a.2.1 ∧ h.2.2.1 = a.2.2.1 ∧ a.2.2.2 < 3 ∧ h.2.2.2 ≠ 0 ∧ Cond.classLink y.cls h.2.2.2 (ab_en a.2.2.2) ∈ ab_G ∧ ab_hok y r q
  | _, _ => False
def ab_cw (z : ab_Mi) : Cond := if z.2.2.2.2.1 = [] then .code z.1 z.2.1 z.2.2.1 z.2.2.2.1 else .codeWith z.1 z.2.1 z.2.2.1 z.2.2.2.1 z.2.2.2.2.1
def ab_mok (G : ab_PG) (i : Nat) (z : ab_Mi) : Prop :=
  (plainName z.1.cls = true ∧ z.1.cls ≠ "java/lang/invoke/MethodHandle" ∧ z.1.cls ≠ "java/lang/invoke/VarHandle") ∧ z.2.2.1 ≤ 40 ∧ (i ≠ 0 → ab_cw z ∈ ab_G) ∧ (i ≠ 0 → Cond.initialized z.1.cls ∈ ab_G) ∧ ab_hok z.1 z.2.2.2.2.1 z.2.2.2.2.2 ∧ ∀ pc rows, G.2 i pc = some rows → ab_vl G z.1 z.2.1 pc rows = true
def ab_pok (G : ab_PG) : Prop := ∀ i z, G.1 i = some z → ab_mok G i z
/-! the locals at a method's begin -/
theorem ab_lay_at {ad sa : Nat → Nat} {M : ab_M} {nL : Nat} : ∀ (av : List ab_V) (off i : Nat) (v : ab_V), (∀ v ∈ av, ab_ok M v) → (av.flatMap ab_lay1 ++ List.replicate nL ab_top)[i]? = some v → ab_tp v = false → (off + i, ab_cv ad sa v) ∈ lv_args off (av.map (ab_cv ad sa)) := by
  intro av
  induction av with
  | nil =>
    intro off i v _ h ht
    simp only [List.flatMap_nil, List.nil_append, List.getElem?_replicate] at h
    split at h
    · cases h; simp [ab_tp] at ht
    · cases h
  | cons a av ih =>
    intro off i v ho h ht
    have hoa := ho a List.mem_cons_self
    have hot : ∀ v ∈ av, ab_ok M v := fun v hv => ho v (List.mem_cons_of_mem _ hv)
    rw [List.map_cons, lv_args]
    by_cases hl : ∃ x, a = .inl (.long x)
    · obtain ⟨x, rfl⟩ := hl
      have hc : (ab_cv ad sa (.inl (.long x))).category = 2 := rfl
      rw [if_pos hc]
      match i, h with
      | 0, h =>
        have : v = .inl (.long x) := by simpa [ab_lay1] using h.symm
        subst this
        exact List.mem_cons_self
      | 1, h =>
        have : v = ab_top := by simpa [ab_lay1] using h.symm
        subst this
        simp [ab_tp] at ht
      | i + 2, h =>
        have h2 := ih (off + 2) i v hot (by simpa [ab_lay1] using h) ht
        rw [show off + (i + 2) = off + 2 + i by omega]
        exact List.mem_cons_of_mem _ h2
    · have hla : ab_lay1 a = [a] := by
        unfold ab_lay1
        split
        · rename_i x; exact absurd ⟨x, rfl⟩ hl
        · rfl
      have hc : ¬ (ab_cv ad sa a).category = 2 := fun h9 => hl (ab_cat hoa h9)
      rw [if_neg hc]
      match i, h with
      | 0, h =>
        have : v = a := by simpa [hla] using h.symm
        subst this
        exact List.mem_cons_self
      | i + 1, h =>
        have h2 := ih (off + 1) i v hot (by simpa [hla] using h) ht
        rw [show off + (i + 1) = off + 1 + i by omega]
        exact List.mem_cons_of_mem _ h2
theorem ab_lay_len {ad sa : Nat → Nat} {M : ab_M} : ∀ (av : List ab_V), (∀ v ∈ av, ab_ok M v) → (lg_sl (av.map (ab_cv ad sa))).length = (av.flatMap ab_lay1).length := by
  intro av
  induction av with
  | nil => intro _; rfl
  | cons a av ih =>
    intro ho
    have h1 := ih (fun v hv => ho v (List.mem_cons_of_mem _ hv))
    have hoa := ho a List.mem_cons_self
    show (lg_sl (ab_cv ad sa a :: av.map (ab_cv ad sa))).length = _
    rw [show lg_sl (ab_cv ad sa a :: av.map (ab_cv ad sa)) = (if (ab_cv ad sa a).category = 2 then [Slot.val (ab_cv ad sa a), .second] else [.val (ab_cv ad sa a)]) ++ lg_sl (av.map (ab_cv ad sa)) from rfl, List.flatMap_cons, List.length_append, List.length_append, h1]
    congr 1
    by_cases hc : (ab_cv ad sa a).category = 2
    · rw [if_pos hc]
      obtain ⟨x, rfl⟩ := ab_cat hoa hc
      rfl
    · rw [if_neg hc]
      cases a with
      | inl w => cases w <;> first | rfl | exact absurd rfl hc
      | inr q => rfl
theorem ab_entry {ad sa : Nat → Nat} {M : ab_M} {nL : Nat} {av : List ab_V} (ho : ∀ v ∈ av, ab_ok M v) (h : (av.flatMap ab_lay1).length ≤ nL) : ab_lh ((lg_sl (av.map (ab_cv ad sa)) ++ List.replicate (nL - (lg_sl (av.map (ab_cv ad sa))).length) Slot.unset).toArray) nL (ab_cv ad sa) (ab_ent0 av nL) := by
  have hl := ab_lay_len (ad := ad) (sa := sa) av ho
  refine ab_lh.of (lv_entry (av.map (ab_cv ad sa)) (n := nL) (by rw [hl]; exact h)) ?_ (fun i v h1 h2 => ?_)
  · unfold ab_ent0
    rw [List.length_append, List.length_replicate]
    omega
  · have := ab_lay_at (ad := ad) (sa := sa) (nL := nL - (av.flatMap ab_lay1).length) av 0 i v ho h1 h2
    rw [Nat.zero_add] at this
    exact this
theorem ab_ent0_ok {M : ab_M} {nL : Nat} {av : List ab_V} (ho : ∀ v ∈ av, ab_ok M v) : ∀ v ∈ ab_ent0 av nL, ab_ok M v := by
  intro v hv
  rcases List.mem_append.mp hv with h | h
  · obtain ⟨a, ha, h⟩ := List.mem_flatMap.mp h
    have hoa := ho a ha
    unfold ab_lay1 at h
    split at h
    · rcases List.mem_cons.mp h with rfl | h
      · exact trivial
      · rcases List.mem_cons.mp h with rfl | h
        · exact ab_oktop
        · cases h
    · rcases List.mem_cons.mp h with rfl | h
      · exact hoa
      · cases h
  · rw [(List.mem_replicate.mp h).2]
    exact ab_oktop
