/-! every run of the abstract machine is one of the real machine -/
section AB9
variable {l : Launch} {D : va_G} {cy : Nat → ClassId} {h0 : Nat} {sa : Nat → Nat} {G : ab_PG} {xs : Nat × (Nat → Int32)}
/-- what a run says of a body, f steps far -/
def ab_Bd (l : Launch) (D : va_G) (cy : Nat → ClassId) (h0 : Nat) (sa : Nat → Nat) (G : ab_PG) (xs : Nat × (Nat → Int32)) (f : Nat) : Prop :=
  ∀ (d i pc : Nat) (rows : List ab_Row) (loc st : List ab_V) (M : ab_M) (x : ab_X) (M' : ab_M) (z : ab_Mi), ab_big G xs f d i pc rows loc st M x M' → G.1 i = some z →
    ∀ (p : Program) (e : Env) (R : Room) (s : State) (m : MethodId) (args : Array Value) (below : List Frame) (meth : Method) (c : Code), ab_Cx l p D cy h0 sa xs z.1 z.2.1 z.2.2.1 s m args meth c → meth.sig.returnType = z.2.2.2.1 → c.exceptionTable.toList = tableOf z.2.2.2.2.1 → ab_vl G z.1 z.2.1 pc rows = true →
      d + 10 ≤ R.frames ∧ 64 * d + 200 ≤ R.locals → ∀ (mc ms : Nat), mc ≤ R.cells → ms ≤ R.slots → ∀ (Qc : Array Value → State → Outcome → State → Prop) (XC : String → State → State → Prop) (H : Heap) (locs : List Loc) (cells slots : Nat) (ad : Nat → Nat) (ls : Array Slot), ab_Fr D cy h0 ad sa M s H locs ls z.2.2.1 loc st →
        cells + M'.2.2.2.2.2.1 ≤ mc + M.2.2.2.2.2.1 → slots + M'.2.2.2.2.2.2 ≤ ms + M.2.2.2.2.2.2 →
        (∀ (ad' : Nat → Nat) (H' : Heap) (locs' : List Loc) (v : Option ab_V), x = .inl v → ab_Ext M.2.2.2.2.1 ad ad' → ab_In D cy h0 ad' sa M' s H' locs' → (∀ w, v = some w → ab_ok M' w) → ∀ t : State, t.heap = H' → Qc args s (.returned (v.map (ab_cv ad' sa))) t) →
        (∀ (ad' : Nat → Nat) (H' : Heap) (locs' : List Loc) (k : Nat), x = .inr k → ab_Ext M.2.2.2.2.1 ad ad' → ab_In D cy h0 ad' sa M' s H' locs' → ∀ t : State, s.vm.Alike t.vm → H'.size ≤ t.heap.size → (∀ q : Nat, q < H'.size → t.heap[q]? = H'[q]?) → XC (ab_en k) s t) →
        W p l e R s m args below meth c H locs cells slots (vx_MQ below Qc XC args s mc ms (ab_A h0)) (F0 m pc ls (st.map (ab_cv ad sa)))
theorem ab_Ext.tr {n n2 : Nat} {ad a1 a2 : Nat → Nat} (h : n ≤ n2) (e1 : ab_Ext n ad a1) (e2 : ab_Ext n2 a1 a2) : ab_Ext n ad a2 := fun i hi => (e2 i (Nat.lt_of_lt_of_le hi h)).trans (e1 i hi)
theorem ab_vl_c {y : MethodName} {cc : ByteArray} {pc : Nat} {row : ab_Row} {rest : List ab_Row} (h : ab_vl G y cc pc (row :: rest) = true) : decode cc pc = .ok (row.1, row.2.1) ∧ ab_rj G y pc row rest = true ∧ (ab_th row = false → ab_vl G y cc (pc + row.2.1) rest = true) ∧ (ab_th row = true → ab_dcs cc (pc + row.2.1) rest = true) := by
  unfold ab_vl at h
  obtain ⟨h1, h3⟩ := Bool.and_eq_true_iff.mp h
  obtain ⟨h1, h2⟩ := Bool.and_eq_true_iff.mp h1
  refine ⟨of_decide_eq_true h1, h2, fun e => ?_, fun e => ?_⟩
  · rw [if_neg (by rw [e]; decide)] at h3; exact h3
  · rw [if_pos e] at h3; exact h3
theorem ab_dcs_c {cc : ByteArray} {pc : Nat} {row : ab_Row} {rest : List ab_Row} (h : ab_dcs cc pc (row :: rest) = true) : decode cc pc = .ok (row.1, row.2.1) ∧ ab_dcs cc (pc + row.2.1) rest = true := by
  unfold ab_dcs at h
  obtain ⟨h1, h2⟩ := Bool.and_eq_true_iff.mp h
  exact ⟨of_decide_eq_true h1, h2⟩
theorem ab_th_n {ins : Instr} {len : Nat} {r : List Nat} (h : ∀ E r9, r = 500 :: E :: r9 → False) : ab_th (ins, len, r) = false := by
  unfold ab_th
  split
  · rename_i e
    cases e
    exact (h _ _ rfl).elim
  · rfl
theorem ab_vl_at (hpk : ab_pok G) {i : Nat} {z : ab_Mi} (hz : G.1 i = some z) {pc : Nat} {rows : List ab_Row} (h : G.2 i pc = some rows) : ab_vl G z.1 z.2.1 pc rows = true := (hpk i z hz).2.2.2.2.2 pc rows h
theorem ab_jm_eq {pc t : Nat} {off : Int} (h : ab_jm pc off t = true) : (pc : Int) + off = (t : Int) := of_decide_eq_true h
/-- an empty block at a place is what stands there -/
theorem ab_vl_nil {y : MethodName} {cc : ByteArray} {pc : Nat} : ab_vl G y cc pc [] = true := rfl
theorem ab_ct_of (hst : l.stackTraces = false) (hpk : ab_pok G) {f : Nat} (hB : ab_Bd l D cy h0 sa G xs f) : ab_Ct l D cy h0 sa G xs f := by
  intro d j z av M x M' ad hz hfl hbig mc ms hmc hms
  obtain ⟨⟨m1, m2, m3⟩, m4, m5, m6, m7, m8⟩ := hpk j z hz
  have hQ : ∀ (s : State) (args : Array Value) (ad' : Nat → Nat) (H' : Heap) (locs' : List Loc) (v : Option ab_V), x = .inl v → ab_Ext M.2.2.2.2.1 ad ad' → ab_In D cy h0 ad' sa M' s H' locs' → (∀ w, v = some w → ab_ok M' w) → ∀ t : State, t.heap = H' → ab_Qc D cy h0 sa ad M x M' args s (.returned (v.map (ab_cv ad' sa))) t := by
    intro s args ad' H' locs' v hx he hI hv t ht
    exact ⟨ad', v, hx, he, rfl, by rw [ht]; exact ⟨hI.1, hI.2.1, hI.2.2.2⟩, hv, hI.2.2.1.F ht⟩
  have hX : ∀ (s : State) (ad' : Nat → Nat) (H' : Heap) (locs' : List Loc) (k : Nat), x = .inr k → ab_Ext M.2.2.2.2.1 ad ad' → ab_In D cy h0 ad' sa M' s H' locs' → h0 ≤ s.heap.size → ∀ t : State, s.vm.Alike t.vm → H'.size ≤ t.heap.size → (∀ q : Nat, q < H'.size → t.heap[q]? = H'[q]?) → ab_XC D cy h0 sa ad M x M' (ab_en k) s t := by
    intro s ad' H' locs' k hx he hI hh0 t hA hz1 hk1
    refine ⟨ad', k, hx, rfl, he, ⟨hI.1.kept (fun kk q hq => hk1 q.1 ((hI.1 kk q hq).lt)), hI.2.1, hI.2.2.2⟩, Nat.le_trans hI.2.2.1.1 hz1, fun q g1 g2 => ?_⟩
    rw [hk1 q (Nat.lt_of_lt_of_le g1 hI.2.2.1.1)]
    exact hI.2.2.1.2.1 q g1 g2
  have body : ∀ (p : Program) (e : Env) (s : State) (m : MethodId) (args : Array Value) (below : List Frame) (meth : Method) (c : Code) (s₁ : State), BodyLoose p l z.1 (headSpec (ab_cw z :: ab_G) (ab_rm d mc ms)) z.2.1 z.2.2.1 z.2.2.2.1 e s m args below meth c s₁ → c.maxLocals = z.2.2.1 → c.exceptionTable.toList = tableOf z.2.2.2.2.1 → ab_Pc D cy h0 sa xs ad M av args s →
      W p l e (ab_rm d mc ms) s m args below meth c s.heap [] 0 0 (vx_MQ below (ab_Qc D cy h0 sa ad M x M') (ab_XC D cy h0 sa ad M x M') args s mc ms (ab_A h0)) (entryFrame m args z.2.2.1) := by
    intro p e s m args below meth c s₁ B hml htab hPc
    obtain ⟨rfl, hWd, hK, hh0, hav, hZ⟩ := hPc
    have hts : ∀ w ∈ ab_cw z :: ab_G, w.before (av.map (ab_cv ad sa)).toArray s = true := atoms_spec (ws := ab_cw z :: ab_G) B.pre
    have C : ab_Cx l p D cy h0 sa xs z.1 z.2.1 z.2.2.1 s m (av.map (ab_cv ad sa)).toArray meth c := ⟨B.exec, B.bytes, hml, findClass_of_methodNamed B.named, fun w hw => hts w (List.mem_cons_of_mem _ hw), hK, hh0, (name_of_methodNamed B.named B.method).1, B.notSynchronized, hst, hZ⟩
    rw [lg_entry_eq]
    have F : ab_Fr D cy h0 ad sa M s s.heap [] ((lg_sl (av.map (ab_cv ad sa)) ++ List.replicate (z.2.2.1 - (lg_sl (av.map (ab_cv ad sa))).length) Slot.unset).toArray) z.2.2.1 (ab_ent0 av z.2.2.1) [] := ⟨⟨hWd.1, hWd.2.1, va_S.rf, hWd.2.2⟩, ab_entry hav hfl, ab_ent0_ok hav, fun v hv => by cases hv⟩
    exact hB d j 0 [] (ab_ent0 av z.2.2.1) [] M x M' z hbig hz p e (ab_rm d mc ms) s m _ below meth c C B.returns htab ab_vl_nil ⟨Nat.le_refl _, Nat.le_refl _⟩ mc ms (Nat.le_refl _) (Nat.le_refl _) _ _ s.heap [] 0 0 ad _ F (by omega) (by omega) (hQ s _) (fun ad' H' locs' k a1 a2 a3 => hX s ad' H' locs' k a1 a2 a3 hh0)
  by_cases hh : z.2.2.2.2.1 = []
  · have hcw : ab_cw z = .code z.1 z.2.1 z.2.2.1 z.2.2.2.1 := by unfold ab_cw; rw [if_pos hh]
    refine vx_ofW (cc := z.2.1) (maxL := z.2.2.1) (ret := z.2.2.2.1) m1 (by rw [hcw]) ?_
    intro p e s m args below meth c s₁ B hml hno hPc
    refine body p e s m args below meth c s₁ B hml ?_ hPc
    rw [hh]
    cases hc : c.exceptionTable.toList with
    | nil => rfl
    | cons a b => exact (hno a (by rw [hc]; exact List.mem_cons_self)).elim
  · have hcw : ab_cw z = .codeWith z.1 z.2.1 z.2.2.1 z.2.2.2.1 z.2.2.2.2.1 := by unfold ab_cw; rw [if_neg hh]
    refine vx_ofWH (cc := z.2.1) (maxL := z.2.2.1) (ret := z.2.2.2.1) (hh := z.2.2.2.2.1) m1 (by rw [hcw]) ?_
    intro p e s m args below meth c s₁ B hml hPc
    refine body p e s m args below meth c s₁ B hml ?_ hPc
    exact vx_table (x := z.1) B (by rw [← hcw]; exact atoms_spec (ws := ab_cw z :: ab_G) B.pre _ List.mem_cons_self)
end AB9
