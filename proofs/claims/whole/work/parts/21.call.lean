/-! contracts out of runs, and calls by them -/
abbrev ab_rm (d mc ms : Nat) : Room := { frames := d + 10, cells := mc, slots := ms, locals := 64 * d + 200 }
/-- the world as a method finds it, by the addresses ad -/
def ab_Wd (D : va_G) (cy : Nat → ClassId) (h0 : Nat) (sa : Nat → Nat) (ad : Nat → Nat) (M : ab_M) (H : Heap) : Prop :=
  va_P D ab_cls (ab_pool cy ad sa M) H ∧ va_D (ab_A h0) (ab_pool cy ad sa M) ∧ ab_WF M
def ab_Pc (D : va_G) (cy : Nat → ClassId) (h0 : Nat) (sa : Nat → Nat) (xs : Nat × (Nat → Int32)) (ad : Nat → Nat) (M : ab_M) (av : List ab_V) : Array Value → State → Prop := fun a U =>
  a = (av.map (ab_cv ad sa)).toArray ∧ ab_Wd D cy h0 sa ad M U.heap ∧ va_K D ab_cls (ab_tys cy) U ∧ h0 ≤ U.heap.size ∧ (∀ v ∈ av, ab_ok M v) ∧ ab_Zs (ab_A h0) sa xs U U.heap
def ab_Qc (D : va_G) (cy : Nat → ClassId) (h0 : Nat) (sa : Nat → Nat) (ad : Nat → Nat) (M : ab_M) (x : ab_X) (M' : ab_M) : Array Value → State → Outcome → State → Prop := fun _ st o t =>
  ∃ (ad' : Nat → Nat) (v : Option ab_V), x = .inl v ∧ ab_Ext M.2.2.2.2.1 ad ad' ∧ o = .returned (v.map (ab_cv ad' sa)) ∧ ab_Wd D cy h0 sa ad' M' t.heap ∧ (∀ w, v = some w → ab_ok M' w) ∧ va_F (ab_A h0) st t
def ab_XC (D : va_G) (cy : Nat → ClassId) (h0 : Nat) (sa : Nat → Nat) (ad : Nat → Nat) (M : ab_M) (x : ab_X) (M' : ab_M) : String → State → State → Prop := fun E st t =>
  ∃ (ad' : Nat → Nat) (k : Nat), x = .inr k ∧ E = ab_en k ∧ ab_Ext M.2.2.2.2.1 ad ad' ∧ ab_Wd D cy h0 sa ad' M' t.heap ∧ va_F (ab_A h0) st t
def ab_Ct (l : Launch) (D : va_G) (cy : Nat → ClassId) (h0 : Nat) (sa : Nat → Nat) (G : ab_PG) (xs : Nat × (Nat → Int32)) (f : Nat) : Prop :=
  ∀ (d j : Nat) (z : ab_Mi) (av : List ab_V) (M : ab_M) (x : ab_X) (M' : ab_M) (ad : Nat → Nat), G.1 j = some z → (av.flatMap ab_lay1).length ≤ z.2.2.1 → ab_big G xs f d j 0 [] (ab_ent0 av z.2.2.1) [] M x M' →
    ∀ mc ms, mc + M.2.2.2.2.2.1 = M'.2.2.2.2.2.1 → ms + M.2.2.2.2.2.2 = M'.2.2.2.2.2.2 → vx_Met l z.1 (ab_cw z :: ab_G) (ab_rm d mc ms) (ab_Pc D cy h0 sa xs ad M av) (ab_Qc D cy h0 sa ad M x M') (ab_XC D cy h0 sa ad M x M') mc ms (ab_A h0)
section AB7
variable {p : Program} {l : Launch} {e : Env} {R : Room} {s : State} {m : MethodId} {args : Array Value} {below : List Frame} {meth : Method} {c : Code} {H : Heap} {locs : List Loc} {cells slots : Nat} {Q : State → Prop}
variable {cc : ByteArray} {pc len : Nat} {r : List Nat} {ls : Array Slot} {D : va_G} {cy : Nat → ClassId} {h0 nL : Nat} {ad sa : Nat → Nat} {xs : Nat × (Nat → Int32)} {loc loc' st st' : List ab_V} {M M' : ab_M} {vc : Prop} {y : MethodName}
theorem ab_blind {av : List ab_V} : FrameBlind (ab_Pc D cy h0 sa xs ad M av) := fun a U g mk h => by
  obtain ⟨h1, h2, h3, h4, h5, h6⟩ := h
  have hW : U.WarmedH (U.calling g mk a).vm := State.WarmedH.refl U
  exact ⟨h1, h2, va_K.moved (u := U) (U := U.calling g mk a) (Vm.Alike.refl U.vm) h3, h4, h5, ab_Zs.warm (s := U) (U := U.calling g mk a) hW h6⟩
theorem ab_pre (C : ab_Cx l p D cy h0 sa xs y cc nL s m args meth c) {av : List ab_V} (hI : ab_In D cy h0 ad sa M s H locs) (hv : ∀ v ∈ av, ab_ok M v) : ∀ U : State, U.heap = H → s.WarmedH U.vm → ab_Pc D cy h0 sa xs ad M av (av.map (ab_cv ad sa)).toArray U := by
  intro U hU hW
  obtain ⟨hx, hb, hml, hown, hG, hK, hh0, hnm, hlk, hst, hZ⟩ := id C
  refine ⟨rfl, ⟨by rw [hU]; exact hI.1, hI.2.1, hI.2.2.2⟩, va_K.moved hW.alike hK, ?_, hv, ?_⟩
  · rw [hU]
    exact Nat.le_trans hh0 hI.2.2.1.1
  · rw [hU]
    exact ab_Zs.warm hW (ab_Zs.kept hI.2.2.1.1 hI.2.2.1.2.1 hZ)
theorem ab_goodIn {z : ab_Mi} (h : ab_cw z ∈ ab_G) : ∀ w ∈ ab_cw z :: ab_G, w ∈ ab_G ∧ ((w.onTables && w.keeps) = true ∨ ∃ ty, w = .arrayClass ty) := fun w hw => by
  rcases List.mem_cons.mp hw with rfl | hw
  · exact ⟨h, ab_G_good h⟩
  · exact ⟨hw, ab_G_good hw⟩
/-- what each call needs of the callee -/
theorem ab_cb (C : ab_Cx l p D cy h0 sa xs y cc nL s m args meth c) {G : ab_PG} {j : Nat} {z : ab_Mi} (hj0 : j ≠ 0) (hm : ab_mok G j z) {d mc ms n i : Nat} (h1 : z.2.2.2.2.1 = []) (hR : d + 1 + 10 ≤ R.frames ∧ 64 * (d + 1) + 200 ≤ R.locals) (hn : ab_np z.1 n = true) (hl : (Cond.methodLink y.cls i z.1).before args s = true) :
    CallB R s args y.cls i z.1 z.2.1 z.2.2.1 z.2.2.2.1 (ab_cw z :: ab_G) (ab_rm d mc ms) mc ms n := by
  obtain ⟨hx, hb, hml, hown, hG, hK, hh0, hnm, hlk, hst, hZ⟩ := id C
  obtain ⟨⟨m1, m2, m3⟩, m4, m5, m6, m7, m8⟩ := hm
  have hcw : ab_cw z = .code z.1 z.2.1 z.2.2.1 z.2.2.2.1 := by unfold ab_cw; rw [if_pos h1]
  refine ⟨rfl, rfl, by show d + 10 + 1 ≤ _; omega, by show 8 + (_ + 11) + (64 * d + 200) ≤ _; omega, pay_in hG (ab_goodIn (m5 hj0)), by rw [hcw]; exact List.mem_cons_self, by rw [← hcw]; exact hG _ (m5 hj0), hG _ (m6 hj0), ⟨m2, m3⟩, fun sig hsig => ?_, hl⟩
  have h2 := of_decide_eq_true hn
  rw [hsig] at h2
  exact (Option.some.inj h2).symm
theorem ab_cn (C : ab_Cx l p D cy h0 sa xs y cc nL s m args meth c) {G : ab_PG} {j : Nat} {z : ab_Mi} (hj0 : j ≠ 0) (hm : ab_mok G j z) {d mc ms n i : Nat} (h1 : z.2.2.2.2.1 = []) (hR : d + 1 + 10 ≤ R.frames ∧ 64 * (d + 1) + 200 ≤ R.locals) (hn : ab_np z.1 n = true) (hl : (Cond.methodLinkNest y.cls i z.1 RX11).before args s = true) :
    va_CN R s args y.cls i z.1 RX11 z.2.1 z.2.2.1 z.2.2.2.1 (ab_cw z :: ab_G) (ab_rm d mc ms) mc ms n := by
  obtain ⟨hx, hb, hml, hown, hG, hK, hh0, hnm, hlk, hst, hZ⟩ := id C
  obtain ⟨⟨m1, m2, m3⟩, m4, m5, m6, m7, m8⟩ := hm
  have hcw : ab_cw z = .code z.1 z.2.1 z.2.2.1 z.2.2.2.1 := by unfold ab_cw; rw [if_pos h1]
  refine ⟨⟨rfl, rfl, by show d + 10 + 1 ≤ _; omega, by show 8 + (_ + 11) + (64 * d + 200) ≤ _; omega, pay_in hG (ab_goodIn (m5 hj0)), by rw [hcw]; exact List.mem_cons_self⟩, by rw [← hcw]; exact hG _ (m5 hj0), hG _ (m6 hj0), ⟨m2, m3⟩, fun sig hsig => ?_, hl⟩
  have h2 := of_decide_eq_true hn
  rw [hsig] at h2
  exact (Option.some.inj h2).symm
theorem ab_cx (C : ab_Cx l p D cy h0 sa xs y cc nL s m args meth c) {G : ab_PG} {j : Nat} {z : ab_Mi} (hj0 : j ≠ 0) (hm : ab_mok G j z) {d mc ms n i : Nat} (h1 : z.2.2.2.2.1 ≠ []) (hR : d + 1 + 10 ≤ R.frames ∧ 64 * (d + 1) + 200 ≤ R.locals) (hn : ab_np z.1 n = true) (hl : (Cond.methodLink y.cls i z.1).before args s = true) (hs : (Cond.static z.1).before args s = true) :
    vx_CSW R s args y.cls i z.1 z.2.1 z.2.2.1 z.2.2.2.1 z.2.2.2.2.1 (ab_cw z :: ab_G) (ab_rm d mc ms) mc ms n := by
  obtain ⟨hx, hb, hml, hown, hG, hK, hh0, hnm, hlk, hst, hZ⟩ := id C
  obtain ⟨⟨m1, m2, m3⟩, m4, m5, m6, m7, m8⟩ := hm
  have hcw : ab_cw z = .codeWith z.1 z.2.1 z.2.2.1 z.2.2.2.1 z.2.2.2.2.1 := by unfold ab_cw; rw [if_neg h1]
  refine ⟨⟨rfl, rfl, by show d + 10 + 1 ≤ _; omega, by show 8 + (_ + 11) + (64 * d + 200) ≤ _; omega, pay_in hG (ab_goodIn (m5 hj0)), by rw [hcw]; exact List.mem_cons_self⟩, by rw [← hcw]; exact hG _ (m5 hj0), hG _ (m6 hj0), ⟨m2, m3⟩, fun sig hsig => ?_, hl, hs⟩
  have h2 := of_decide_eq_true hn
  rw [hsig] at h2
  exact (Option.some.inj h2).symm
/-- what jumps or ends -/
def ab_ctl (ins : Instr) : Bool := match ins with
  | .goto _ => true
  | .ifCond _ _ => true
  | .if_icmp _ _ => true
  | .ifnull _ => true
  | .ifnonnull _ => true
  | .tableswitch _ _ _ _ => true
  | .ireturn => true
  | .lreturn => true
  | .return_ => true
  | _ => false
theorem ab_rj_2 {ins : Instr} {rest9 : List ab_Row} {G : ab_PG} (hc : ab_ctl ins = false) (hj : ab_rj G y pc (ins, len, r) rest9 = true) : ab_rj2 G y ins len r rest9 = true := by
  cases ins <;> first | (cases hc; done) | exact hj
theorem ab_rj_thr {ins : Instr} {rest9 : List ab_Row} {G : ab_PG} {E q : Nat} {tl : List Nat} (hj : ab_rj2 G y ins len (500 :: E :: q :: tl) rest9 = true) : ∃ z9, ins = .new z9.1 ∧ ab_sit[q]? = some z9 ∧ y.cls = RX11 ∧ len = 3 ∧ E = z9.2.2.2 ∧ rest9.map (fun w => (w.1, w.2.1)) = [(.dup, 1), (.ldc_w z9.2.1, 3), (.invokespecial z9.2.2.1, 3), (.athrow, 1)] := by
  unfold ab_rj2 at hj
  split at hj
  · rename_i h9
    cases h9
    split at hj
    · rename_i i z9 hs
      simp only [Bool.and_eq_true, decide_eq_true_eq] at hj
      exact ⟨z9, by rw [hj.1.1.2], hs, hj.1.1.1.1, hj.1.1.1.2, hj.1.2, hj.2⟩
    · cases hj
  · rename_i h9
    cases h9
  · cases hj
  · rename_i h9 _ _
    exact (h9 _ _ _ rfl).elim
theorem ab_rj_rk {ins : Instr} {rest9 : List ab_Row} {G : ab_PG} (hc : ab_ctl ins = false) (hj : ab_rj G y pc (ins, len, r) rest9 = true) (n5 : ∀ E tl, r = 500 :: E :: tl → False) (n6 : ∀ j n tl, r = 600 :: j :: n :: tl → False) : ab_rk y ins len r = true := by
  have hj := ab_rj_2 hc hj
  unfold ab_rj2 at hj
  split at hj
  · exact (n5 _ _ rfl).elim
  · unfold ab_rcl at hj
    split at hj
    · rename_i h9
      cases h9
      exact (n6 _ _ _ rfl).elim
    · cases hj
  · cases hj
  · exact hj
theorem ab_rj_call {ins : Instr} {rest9 : List ab_Row} {G : ab_PG} {j n : Nat} {r9 : List Nat} {z : ab_Mi} (hc : ab_ctl ins = false) (hz : G.1 j = some z) (hj : ab_rj G y pc (ins, len, 600 :: j :: n :: r9) rest9 = true) : len = 3 ∧ j ≠ 0 ∧ ∃ kd q q1 q2 rk tl, r9 = kd :: q :: q1 :: q2 :: rk :: tl ∧
    ((∃ i, ins = .invokevirtual i ∧ kd = 0 ∧ ab_w q (.methodLink y.cls i z.1) = true ∧ ab_w q1 (.instanceMethod z.1) = true ∧ ab_w q2 (.selects z.1.cls z.1 z.1) = true ∧ z.2.2.2.2.1 = [] ∧ 1 ≤ n ∧ ab_np z.1 (n - 1) = true ∧ ab_kc rk = z.1.cls) ∨
     (∃ i, ins = .invokestatic i ∧ kd = 1 ∧ ab_w q (.methodLink y.cls i z.1) = true ∧ ab_w q1 (.static z.1) = true ∧ z.2.2.2.2.1 = [] ∧ ab_np z.1 n = true) ∨
     (∃ i, ins = .invokespecial i ∧ kd = 2 ∧ ab_w q (.methodLink y.cls i z.1) = true ∧ ab_w q1 (.instanceMethod z.1) = true ∧ z.1.name = "<init>" ∧ z.2.2.2.1 = none ∧ z.2.2.2.2.1 = [] ∧ 1 ≤ n ∧ ab_np z.1 (n - 1) = true) ∨
     (∃ i, ins = .invokestatic i ∧ kd = 3 ∧ ab_w q (.methodLinkNest y.cls i z.1 RX11) = true ∧ ab_w q1 (.static z.1) = true ∧ z.2.2.2.2.1 = [] ∧ ab_np z.1 n = true) ∨
     (∃ i, ins = .invokespecial i ∧ kd = 4 ∧ ab_w q (.methodLinkNest y.cls i z.1 RX11) = true ∧ ab_w q1 (.instanceMethod z.1) = true ∧ z.1.name = "<init>" ∧ z.2.2.2.1 = none ∧ z.2.2.2.2.1 = [] ∧ 1 ≤ n ∧ ab_np z.1 (n - 1) = true) ∨
     (∃ i, ins = .invokestatic i ∧ kd = 5 ∧ ab_w q (.methodLink y.cls i z.1) = true ∧ ab_w q1 (.static z.1) = true ∧ z.2.2.2.2.1 ≠ [] ∧ ab_np z.1 n = true)) := by
  have key : ab_rcl G y ins len (600 :: j :: n :: r9) = true := ab_rj_2 hc hj
  unfold ab_rcl at key
  rcases r9 with _ | ⟨kd, _ | ⟨q, _ | ⟨q1, _ | ⟨q2, _ | ⟨rk, tl⟩⟩⟩⟩⟩ <;> first | (cases key; done) | skip
  simp only [hz] at key
  obtain ⟨h1, h2⟩ := Bool.and_eq_true_iff.mp key
  obtain ⟨h1, h0⟩ := Bool.and_eq_true_iff.mp h1
  refine ⟨of_decide_eq_true h1, of_decide_eq_true h0, kd, q, q1, q2, rk, tl, rfl, ?_⟩
  unfold ab_rck at h2
  split at h2
  · rename_i i
    simp only [Bool.and_eq_true, decide_eq_true_eq] at h2
    exact Or.inl ⟨i, rfl, rfl, h2.1.1.1.1.1.1, h2.1.1.1.1.1.2, h2.1.1.1.1.2, h2.1.1.1.2, h2.1.1.2, h2.1.2, h2.2⟩
  · rename_i i
    simp only [Bool.and_eq_true, decide_eq_true_eq] at h2
    exact Or.inr (Or.inl ⟨i, rfl, rfl, h2.1.1.1, h2.1.1.2, h2.1.2, h2.2⟩)
  · rename_i i
    simp only [Bool.and_eq_true, decide_eq_true_eq] at h2
    exact Or.inr (Or.inr (Or.inl ⟨i, rfl, rfl, h2.1.1.1.1.1.1, h2.1.1.1.1.1.2, h2.1.1.1.1.2, h2.1.1.1.2, h2.1.1.2, h2.1.2, h2.2⟩))
  · rename_i i
    simp only [Bool.and_eq_true, decide_eq_true_eq] at h2
    exact Or.inr (Or.inr (Or.inr (Or.inl ⟨i, rfl, rfl, h2.1.1.1, h2.1.1.2, h2.1.2, h2.2⟩)))
  · rename_i i
    simp only [Bool.and_eq_true, decide_eq_true_eq] at h2
    exact Or.inr (Or.inr (Or.inr (Or.inr (Or.inl ⟨i, rfl, rfl, h2.1.1.1.1.1.1, h2.1.1.1.1.1.2, h2.1.1.1.1.2, h2.1.1.1.2, h2.1.1.2, h2.1.2, h2.2⟩))))
  · rename_i i
    simp only [Bool.and_eq_true, decide_eq_true_eq] at h2
    exact Or.inr (Or.inr (Or.inr (Or.inr (Or.inr ⟨i, rfl, rfl, h2.1.1.1, h2.1.1.2, h2.1.2, h2.2⟩))))
  · cases h2
theorem ab_rv0 {a j n q q1 q2 rk : Nat} {tl : List Nat} {av : List ab_V} (h : ab_rv (a :: j :: n :: 0 :: q :: q1 :: q2 :: rk :: tl) av) : ∃ k nn mm id t2, av = .inr (k, nn, mm, id) :: t2 ∧ k = rk ∧ (k < 13 ∨ (k = 30 ∧ id = 2 + 2 * nn ∧ nn < 3)) := by
  cases av with
  | nil => exact h.elim
  | cons w t =>
    cases w with
    | inl x => exact h.elim
    | inr q =>
      obtain ⟨k, nn, mm, id⟩ := q
      exact ⟨k, nn, mm, id, t, rfl, h⟩
theorem ab_rv2 {a j n q q1 q2 rk : Nat} {tl : List Nat} {av : List ab_V} (h : ab_rv (a :: j :: n :: 2 :: q :: q1 :: q2 :: rk :: tl) av) : ∃ k nn mm id t2, av = .inr (k, nn, mm, id) :: t2 ∧ k < 13 := by
  cases av with
  | nil => exact h.elim
  | cons w t =>
    cases w with
    | inl x => exact h.elim
    | inr q =>
      obtain ⟨k, nn, mm, id⟩ := q
      exact ⟨k, nn, mm, id, t, rfl, h⟩
theorem ab_rv4 {a j n q q1 q2 rk : Nat} {tl : List Nat} {av : List ab_V} (h : ab_rv (a :: j :: n :: 4 :: q :: q1 :: q2 :: rk :: tl) av) : ∃ k nn mm id t2, av = .inr (k, nn, mm, id) :: t2 ∧ k < 13 := by
  cases av with
  | nil => exact h.elim
  | cons w t =>
    cases w with
    | inl x => exact h.elim
    | inr q =>
      obtain ⟨k, nn, mm, id⟩ := q
      exact ⟨k, nn, mm, id, t, rfl, h⟩
/-- a call runs by its callee's contract -/
theorem ab_run {ins : Instr} {rest9 : List ab_Row} {G : ab_PG} {f d j n : Nat} {r9 : List Nat} {z : ab_Mi} {x1 : ab_X} {M1 : ab_M} {mc ms : Nat} (C : ab_Cx l p D cy h0 sa xs y cc nL s m args meth c) (hpk : ab_pok G) (hct : ab_Ct l D cy h0 sa G xs f) (hd : decode cc pc = .ok (ins, len)) (hj : ab_rj G y pc (ins, len, 600 :: j :: n :: r9) rest9 = true) (hz : G.1 j = some z)
    (hnj : ab_ctl ins = false) (hlen : n ≤ st.length) (hsz : ab_szs (st.drop n) ≤ 8) (hrv : ab_rv (600 :: j :: n :: r9) (st.take n).reverse) (hfl : (((st.take n).reverse).flatMap ab_lay1).length ≤ z.2.2.1) (hbig : ab_big G xs f d j 0 [] (ab_ent0 (st.take n).reverse z.2.2.1) [] M x1 M1)
    (hmc : mc + M.2.2.2.2.2.1 = M1.2.2.2.2.2.1) (hms : ms + M.2.2.2.2.2.2 = M1.2.2.2.2.2.2) (hcr : cells + mc ≤ R.cells) (hsr : slots + ms ≤ R.slots) (hR : d + 1 + 10 ≤ R.frames ∧ 64 * (d + 1) + 200 ≤ R.locals) (F : ab_Fr D cy h0 ad sa M s H locs ls nL loc st) :
    len = 3 ∧ vx_Run p l e R s m args below meth c H locs cells slots mc ms (F0 m pc ls (st.map (ab_cv ad sa))) ((st.drop n).map (ab_cv ad sa)) (ab_Qc D cy h0 sa ad M x1 M1 ((st.take n).reverse.map (ab_cv ad sa)).toArray) (ab_XC D cy h0 sa ad M x1 M1) (ab_A h0) := by
  have hmk := hpk j z hz
  have hM := hct d j z _ M x1 M1 ad hz hfl hbig mc ms hmc hms
  have hav : ∀ v ∈ (st.take n).reverse, ab_ok M v := fun v hv => F.2.2.2 v (List.mem_of_mem_take (List.mem_reverse.mp hv))
  have hpre := ab_pre C F.1 hav
  have hcf : CallFix p m c cc nL s args ab_G y.cls := ⟨C.1, C.2.1, C.2.2.1, C.2.2.2.1, C.2.2.2.2.1⟩
  have hG := C.2.2.2.2.1
  have hN := C.2.2.2.2.2.2.2.2.2.2.1
  have hstk : st.map (ab_cv ad sa) = ((st.take n).reverse.map (ab_cv ad sa)).reverse ++ (st.drop n).map (ab_cv ad sa) := by
    rw [List.map_reverse, List.reverse_reverse, ← List.map_append, List.take_append_drop]
  have hcat : 2 * (F0 m pc ls (st.map (ab_cv ad sa))).monitorRoom + (((st.drop n).map (ab_cv ad sa)).map fun v => v.category).sum ≤ 8 := by
    have := ab_szsum (ad := ad) (sa := sa) (N := M) (st.drop n) (fun v hv => F.2.2.2 v (List.mem_of_mem_drop hv))
    show 2 * 0 + _ ≤ 8
    omega
  have htl : (st.take n).reverse.length = n := by simp; omega
  have hlsz : ls.size = nL := F.2.1.1
  have hrest : ∀ a tl, (st.take n).reverse = a :: tl → tl.length = n - 1 := fun a tl e => by
    rw [e] at htl
    have : tl.length + 1 = n := htl
    omega
  obtain ⟨hl3, hj0, kd, q, q1, q2, rk, tl, rfl, hcase⟩ := ab_rj_call hnj hz hj
  refine ⟨hl3, ?_⟩
  subst hl3
  generalize hav9 : (st.take n).reverse = av at *
  rcases hcase with ⟨i, rfl, rfl, w1, w2, w3, w4, w5, w6, w7⟩ | ⟨i, rfl, rfl, w1, w2, w3, w4⟩ | ⟨i, rfl, rfl, w1, w2, w3, w4, w5, w6, w7⟩ | ⟨i, rfl, rfl, w1, w2, w3, w4⟩ | ⟨i, rfl, rfl, w1, w2, w3, w4, w5, w6, w7⟩ | ⟨i, rfl, rfl, w1, w2, w3, w4⟩
  · obtain ⟨k, nn, mm, id, tl2, rfl, hk1, hk2⟩ := ab_rv0 hrv
    have hrcv : ∃ (b : Nat) (cellB : Cell), ab_cv ad sa (.inr (k, nn, mm, id)) = .ref b ∧ H[b]? = some cellB ∧ cellB.vm.isStatics = false ∧ s.vm.findClass z.1.cls = some cellB.cls := by
      rcases hk2 with hk2 | ⟨hk2, hk3, hk4⟩
      · have ho := hav _ List.mem_cons_self (show k < 30 by omega)
        obtain ⟨zc, hzc⟩ := ab_cls_at hk2
        obtain ⟨cell, c1, c2, c3⟩ := va_recv C.2.2.2.2.2.1 F.1.1 hzc (a := ad id) (q0 := id) (by rw [ab_pool_at ho.1, ab_ent_o ho.2 hk2])
        refine ⟨ad id, cell, ab_cv_p (by omega), c1, c2, ?_⟩
        rw [← w7, ← hk1]
        unfold ab_kc
        rw [if_neg (by omega), hzc]
        exact c3
      · subst hk2
        subst hk3
        obtain ⟨cell, c1, c2, c3⟩ := vk_recv (ab_str C) hk4 F.1.2.2.1
        refine ⟨_, cell, rfl, c1, c2, ?_⟩
        rw [← w7, ← hk1]
        exact c3
    obtain ⟨b, cellB, b1, b2, b3, b4⟩ := hrcv
    rw [List.map_cons, b1] at hpre hstk ⊢
    exact vx_runV (As := tl2.map (ab_cv ad sa)) hcf hM ⟨ab_cb C hj0 hmk w4 hR w6 (hG _ (ab_w_G w1 rfl)), hG _ (ab_w_G w2 rfl), hG _ (ab_w_G w3 rfl)⟩ ⟨ab_blind, ⟨cellB, b2, b3, b4⟩, hpre⟩ rfl (by rw [List.length_map]; exact hrest _ _ rfl) hlsz (by
      show st.map (ab_cv ad sa) = _
      rw [hstk]; simp) hcat hd ⟨hcr, hsr⟩
  · exact vx_runS hcf hM ⟨ab_cb C hj0 hmk w3 hR w4 (hG _ (ab_w_G w1 rfl)), hG _ (ab_w_G w2 rfl)⟩ ⟨ab_blind, hpre⟩ rfl (by rw [List.length_map]; exact htl) hlsz hstk hcat hd ⟨hcr, hsr⟩
  · obtain ⟨k, nn, mm, id, tl2, rfl, hk1⟩ := ab_rv2 hrv
    rw [List.map_cons, ab_cv_p (by omega)] at hpre hstk ⊢
    have hcb := ab_cb C hj0 hmk (d := d) (mc := mc) (ms := ms) w5 hR w7 (hG _ (ab_w_G w1 rfl))
    rw [w4] at hcb
    exact vx_runI (As := tl2.map (ab_cv ad sa)) hcf hM ⟨hcb, w3, hG _ (ab_w_G w2 rfl)⟩ ⟨ab_blind, hpre⟩ rfl (by rw [List.length_map]; exact hrest _ _ rfl) hlsz (by
      show st.map (ab_cv ad sa) = _
      rw [hstk]; simp) hcat hd ⟨hcr, hsr⟩
  · exact vx_runSN hcf hM ⟨ab_cn C hj0 hmk w3 hR w4 (va_Nw.use rfl (hN _ (ab_w_N w1 rfl))), hG _ (ab_w_G w2 rfl), trivial⟩ ⟨ab_blind, hpre⟩ rfl (by rw [List.length_map]; exact htl) hlsz hstk hcat hd ⟨hcr, hsr⟩
  · obtain ⟨k, nn, mm, id, tl2, rfl, hk1⟩ := ab_rv4 hrv
    rw [List.map_cons, ab_cv_p (by omega)] at hpre hstk ⊢
    have hcb := ab_cn C hj0 hmk (d := d) (mc := mc) (ms := ms) w5 hR w7 (va_Nw.use rfl (hN _ (ab_w_N w1 rfl)))
    rw [w4] at hcb
    exact vx_runIN (As := tl2.map (ab_cv ad sa)) hcf hM ⟨hcb, w3, hG _ (ab_w_G w2 rfl)⟩ ⟨ab_blind, hpre⟩ rfl (by rw [List.length_map]; exact hrest _ _ rfl) hlsz (by
      show st.map (ab_cv ad sa) = _
      rw [hstk]; simp) hcat hd ⟨hcr, hsr⟩
  · exact vx_runSX hcf hM (ab_cx C hj0 hmk w3 hR w4 (hG _ (ab_w_G w1 rfl)) (hG _ (ab_w_G w2 rfl))) ⟨ab_blind, hpre⟩ rfl (by rw [List.length_map]; exact htl) hlsz hstk hcat hd ⟨hcr, hsr⟩
end AB7
