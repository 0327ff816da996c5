/-! NoSuchElementException's own constructor calls the one above it by place 13 of its pool: the library's law of a new exception wants place 7 all along; here the first link stands apart -/
abbrev nxN : String := "java/util/NoSuchElementException"
abbrev nxR : String := "java/lang/RuntimeException"
abbrev nxB : ByteArray := prog_37_method_4_code
theorem nxB_0 : decode nxB 0 = .ok (.aload_n 0, 1) := by decide +kernel
theorem nxB_1 : decode nxB 1 = .ok (.aload_n 1, 1) := by decide +kernel
theorem nxB_2 : decode nxB 2 = .ok (.invokespecial 13, 3) := by decide +kernel
theorem nxB_5 : decode nxB 5 = .ok (.return_, 1) := by decide +kernel
/-- what is asked of the tables: the words of a throw of a class straight below Throwable, and those of the three links -/
abbrev nx_w (own : String) (ic : Nat) : List Cond := Bundle.ownAtoms own ic nxN [] ++ (Bundle.passSAtoms nxN nxR 13 nxB ++ Bundle.chainSAtoms nxR ["java/lang/Exception"])
def nx_out (w : Cond) : Bool := decide (w ∈ [Cond.code (Bundle.initS nxN) Bundle.six 2 none, Cond.methodLink nxN 7 (Bundle.initS Bundle.tN)])
def nx_atoms (own : String) (ic : Nat) : List Cond := (nx_w own ic).filter (fun w => !nx_out w)
section NX
variable {p : Program} {l : Launch} {e : Env} {R : Room} {s : State} {m : MethodId} {args : Array Value} {below : List Frame} {meth : Method} {c : Code} {T W9 : State} {locs : List Loc} {cells slots : Nat}
theorem nx_chain {pl : Platform} (hpl : pl.magicAccessors = ({} : Platform).magicAccessors) {top : MethodId} (htop : s.methodNamed? (Bundle.initS Bundle.tN) = some top) (h : ∀ w ∈ Bundle.passSAtoms nxN nxR 13 nxB ++ Bundle.chainSAtoms nxR ["java/lang/Exception"], w.before args s = true) :
    ∃ (P1 : PassC) (Ps : List PassC), Ps.length = 2 ∧ (∀ P, P ∈ P1 :: Ps → P.LinksS pl s) ∧ s.methodNamed? (Bundle.initS nxN) = some P1.m ∧ PassesOn top ((P1 :: Ps).map (·.toPassT)) := by
  obtain ⟨P, L, hm, hs⟩ := PassC.ofS_atoms (args := args) (s := s) hpl (X := nxN) (Y := nxR) (by decide +kernel) (by decide) nxB_0 nxB_1 nxB_2 nxB_5 (fun w hw => h w (List.mem_append_left _ hw))
  obtain ⟨Q, Qs, hlen, L', hL, hm', hsup, hpass⟩ := Bundle.chainS (args := args) hpl htop ["java/lang/Exception"] nxR (by decide +kernel) (by decide +kernel) (fun w hw => h w (List.mem_append_right _ hw))
  refine ⟨P, Q :: Qs, by simp [hlen], fun z hz => ?_, hm, Option.some.inj (hs.symm.trans hm'), hsup, hpass⟩
  rcases List.mem_cons.mp hz with rfl | hz
  · exact L
  · rcases List.mem_cons.mp hz with rfl | hz
    · exact L'
    · exact hL z hz
set_option maxHeartbeats 1000000 in
/-- the constructors run, the new thing leaves: what a throw must show, no more -/
theorem nx_ctor (X : Stand p l e R s m args below meth c W9 [] cells slots) (hexec : p.tables.exec = Jvm.exec) (htr : e.platform.stackTraces = false) {own : String} {ic : Nat} (hown : s.vm.findClass own = some m.cls)
    (h : ∀ w ∈ nx_atoms own ic, w.before args s = true) (hin : ∀ w, w ∈ nx_w own ic → nx_out w = false → w ∈ nx_atoms own ic)
    {a : Addr} {cX : ClassId} {kX : Class} (hfoundX : s.vm.findClass nxN = some cX) (hkX : s.vm.classes[cX]? = some kX) (hcell : W9.heap[a]? = some (freshCell cX kX)) (hnew : s.heap.size ≤ a)
    {msg : Value} (hmsg : msg.isRef = true) {g : JFrame} (hg : g.method = m) (hsize : g.locals.size = c.maxLocals) (hlocked : g.locked = none) (hentered : g.entered = []) {rest : List Value} (hstack : g.stack = msg :: .ref a :: .ref a :: rest)
    (hd7 : decode c.code g.pc = .ok (.invokespecial ic, 3)) (hd10 : decode c.code (g.pc + 3) = .ok (.athrow, 1)) (hout : ∀ x ∈ c.exceptionTable.toList, covers x (g.pc + 3) = false)
    (hRf : 5 < R.frames) (hRl : 2 * g.monitorRoom + ((Value.ref a :: rest).map fun v => v.category).sum + 81 ≤ R.locals) (hlocks : meth.locks = false) :
    ∃ U : State, Steps p.tables e below (W9.setTop g) U ∧ U.status = .running ∧ Ended U below (.threw a) ∧ s.WarmedH U.vm ∧ s.sameButNew ({ U with vm := s.vm } : State) [] cells slots ∧ ∃ ce, U.heap[a]? = some ce ∧ s.vm.findClass nxN = some ce.cls ∧ ce.vm = .none := by
  have hpl : e.platform.magicAccessors = ({} : Platform).magicAccessors := by rw [X.admits.platform]
  have hw : ∀ w, w ∈ Bundle.ownAtoms own ic nxN [] → nx_out w = false → w.holds args s none s [] = true := fun w h1 h2 => h w (hin w (List.mem_append_left _ h1) h2)
  obtain ⟨T, Z0, L, -, Y⟩ := ThrowableC.of_atoms (args := args) (s := s) (pl := e.platform) (by rw [X.admits.platform]) (by rw [X.admits.platform]) hpl (fun w hx => h w (hin w (List.mem_append_left _ (by simp [Bundle.ownAtoms, hx])) ((by decide +kernel : ∀ w ∈ Bundle.throwableAtoms, nx_out w = false) w hx)))
  obtain ⟨Z, M, LZ, LM, hnZ⟩ := Init0T.ofS_atoms (args := args) hpl L Y (fun w hx => h w (hin w (List.mem_append_left _ (by simp [Bundle.ownAtoms, hx])) ((by decide +kernel : ∀ w ∈ Bundle.throwableSAtoms, nx_out w = false) w hx)))
  obtain ⟨P1, Ps, hlen, hL, hm1, hpass⟩ := nx_chain (args := args) hpl hnZ (fun w hx => h w (hin w (List.mem_append_right _ hx) ((by decide +kernel : ∀ w ∈ Bundle.passSAtoms nxN nxR 13 nxB ++ Bundle.chainSAtoms nxR ["java/lang/Exception"], nx_out w = false) w hx)))
  have hf1 : s.vm.findClass nxN = some P1.m.cls := findClass_of_methodNamed hm1
  obtain rfl : cX = P1.m.cls := Option.some.inj (hfoundX.symm.trans hf1)
  have mem : ∀ w : Cond, w ∈ Bundle.ownAtoms own ic nxN [] → nx_out w = false → w.holds args s none s [] = true := hw
  obtain ⟨c1, k1, i1, hk, hord, -, -, -⟩ := Cond.instantiable_spec (mem (.instantiable nxN 6) (by simp [Bundle.ownAtoms]) (by decide +kernel))
  obtain rfl : c1 = P1.m.cls := Option.some.inj (i1.symm.trans hf1)
  obtain rfl : kX = k1 := Option.some.inj (hkX.symm.trans hk)
  have sel : ∀ (y : MethodName) (mk : MethodId), (Cond.selects nxN y y).holds args s none s [] = true → s.methodNamed? y = some mk → (y.cls ≠ "java/lang/invoke/MethodHandle" ∧ y.cls ≠ "java/lang/invoke/VarHandle") → selectMethod e.platform s.vm P1.m.cls mk = .method mk := fun y mk h1 h2 h3 => by
    obtain ⟨c2, r2, m2, q1, q2, q3, q4, -⟩ := Cond.selects_spec h1
    obtain rfl : c2 = P1.m.cls := Option.some.inj (q1.symm.trans hf1)
    obtain rfl : r2 = mk := Option.some.inj (q2.symm.trans (State.methodFound?_of_named h2 h3))
    obtain rfl : m2 = r2 := Option.some.inj (q3.symm.trans h2)
    rw [Launch.admits_selectMethod X.admits]
    exact q4
  have s0 := sel Bundle.tFill0 T.fill0 (mem _ (by simp [Bundle.ownAtoms]) (by decide +kernel)) Y.fill0 (by decide)
  have sF := sel Bundle.tFill T.fill (mem _ (by simp [Bundle.ownAtoms]) (by decide +kernel)) Y.fill (by decide)
  obtain ⟨cs0, hcs0, his⟩ := Y.statics
  obtain ⟨u0, hu0⟩ := Cond.staticRefV Y.unassigned L.unassignedStatic L.statics hcs0 his (mem (.isRef (.static Bundle.tN "UNASSIGNED_STACK" Bundle.steD)) (by simp [Bundle.ownAtoms]) (by decide +kernel))
  obtain ⟨sn, hsn⟩ := Cond.staticRefV Y.sentinel L.sentinelStatic L.statics hcs0 his (mem (.isRef (.static Bundle.tN "SUPPRESSED_SENTINEL" Bundle.listD)) (by simp [Bundle.ownAtoms]) (by decide +kernel))
  obtain ⟨cB, iB, fB, b1, b2, b3, b4, -, nB, tB, ffB⟩ := Cond.ownField (t := .object "java/lang/Object") Y.found L.cls (by decide +kernel) (mem (.fieldLink Bundle.tN 198 Bundle.tN "backtrace" "Ljava/lang/Object;") (by simp [Bundle.ownAtoms]) (by decide +kernel)) (mem (.lays Bundle.tN Bundle.tN "backtrace" "Ljava/lang/Object;") (by simp [Bundle.ownAtoms]) (by decide +kernel)) e.platform hpl
  obtain ⟨cs1, hcs1, heq, -, hkeep⟩ := X.same.2.2.2.2.2 T.aS cs0 hcs0
  have hcs1 : W9.heap[T.aS]? = some cs1 := hcs1
  have hkn : cs1.vm ≠ .unknown := fun hu => by
    rw [heq] at hu
    rw [show cs0.vm = .unknown from hu] at his
    cases his
  have hne : T.aS ≠ a := Nat.ne_of_lt (Nat.lt_of_lt_of_le (Array.getElem?_eq_some_iff.mp hcs0).1 hnew)
  obtain ⟨iM, ffM⟩ := Y.msg
  obtain ⟨yC, dC, eC, nC⟩ := Cond.laysAt hf1 hk Y.cause (mem (.lays nxN Bundle.tN "cause" "Ljava/lang/Throwable;") (by simp [Bundle.ownAtoms]) (by decide +kernel))
  obtain ⟨yS, dS, eS, nS⟩ := Cond.laysAt hf1 hk Y.stack (mem (.lays nxN Bundle.tN "stackTrace" Bundle.steD) (by simp [Bundle.ownAtoms]) (by decide +kernel))
  obtain ⟨yP, dP, eP, nP⟩ := Cond.laysAt hf1 hk Y.supp (mem (.lays nxN Bundle.tN "suppressedExceptions" Bundle.listD) (by simp [Bundle.ownAtoms]) (by decide +kernel))
  obtain ⟨yM, dM, eM, nM⟩ := Cond.laysAt hf1 hk ffM (mem (.lays nxN Bundle.tN "detailMessage" "Ljava/lang/String;") (by simp [Bundle.ownAtoms]) (by decide +kernel))
  obtain ⟨yB, dB, eB, nB'⟩ := Cond.laysAt hf1 hk ffB (mem (.lays nxN Bundle.tN "backtrace" "Ljava/lang/Object;") (by simp [Bundle.ownAtoms]) (by decide +kernel))
  have aC := Cond.laysApart eB eC nB' nC (by rw [nB, Y.causeName]; decide)
  have aS := Cond.laysApart eB eS nB' nS (by rw [nB, Y.stackName]; decide)
  have aP := Cond.laysApart eB eP nB' nP (by rw [nB, Y.suppName]; decide)
  have skip : SkipFacts T e.platform s (fun u => u) u0 ((preparedCellV T.toThrowableT (freshCell P1.m.cls kX) a u0 sn).withEntry W9.cur) := by
    refine ⟨{ ci198 := cB, i198 := iB, fBack := fB }, ⟨b1, b2, b3, b4⟩, ?_, fun _ _ => rfl⟩
    have h9 := fresh_default (c := P1.m.cls) yB
    rw [tB] at h9
    simpa [preparedCellV, Cell.setSlot, Cell.withEntry, Array.getElem?_setIfInBounds, aC, aS, aP, aC.symm, aS.symm, aP.symm, defaultValue] using h9
  obtain ⟨tm, mC, cd, kC, v1, hn1, -, -, -, -, -, -, -, hW1, st1⟩ := Steps.initColdS (tb := p.tables) (e := e) (below := below) (s := s) (U := W9) X.here hexec X.warmed hpl hown (t := Bundle.initS nxN) rfl rfl (by decide)
    (mem (.methodLink own ic (Bundle.initS nxN)) (by simp [Bundle.ownAtoms]) (by simp [nx_out, Bundle.initS, Bundle.tN]; intro _ _; decide)) (h _ (hin (.instanceMethod (Bundle.initS nxN)) (List.mem_append_right _ (by simp [Bundle.passSAtoms])) (by decide +kernel))) (bytes := nxB) (maxL := 2) (h _ (hin (.code (Bundle.initS nxN) nxB 2 none) (List.mem_append_right _ (by simp [Bundle.passSAtoms])) (by decide +kernel)))
    (f := g) hg (a := a) (msg := msg) (rest := .ref a :: rest) hstack hd7
  obtain rfl : tm = P1.m := Option.some.inj (hn1.symm.trans hm1)
  obtain ⟨v2, X2, st2⟩ := (X.noted hW1).ctorMessageOffV hexec (g := { g with stack := .ref a :: rest }) hg hsize T L Z LZ M LM (P1 :: Ps) hL hpass (u0 := u0) (sen := sn) (self := a) hmsg (cell := freshCell P1.m.cls kX) (cellS := cs1)
    hcell (fun _ => by simp) (by simp) rfl rfl s0 sF hcs1 hne hkn (by rw [hkeep _ (by simp)]; exact hu0) (by rw [hkeep _ (by simp)]; exact hsn)
    (Takes.of_laid hk hord yC (by rw [Y.causeType]; rfl)) (Takes.of_laid hk hord yS (by rw [Y.stackType]; exact fits_refV_array _ u0)) (Takes.of_laid hk hord yP (by rw [Y.suppType]; exact fits_refV_object _ sn))
    (Takes.of_laid hk hord yM (by rw [Y.msgType]; exact fits_refV_object _ ⟨msg, hmsg⟩)) Y.objLocals skip htr [] hd7 (by simp only [List.length_cons, hlen]; omega) (by simp only [List.length_cons, hlen]; show 2 * g.monitorRoom + _ + _ ≤ _; omega)
  obtain ⟨hwalk, hrun, hend, hWU, hsame⟩ := X2.athrowLeaves hexec (g := { g with stack := .ref a :: rest, pc := g.pc + 3 }) hg hlocked hentered hout (a := a) (rest := rest) rfl hd10 hlocks
  have hlt : a < ((W9.setVm v1).setVm v2).heap.size := (Array.getElem?_eq_some_iff.mp hcell).1
  refine ⟨_, st1 _ (fun acts => ?_), hrun, hend, hWU, hsame.weaken (fun y hy hl => ?_) (Nat.le_refl _) (Nat.le_refl _), _, heapAt_setCell_self (s := (W9.setVm v1).setVm v2) (plainBareV T.toThrowableT (freshCell P1.m.cls kX) a u0 sn msg) hlt, hf1, rfl⟩
  · rw [doInvoke_state]
    exact st2 _ hwalk
  · exfalso
    have hb : y.base = a := by
      simp only [List.nil_append, List.mem_cons, List.not_mem_nil, or_false] at hy
      rcases hy with rfl | rfl | rfl | rfl | rfl <;> rfl
    rw [hb] at hl
    exact Nat.not_lt.mpr hnew hl
end NX
/-- the words of a throw of it but the four that speak of the heap -/
def nx_at (own : String) (ic : Nat) : List Cond := (nx_atoms own ic).filter vx_no
section NXW
variable {p : Program} {l : Launch} {e : Env} {R : Room} {s : State} {m : MethodId} {args : Array Value} {below : List Frame} {meth : Method} {c : Code} {H : Heap} {ls : Array Slot} {rest : List Value} {locs : List Loc} {cells slots : Nat} {Qc : Array Value → State → Outcome → State → Prop} {XC : String → State → State → Prop} {free : Addr → Prop}
/-- as the law of a throw with a message, for this one -/
theorem nx_throwW {cc : ByteArray} {pc : Nat} (hexec : p.tables.exec = Jvm.exec) (hb : c.code = cc) (hl : l.stackTraces = false) {own text : String} {ik is ic mc ms sa : Nat} {A : Nat → Prop}
    (hown : s.vm.findClass own = some m.cls) (hk : (Cond.classLink own ik nxN).before args s = true) (hini : (Cond.initialized nxN).before args s = true) (hstr : vk_R own is text sa s) (hat : ∀ w ∈ nx_at own ic, w.before args s = true)
    (hgood : ∀ w ∈ Cond.classLink own ik nxN :: Cond.initialized nxN :: nx_at own ic, vx_ot w = true)
    (hU : vx_Zq Bundle.tN "UNASSIGNED_STACK" Bundle.steD A s s.heap) (hN : vx_Zq Bundle.tN "SUPPRESSED_SENTINEL" Bundle.listD A s s.heap) (hS : va_S A s.heap H locs) (hsize : ls.size = c.maxLocals)
    (d0 : decode cc pc = .ok (.new ik, 3)) (d3 : decode cc (pc + 3) = .ok (.dup, 1)) (d4 : decode cc (pc + 4) = .ok (.ldc_w is, 3)) (d7 : decode cc (pc + 7) = .ok (.invokespecial ic, 3)) (d10 : decode cc (pc + 10) = .ok (.athrow, 1))
    (hout : ∀ x ∈ c.exceptionTable.toList, covers x (pc + 10) = false)
    (hRframes : 5 < R.frames) (hRlocals : (rest.map fun v => v.category).sum + 82 ≤ R.locals) (hRcells : cells + 1 ≤ R.cells) (hRslots : slots + 6 ≤ R.slots) (hlocks : meth.locks = false)
    (hx : ∀ t : State, s.vm.Alike t.vm → H.size ≤ t.heap.size → (∀ q : Nat, q < H.size → t.heap[q]? = H[q]?) → XC nxN s t)
    (hf : ∀ z ∈ locs, free z.base) (hc : cells + 1 ≤ mc) (hs : slots + 6 ≤ ms) :
    W p l e R s m args below meth c H locs cells slots (vx_MQ below Qc XC args s mc ms free) (F0 m pc ls rest) := by
  intro T hT X
  have htr : e.platform.stackTraces = false := (show e.platform.stackTraces = l.stackTraces by rw [X.admits.platform]).trans hl
  have Y := vx_rebase X (R' := { frames := R.frames, locals := R.locals, cells := 1, slots := 6 }) (Nat.le_refl _) (Nat.le_refl _) hRcells hRslots
  obtain ⟨s', hA⟩ : ∃ z, z = (T.setVm s.vm).setFrames (.invoking m args :: below) := ⟨_, rfl⟩
  rw [← hA] at Y
  have hvm : s'.vm = s.vm := by rw [hA]; rfl
  have hhp : s'.heap = H := by rw [hA]; exact hT
  have hW0 : s.WarmedH s'.vm := by rw [hvm]; exact State.WarmedH.refl s
  have hk' : (Cond.classLink own ik nxN).before args s' = true := vx_ot_at hW0 hvm.symm (hgood _ List.mem_cons_self) hk
  have hini' : (Cond.initialized nxN).before args s' = true := vx_ot_at hW0 hvm.symm (hgood _ (List.mem_cons_of_mem _ List.mem_cons_self)) hini
  have hU' : vx_Zq Bundle.tN "UNASSIGNED_STACK" Bundle.steD A s' s'.heap := by rw [hhp]; exact vx_Zq.moved hW0.alike (hU.kept hS.2.1)
  have hN' : vx_Zq Bundle.tN "SUPPRESSED_SENTINEL" Bundle.listD A s' s'.heap := by rw [hhp]; exact vx_Zq.moved hW0.alike (hN.kept hS.2.1)
  have h : ∀ w ∈ nx_atoms own ic, w.before args s' = true := vx_own (fun w hw => vx_ot_at hW0 hvm.symm (hgood w (List.mem_cons_of_mem _ (List.mem_cons_of_mem _ hw))) (hat w hw)) (vx_isRefq hU'.1) (vx_isRefq hN'.1) hU'.2.word hN'.2.word
  have hin : ∀ w, w ∈ nx_w own ic → nx_out w = false → w ∈ nx_atoms own ic := fun w h1 h2 => List.mem_filter.mpr ⟨h1, by rw [h2]; rfl⟩
  have hown' : s'.vm.findClass own = some m.cls := by rw [hvm]; exact hown
  have hins : (Cond.instantiable nxN 6).before args s' = true := h _ (hin _ (List.mem_append_left _ (by simp [Bundle.ownAtoms])) (by decide +kernel))
  obtain ⟨vm₁, cX, kX, hfX, hkX, -, -, X₁, st1⟩ := Y.newCold hexec (own := own) (C := nxN) (index := ik) (n := 6) hown' hk' hins hini' (g := F0 m pc ls rest) rfl (by rw [hb]; exact d0) (Nat.le_refl _) (Nat.le_refl _)
  generalize hT1 : (T.setVm vm₁).pushCell { cls := cX, slots := kX.instanceTypes.map defaultValue, vm := .none } = T1 at X₁ st1
  have hcat : (Value.ref T.heap.size).category = 1 := rfl
  have hcellA : T1.heap[T.heap.size]? = some (freshCell cX kX) := by rw [← hT1]; exact State.heap_pushCell_size _ _
  have d3' : decode c.code (pc + 3) = .ok (.dup, 1) := by rw [hb]; exact d3
  have d4' : decode c.code (pc + 4) = .ok (.ldc_w is, 3) := by rw [hb]; exact d4
  have hstr' : vk_R own is text sa s' := vk_R.warm hW0 hstr
  obtain ⟨U, hsteps, hrun, hend, hW, hsame, ce, hce, hcls, hcv⟩ := nx_ctor X₁ hexec htr (own := own) (ic := ic) hown' h hin hfX hkX hcellA (by rw [hhp, hT]; exact Nat.le_refl _) (msg := .ref sa) rfl
    (g := { method := m, pc := pc + 7, locals := ls, stack := .ref sa :: .ref T.heap.size :: .ref T.heap.size :: rest, locked := none }) rfl hsize rfl rfl (rest := rest) rfl
    (by rw [hb]; exact d7) (by rw [hb]; exact d10) hout hRframes (by simp only [List.map_cons, List.sum_cons, hcat]; show 2 * 0 + _ + 81 ≤ R.locals; omega) hlocks
  obtain ⟨f1, f2⟩ := vx_frame hsame
  rw [hhp] at f1 f2
  have hWs : s.WarmedH U.vm := State.WarmedH.trans hW0 hW
  have hcl : s.vm.findClass nxN = some ce.cls := by
    rw [hvm] at hcls
    exact hcls
  have hall : s.sameButNew ({ U with vm := s.vm } : State) locs mc ms := by
    subst hA
    obtain ⟨e1, e2⟩ := hsame
    rw [State.setFrames_setFrames] at e1
    have h2 : (T.setVm s.vm).sameButNew ({ U with vm := s.vm } : State) [] (0 + 1) (0 + 6) := ⟨e1, e2⟩
    have h3 := X.same.trans h2
    rw [List.append_nil] at h3
    exact h3.mono hc hs
  refine ⟨U, ?_, .threw T.heap.size, hrun, hend, Or.inr ⟨T.heap.size, rfl, nxN, ce, locs, hx U hWs.alike f1 (fun q hq => f2 q hq (fun z hz => nomatch hz)), hce, hcv, hcl, hWs, hall, hf⟩⟩
  refine st1 _ ?_
  show Steps p.tables e below (T1.setTop { method := m, pc := pc + 3, locals := ls, stack := .ref T.heap.size :: rest, locked := none }) _
  jvm_step X₁.here [X₁.here.top, hexec, d3', Value.category]
  exact X₁.ldcStringW hexec (own := own) (text := text) (index := is) (a := sa) hown' hstr'.1 hstr'.2
    (g := { method := m, pc := pc + 4, locals := ls, stack := .ref T.heap.size :: .ref T.heap.size :: rest, locked := none }) rfl d4' _ hsteps
end NXW
