/-! int[n][m]: the row of rows is made first, then its rows one by one -/
def gd_out (c : ClassId) (N h i : Nat) : Cell := arrV c N (fun j => va_rf (if j < i then some (h + 1 + j) else none))
def gd_in (c : ClassId) (M : Nat) : Cell := arrV c M (fun _ => .int 0)
def gd_st (s : State) (c comp : ClassId) (N M : Nat) : Nat → State
  | 0 => s.pushCell (gd_out c N s.heap.size 0)
  | i + 1 => ((gd_st s c comp N M i).pushCell (gd_in comp M)).setCell s.heap.size (gd_out c N s.heap.size (i + 1))
theorem gd_step (c : ClassId) (N h i : Nat) : (gd_out c N h i).setSlot i (.ref (h + 1 + i)) = gd_out c N h (i + 1) := by
  unfold gd_out
  rw [arrV_store]
  congr 1
  funext j
  unfold updV
  by_cases e : j = i
  · subst e
    rw [if_pos rfl, if_pos (Nat.lt_succ_self _)]
    rfl
  · rw [if_neg e]
    by_cases h1 : j < i
    · show va_rf (if j < i then some (h + 1 + j) else none) = _
      rw [if_pos h1, if_pos (by omega)]
    · show va_rf (if j < i then some (h + 1 + j) else none) = _
      rw [if_neg h1, if_neg (by omega)]
theorem gd_facts (s : State) (c comp : ClassId) (N M : Nat) : ∀ i, (gd_st s c comp N M i).heap.size = s.heap.size + 1 + i ∧ (gd_st s c comp N M i).heap[s.heap.size]? = some (gd_out c N s.heap.size i) ∧ (gd_st s c comp N M i).vm = s.vm ∧ (gd_st s c comp N M i).slotsUsed = s.slotsUsed + N + i * M ∧
    (∀ q : Nat, q < s.heap.size → (gd_st s c comp N M i).heap[q]? = s.heap[q]?) ∧ ∀ j, j < i → (gd_st s c comp N M i).heap[s.heap.size + 1 + j]? = some (gd_in comp M)
  | 0 => by
    refine ⟨by simp [gd_st], by simp [gd_st], rfl, ?_, fun q hq => State.heap_pushCell_of_lt _ _ hq, fun j hj => absurd hj (Nat.not_lt_zero _)⟩
    show s.slotsUsed + (gd_out c N s.heap.size 0).slots.size = _
    rw [gd_out, arrV_size]; omega
  | i + 1 => by
    obtain ⟨a1, a2, a3, a4, a5, a6⟩ := gd_facts s c comp N M i
    have lt0 : s.heap.size < (gd_st s c comp N M i).heap.size := by omega
    have hb : ((gd_st s c comp N M i).pushCell (gd_in comp M)).heap[s.heap.size]? = some (gd_out c N s.heap.size i) := by rw [State.heap_pushCell_of_lt (h := lt0)]; exact a2
    refine ⟨?_, State.heap_setCell_self hb, by simp [gd_st, a3], ?_, fun q hq => ?_, fun j hj => ?_⟩
    · simp [gd_st, State.setCell, a1]; omega
    · show (gd_st s c comp N M i).slotsUsed + (gd_in comp M).slots.size = _
      rw [gd_in, arrV_size, a4, Nat.succ_mul]; omega
    · show (((gd_st s c comp N M i).pushCell (gd_in comp M)).setCell s.heap.size _).heap[q]? = _
      rw [State.heap_setCell_other (Nat.ne_of_gt hq), State.heap_pushCell_of_lt (h := show q < (gd_st s c comp N M i).heap.size by omega)]
      exact a5 q hq
    · show (((gd_st s c comp N M i).pushCell (gd_in comp M)).setCell s.heap.size _).heap[s.heap.size + 1 + j]? = _
      rw [State.heap_setCell_other (show s.heap.size ≠ s.heap.size + 1 + j by omega)]
      by_cases e : j = i
      · subst e
        rw [← a1]
        exact State.heap_pushCell_size _ _
      · rw [State.heap_pushCell_of_lt (h := show s.heap.size + 1 + j < (gd_st s c comp N M i).heap.size by omega)]
        exact a6 j (by omega)
theorem gd_top (s : State) (f : JFrame) (c comp : ClassId) (N M : Nat) : ∀ i, gd_st (s.setTop f) c comp N M i = (gd_st s c comp N M i).setTop f
  | 0 => rfl
  | i + 1 => by simp only [gd_st, gd_top s f c comp N M i, State.heap_setTop, State.pushCell_setTop, State.setCell_setTop]
section GD
variable {E : CtlPost} {e : Env} {d : Bool} {acts : List Action} {s : State}
/-- all of it, as the machine's own word says it -/
theorem gd_wp {c comp cc : ClassId} {k kc : Class} {n m : Int32} (hk : s.vm.classes[c]? = some k) (hkind : k.kind = .array comp (.array .int)) (hkc : s.vm.classes[comp]? = some kc) (hkindc : kc.kind = .array cc .int) (hn : ¬ n < 0) (hm : ¬ m < 0)
    (hl1 : ¬ n.toNatClampNeg > e.platform.arrayLengthLimit) (hh1 : ¬ n.toNatClampNeg * 4 > e.platform.maxHeapBytes) (hl2 : ¬ m.toNatClampNeg > e.platform.arrayLengthLimit) (hh2 : ¬ m.toNatClampNeg * 4 > e.platform.maxHeapBytes)
    (hc : s.heap.size + 1 + n.toNatClampNeg ≤ e.platform.maxCells) (hs : s.slotsUsed + n.toNatClampNeg + n.toNatClampNeg * m.toNatClampNeg ≤ e.platform.maxSlots)
    {Q : Addr → Pre} (hq : ∀ d' acts', Q s.heap.size d' acts' (gd_st s c comp n.toNatClampNeg m.toNatClampNeg n.toNatClampNeg)) :
    wp (Op.multianewarray.make c [n, m]) Q E e d acts s := by
  have e1 : ([m].find? (· < 0)) = none := by simp [hm]
  rw [Op.multianewarray.make]
  simp only [wp_bind', W.ite, hn, if_false, wp_pure', W.theClass, hk, hkind, Option.some.injEq, exists_eq_left']
  refine W.newArray_of hk hkind hl1 (by simpa [componentBytes] using hh1) (by omega) (by have := Nat.zero_le (n.toNatClampNeg * m.toNatClampNeg); omega) rfl (fun acts1 => ?_)
  rw [arrV_new]
  simp only [e1]
  rw [ite_self, wp_bind', Std.Legacy.Range.forIn_eq_forIn_range']
  have e2 : ([:n.toNatClampNeg] : Std.Legacy.Range).size = n.toNatClampNeg := by simp [Std.Legacy.Range.size]
  rw [e2]
  show wp (forIn (List.range' 0 n.toNatClampNeg 1) PUnit.unit _) _ E e d acts1 _
  refine wp_forIn_inv (fun rest s' => ∃ i, i + rest.length = n.toNatClampNeg ∧ rest = List.range' i rest.length ∧ s' = gd_st s c comp n.toNatClampNeg m.toNatClampNeg i) _ _ ⟨0, by simp, by simp, ?_⟩ ?_ ?_
  · show s.pushCell _ = s.pushCell _
    congr 1
  · rintro x rest s' d' acts' Q' ⟨i, hi, hl, rfl⟩ hnext
    rw [List.length_cons] at hi hl
    rw [List.range'_succ] at hl
    obtain ⟨rfl, hrest⟩ := List.cons.inj hl
    obtain ⟨f1, f2, f3, f4, -, -⟩ := gd_facts s c comp n.toNatClampNeg m.toNatClampNeg x
    have hlt : x < n.toNatClampNeg := by omega
    have hmul : x * m.toNatClampNeg + m.toNatClampNeg ≤ n.toNatClampNeg * m.toNatClampNeg := by
      have := Nat.mul_le_mul_right m.toNatClampNeg (show x + 1 ≤ n.toNatClampNeg from hlt)
      rw [Nat.succ_mul] at this
      exact this
    simp only [wp_bind']
    rw [Op.multianewarray.make]
    simp only [wp_bind', W.ite, hm, if_false, wp_pure', W.theClass, f3, hkc, hkindc, Option.some.injEq, exists_eq_left']
    refine W.newArray_of (by rw [f3]; exact hkc) hkindc hl2 (by simpa [componentBytes] using hh2) (by rw [f1]; omega) (by rw [f4]; omega) rfl (fun acts2 => ?_)
    rw [show defaultValue .int = .int 0 from rfl, arrV_new]
    have lt0 : s.heap.size < (gd_st s c comp n.toNatClampNeg m.toNatClampNeg x).heap.size := by rw [f1]; omega
    simp only [wp_bind', W.writeLoc, wp_pure']
    refine ⟨gd_out c n.toNatClampNeg s.heap.size x, by rw [State.heap_pushCell_of_lt (h := lt0)]; exact f2, by simp [gd_out, arrV], by rw [gd_out, arrV_size]; exact hlt, ?_, hnext _ _ _ ⟨x + 1, by omega, hrest, ?_⟩⟩
    · show State.fitsSlot _ c .none x _ = true
      simp [State.fitsSlot, State.slotType?, f3, hk, hkind, fits]
    · rw [f1, gd_step]
      rfl
  · rintro s' d' acts' ⟨i, hi, -, rfl⟩
    have : i = n.toNatClampNeg := by simpa using hi
    subst this
    simp only [wp_pure']
    exact hq _ _
end GD
section GDW
variable {p : Program} {l : Launch} {e : Env} {R : Room} {s : State} {m : MethodId} {args : Array Value} {below : List Frame} {meth : Method} {c : Code} {H : Heap} {T : State} {locs : List Loc} {cells slots : Nat} {Q : State → Prop}
variable {cc : ByteArray} {pc : Nat} {ls : Array Slot} {rest : List Value}
theorem gd_stand (X : Stand p l e R s m args below meth c T locs cells slots) (cA comp : ClassId) (N M : Nat) :
    ∀ i, i ≤ N → Stand p l e R s m args below meth c (gd_st T cA comp N M i) (locs ++ (List.range i).map fun j => ⟨T.heap.size, j⟩) (cells + 1 + i) (slots + N + i * M)
  | 0, _ => by
    have h := X.pushed (gd_out cA N T.heap.size 0)
    rw [show (gd_out cA N T.heap.size 0).slots.size = N by rw [gd_out, arrV_size]] at h
    simpa [gd_st] using h
  | i + 1, hi => by
    have Xi := gd_stand X cA comp N M i (by omega)
    obtain ⟨f1, f2, -, -, -, -⟩ := gd_facts T cA comp N M i
    have hcell : ((gd_st T cA comp N M i).pushCell (gd_in comp M)).heap[T.heap.size]? = some (gd_out cA N T.heap.size i) := by rw [State.heap_pushCell_of_lt (h := show T.heap.size < (gd_st T cA comp N M i).heap.size by omega)]; exact f2
    have h := (Xi.pushed (gd_in comp M)).stored hcell i (.ref (T.heap.size + 1 + i))
    rw [gd_step, show (gd_in comp M).slots.size = M by rw [gd_in, arrV_size]] at h
    rw [List.range_succ, List.map_append, ← List.append_assoc, show slots + N + (i + 1) * M = slots + N + i * M + M by rw [Nat.succ_mul]; omega]
    exact h
theorem gd_W (hexec : p.tables.exec = Jvm.exec) (hb : c.code = cc) {own : String} {index : Nat} (hown : s.vm.findClass own = some m.cls) (hclink : (Cond.classLink own index "[[I").before args s = true) (hga : ab_ga s) {n k : Int32} (hn : ¬ n < 0) (hk : ¬ k < 0) (hn2 : n.toNatClampNeg ≤ 1000) (hk2 : k.toNatClampNeg ≤ 10000)
    (hcells : cells + (1 + n.toNatClampNeg) ≤ R.cells) (hslots : slots + (n.toNatClampNeg + n.toNatClampNeg * k.toNatClampNeg) ≤ R.slots) (hdg : decode cc pc = .ok (.multianewarray index 2, 4))
    (kk : ∀ (cA comp : ClassId) (H1 : Heap) (L : List Loc), s.vm.findClass "[[I" = some cA → s.vm.findClass "[I" = some comp → H1.size = H.size + 1 + n.toNatClampNeg → (∀ q : Nat, q < H.size → H1[q]? = H[q]?) → H1[H.size]? = some (gd_out cA n.toNatClampNeg H.size n.toNatClampNeg) → (∀ j, j < n.toNatClampNeg → H1[H.size + 1 + j]? = some (gd_in comp k.toNatClampNeg)) → (∀ q ∈ L, q.base = H.size) →
      W p l e R s m args below meth c H1 (locs ++ L) (cells + 1 + n.toNatClampNeg) (slots + n.toNatClampNeg + n.toNatClampNeg * k.toNatClampNeg) Q (F0 m (pc + 4) ls (.ref H.size :: rest))) :
    W p l e R s m args below meth c H locs cells slots Q (F0 m pc ls (.int k :: .int n :: rest)) := by
  intro T hT X
  subst hT; subst hb
  generalize hg : F0 m pc ls (.int k :: .int n :: rest) = g
  have hgm : g.method = m := by rw [← hg]
  have hgp : g.pc = pc := by rw [← hg]
  have hgs : g.stack = .int k :: .int n :: rest := by rw [← hg]
  have hpl : e.platform.magicAccessors = ({} : Platform).magicAccessors := by rw [X.admits.platform]
  obtain ⟨comp, cA, kA, kC, cc, a1, a2, a3, a4, a5, a6⟩ := hga
  obtain ⟨c0, hc0, hcl⟩ := Cond.classLink_spec hown hclink e.platform hpl
  cases a2.symm.trans hc0
  rw [← hgm] at hcl
  obtain ⟨hg₁, hwarm, hready⟩ := State.classEntry (e := e) X.warmed hcl
  generalize T.vm.noted g.method.cls index (.cls cA) = vm₁ at hg₁ hwarm hready
  have hal : s.vm.Alike vm₁ := hwarm.alike
  obtain ⟨kA₁, b3, heA⟩ := hal.2.2 _ _ a3
  obtain ⟨kC₁, b5, heC⟩ := hal.2.2 _ _ a5
  have b4 : kA₁.kind = .array comp (.array .int) := by rw [heA]; exact a4
  have b6 : kC₁.kind = .array cc .int := by rw [heC]; exact a6
  have X₁ := X.noted hwarm
  obtain ⟨hr1, hr2⟩ := X.roomAbove hcells hslots
  have XF := gd_stand X₁ cA comp n.toNatClampNeg k.toNatClampNeg n.toNatClampNeg (Nat.le_refl _)
  obtain ⟨f1, f2, f3, f4, f5, f6⟩ := gd_facts (T.setVm vm₁) cA comp n.toNatClampNeg k.toNatClampNeg n.toNatClampNeg
  obtain ⟨t, st, b⟩ := kk cA comp _ ((List.range n.toNatClampNeg).map fun j => ⟨T.heap.size, j⟩) a2 a1 f1 f5 f2 f6 (fun q hq => by
    obtain ⟨j, -, rfl⟩ := List.mem_map.mp hq
    rfl) _ rfl XF
  refine ⟨t, ?_, b⟩
  have hl1 : ¬ n.toNatClampNeg > e.platform.arrayLengthLimit := by rw [Launch.admits_arrayLengthLimit X.admits]; omega
  have hh1 : ¬ n.toNatClampNeg * 4 > e.platform.maxHeapBytes := by rw [Launch.admits_maxHeapBytes X.admits]; omega
  have hl2 : ¬ k.toNatClampNeg > e.platform.arrayLengthLimit := by rw [Launch.admits_arrayLengthLimit X.admits]; omega
  have hh2 : ¬ k.toNatClampNeg * 4 > e.platform.maxHeapBytes := by rw [Launch.admits_maxHeapBytes X.admits]; omega
  subst hgm
  have hdg2 : decode c.code g.pc = .ok (.multianewarray index 2, 4) := by rw [hgp]; exact hdg
  have hgo : ({ g with pc := g.pc + 4, stack := .ref T.heap.size :: rest } : JFrame) = F0 g.method (pc + 4) ls (.ref T.heap.size :: rest) := by rw [← hg]
  jvm_step X.here [hexec, hdg2]
  simp only [multianewarray.sem, wp_bind', W.resolveClassAt_links (State.method?_setTop g X.here.top) hg₁]
  rw [W.popN, if_neg (by decide)]
  refine ⟨g, State.topJava?_setTop' (s := T.setVm vm₁) g X.here.top, [.int n, .int k], rest, rfl, hgs, ?_⟩
  simp only [List.mapM_cons, List.mapM_nil, wp_bind', wp_pure']
  refine gd_wp (k := kA₁) (kc := kC₁) (comp := comp) (cc := cc) b3 b4 b5 b6 hn hk hl1 hh1 hl2 hh2 (by show T.heap.size + 1 + _ ≤ _; omega) (by show T.slotsUsed + _ + _ ≤ _; omega) (fun d' acts' => ?_)
  have eS : ((T.setTop g).setVm vm₁).setTop { g with stack := rest } = (T.setVm vm₁).setTop { g with stack := rest } := by
    show ((T.setVm vm₁).setTop g).setTop _ = _
    rw [State.setTop_setTop]
  rw [eS, gd_top]
  simp only [wp_bind', W.mark, W.pushRef, State.topJava?_setTop' _ XF.here.top, Option.some.injEq, exists_eq_left', State.setTop_setTop, State.heap_setTop]
  intro acts
  simp [jvm, XF.here.top]
  rw [← hgo] at st
  exact st
end GDW
