/-! String.checkIndex(index, length), the index within: nothing happens. Its road: a static thing is read, Preconditions.checkIndex is called -/
def yPc : MethodName := ⟨"jdk/internal/util/Preconditions", "checkIndex", "(IILjava/util/function/BiFunction;)I"⟩
def ySc : MethodName := ⟨"java/lang/String", "checkIndex", "(II)V"⟩
abbrev bPc : ByteArray := prog_39_method_11_code
abbrev bSc : ByteArray := prog_28_method_155_code
def wPc : List Cond := [.code yPc bPc 3 (some .int)]
def wSc : List Cond := [.code ySc bSc 2 none, .fieldLink "java/lang/String" 1053 "jdk/internal/util/Preconditions" "SIOOBE_FORMATTER" "Ljava/util/function/BiFunction;", .methodLink "java/lang/String" 1059 yPc, .static yPc, .initialized "jdk/internal/util/Preconditions", .code yPc bPc 3 (some .int)]
set_option maxRecDepth 100000 in
theorem wSc_in : ∀ w ∈ wSc, w ∈ ab_G := by decide +kernel
theorem dPc_0 : decode bPc 0 = .ok (.iload_n 0, 1) := by decide +kernel
theorem dPc_1 : decode bPc 1 = .ok (.ifCond .lt 8, 3) := by decide +kernel
theorem dPc_4 : decode bPc 4 = .ok (.iload_n 0, 1) := by decide +kernel
theorem dPc_5 : decode bPc 5 = .ok (.iload_n 1, 1) := by decide +kernel
theorem dPc_6 : decode bPc 6 = .ok (.if_icmp .lt 10, 3) := by decide +kernel
theorem dPc_16 : decode bPc 16 = .ok (.iload_n 0, 1) := by decide +kernel
theorem dPc_17 : decode bPc 17 = .ok (.ireturn, 1) := by decide +kernel
theorem dSc_0 : decode bSc 0 = .ok (.iload_n 0, 1) := by decide +kernel
theorem dSc_1 : decode bSc 1 = .ok (.iload_n 1, 1) := by decide +kernel
theorem dSc_2 : decode bSc 2 = .ok (.getstatic 1053, 3) := by decide +kernel
theorem dSc_5 : decode bSc 5 = .ok (.invokestatic 1059, 3) := by decide +kernel
theorem dSc_8 : decode bSc 8 = .ok (.pop, 1) := by decide +kernel
theorem dSc_9 : decode bSc 9 = .ok (.return_, 1) := by decide +kernel
theorem ab_pcM (l : Launch) (i n : Int32) (v : Value) (hv : v = .null ∨ ∃ a, v = .ref a) (h0 : ¬ i < 0) (h1 : i < n) (sz : Nat) : Met l yPc wPc ({ frames := 0, cells := 0, slots := 0, locals := 0 }) (va_Pc [.int i, .int n, v] (fun U => U.heap.size = sz)) (va_Qi (fun (_ : Int32) (_ : Unit) => True) (fun _ _ => True) (va_A [] sz)) 0 0 (va_A [] sz) := by
  have main : ∀ (ok : lv_args 0 [.int i, .int n, v] = [(0, .int i), (1, .int n), (2, v)]), Met l yPc wPc ({ frames := 0, cells := 0, slots := 0, locals := 0 }) (va_Pc [.int i, .int n, v] (fun U => U.heap.size = sz)) (va_Qi (fun (_ : Int32) (_ : Unit) => True) (fun _ _ => True) (va_A [] sz)) 0 0 (va_A [] sz) := by
    intro ok
    refine Met.ofW (cc := bPc) (maxL := 3) (ret := some .int) (by decide) rfl ?_
    intro p e s m args below meth c s₁ B hml hv2
    obtain ⟨rfl, hsz⟩ := hv2
    have hx := B.exec
    have hb := B.bytes
    have hr := B.returns
    have hlocks := B.notSynchronized
    subst hsz
    have hS : va_S (va_A [] s.heap.size) s.heap s.heap [] := va_S.rf
    have hlen : (lg_sl ([.int i, .int n, v])).length ≤ 3 := by
      rcases hv with rfl | ⟨a, rfl⟩ <;> exact Nat.le_of_ble_eq_true rfl
    have hl := lv_entry ([.int i, .int n, v]) (n := 3) hlen
    rw [lg_entry_eq]
    generalize (lg_sl ([.int i, .int n, v]) ++ List.replicate (3 - (lg_sl ([.int i, .int n, v])).length) Slot.unset).toArray = ls at hl ⊢
    rw [ok] at hl
    refine lv_iload_n hx hb dPc_0 rfl (lv_at hl 0 rfl) ?_
    refine lv_if_lt hx hb dPc_1 (tgt := 9) (by decide) (fun h => absurd h h0) (fun _ => ?_)
    refine lv_iload_n hx hb dPc_4 rfl (lv_at hl 0 rfl) ?_
    refine lv_iload_n hx hb dPc_5 rfl (lv_at hl 1 rfl) ?_
    refine lv_icmp_lt hx hb dPc_6 (tgt := 16) (by decide) (fun _ => ?_) (fun h => absurd h1 h)
    refine lv_iload_n hx hb dPc_16 rfl (lv_at hl 0 rfl) ?_
    exact W.iret (v := i) hx hb hr (fun t ht hW => ⟨⟨i, (), rfl, trivial, trivial⟩, hS.F ht⟩) hS.2.2 dPc_17
  rcases hv with rfl | ⟨a, rfl⟩
  · exact main rfl
  · exact main rfl
theorem ab_scM (l : Launch) (i n : Int32) (v : Value) (hv : v = .null ∨ ∃ a, v = .ref a) (h0 : ¬ i < 0) (h1 : i < n) (A0 : Nat → Prop) (sz : Nat) (hA0 : ∀ q, sz ≤ q → A0 q) : Met l ySc wSc ({ frames := 1, cells := 0, slots := 0, locals := 22 }) (va_Pc [.int i, .int n] (fun U => U.heap.size = sz ∧ ab_sio A0 v U U.heap)) (va_Qv (fun (_ : Unit) => True) (fun _ _ => True) (va_A [] sz)) 0 0 (va_A [] sz) := by
  refine Met.ofW (cc := bSc) (maxL := 2) (ret := none) (by decide) rfl ?_
  intro p e s m args below meth c s₁ B hml hv2
  obtain ⟨rfl, hsz, hZ⟩ := hv2
  have hx := B.exec
  have hb := B.bytes
  have hr := B.returns
  have hts := atoms_spec (ws := wSc) B.pre
  have hown : s.vm.findClass "java/lang/String" = some m.cls := findClass_of_methodNamed B.named
  have hlocks := B.notSynchronized
  subst hsz
  have hS : va_S (va_A [] s.heap.size) s.heap s.heap [] := va_S.rf
  have hl := lv_entry ([.int i, .int n]) (n := 2) (Nat.le_of_ble_eq_true rfl)
  rw [lg_entry_eq]
  generalize (lg_sl ([.int i, .int n]) ++ List.replicate (2 - (lg_sl ([.int i, .int n])).length) Slot.unset).toArray = ls at hl ⊢
  have hl : lv_has ls 2 [(0, .int i), (1, .int n)] := hl
  refine lv_iload_n hx hb dSc_0 rfl (lv_at hl 0 rfl) ?_
  refine lv_iload_n hx hb dSc_1 rfl (lv_at hl 1 rfl) ?_
  refine va_gets hx hb (A := va_A [] s.heap.size) (va_Z.narrow hZ (fun q hq => by
    rcases hq with ⟨k, e, hk⟩ | hq
    · cases hk
    · exact hA0 q hq)) hS hown (hts _ (List.mem_of_getElem? (i := 1) rfl)) (fun _ h => h) dSc_2 ?_
  have hcw : CallB ({ frames := 1, cells := 0, slots := 0, locals := 22 } : Room) s (#[.int i, .int n] : Array Value) "java/lang/String" 1059 yPc bPc 3 (some .int) wPc ({ frames := 0, cells := 0, slots := 0, locals := 0 }) 0 0 3 ∧ (Cond.static yPc).before (#[.int i, .int n] : Array Value) s = true := by
    refine ⟨⟨rfl, rfl, Nat.le_refl _, Nat.le_refl _, pay_in hts (fun w hw => ?_), List.mem_cons_self, hts _ (List.mem_of_getElem? (i := 5) rfl), hts _ (List.mem_of_getElem? (i := 4) rfl), ⟨by decide, by decide⟩, fun sig hsig => ?_, hts _ (List.mem_of_getElem? (i := 2) rfl)⟩, hts _ (List.mem_of_getElem? (i := 3) rfl)⟩
    · rcases List.mem_cons.mp hw with rfl | hw
      · exact ⟨List.mem_of_getElem? (i := 5) rfl, Or.inl rfl⟩
      · cases hw
    · have h9 : (parseMethodDescriptor yPc.desc).map (fun d => d.parameters.length) = some 3 := by decide +kernel
      rw [hsig] at h9
      exact (Option.some.inj h9).symm
  have hcv : v.category = 1 := by rcases hv with rfl | ⟨a, rfl⟩ <;> rfl
  refine va_calli (A0 := va_A [] s.heap.size) (A1 := va_A [] s.heap.size) (va_runS (As := [.int i, .int n, v]) (rest := []) (Ts := wSc) ⟨hx, hb, hml, hown, hts⟩ (ab_pcM l i n v hv h0 h1 s.heap.size) hcw ⟨fun a U g mk q => q, fun U hU hW => ⟨rfl, by show U.heap.size = s.heap.size; rw [hU]⟩⟩ rfl rfl hl.1 rfl (lv_room (Nat.le_of_ble_eq_true rfl)) dSc_5 ⟨Nat.le_refl _, Nat.le_refl _⟩) hS (fun q _ h => h) (fun q h => h) (fun r u t H1 locs1 ht hvm hw hB hz1 hk1 hS => ?_)
  refine lv_pop hx hb dSc_8 rfl ?_
  exact W.vret hx hb hr (fun t ht hW => ⟨⟨(), rfl, trivial, trivial⟩, hS.F ht⟩) hS.2.2 dSc_9
