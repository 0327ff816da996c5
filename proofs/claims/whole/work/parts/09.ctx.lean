/-! what holds all through a body: the machine, the words, the classes, what is static -/
def ab_isN (w : Cond) : Bool := match w with
  | .fieldLinkNest .. => true
  | .methodLinkNest .. => true
  | .castable .. => true
  | .declares .. => true
  | _ => false
def ab_N : List Cond := lw_tbl.filter ab_isN
theorem ab_N_in {w : Cond} (i : Nat) (h : decide (lw_tbl[i]? = some w) = true) (hg : ab_isN w = true) : w ∈ ab_N := List.mem_filter.mpr ⟨List.mem_of_getElem? (of_decide_eq_true h), hg⟩
theorem ab_N_isN {w : Cond} (h : w ∈ ab_N) : ab_isN w = true := (List.mem_filter.mp h).2
theorem ab_N_warm {w : Cond} {s U : State} (hn : ab_isN w = true) (hW : s.WarmedH U.vm) (h : va_Nw w s) : va_Nw w U := by
  cases w <;> first | (cases hn; done) | exact va_Nw.warmF hW h | exact va_Nw.warmM hW h | exact va_Nw.warmC hW h | exact va_Nw.warmD hW h
/-- the words of the DEEDS, as the tables have them (their place there: 1184) -/
def ab_ldt : String := match (tables_1[1184]? : Option Cond) with
  | some (Cond.stringRef _ _ t) => t
  | _ => ""
set_option maxRecDepth 100000 in
theorem ab_ldt_ok : decide (tables_1[1184]? = some (Cond.stringRef RX2 45 ab_ldt)) = true := by decide +kernel
/-- the texts that are loaded, where; the messages of what is thrown -/
abbrev ab_lds : List (String × Nat × String × Nat) := [(RX10, 50, "person wrong false interest bite", 0), (RX5, 77, "size age temper heat passed told day held least most", 1), (RX2, 45, ab_ldt, 2)]
abbrev ab_msg : List (String × Nat × String) := [(RX11, 385, "no such person"), (RX11, 390, "no such claim"), (RX11, 394, "not within what is told"), (RX11, 399, "too many claims stand")]
abbrev ab_len3 : List Nat := [ab_txl 0, ab_txl 1, ab_txl 2]
abbrev ab_byt3 : List (List Int32) := ab_txs.map (fun l => l.map Int32.ofNat)
/-- what is thrown, by its number -/
def ab_en (E : Nat) : String := match E with
  | 0 => "java/util/NoSuchElementException"
  | 1 => "java/lang/IllegalArgumentException"
  | _ => "java/lang/IllegalStateException"
/-- the class of int[][], by the tables -/
def ab_ga (U : State) : Prop := ∃ (comp c : ClassId) (k kc : Class) (cc : ClassId), U.vm.findClass "[I" = some comp ∧ U.vm.findClass "[[I" = some c ∧ U.vm.classes[c]? = some k ∧ k.kind = .array comp (.array .int) ∧ U.vm.classes[comp]? = some kc ∧ kc.kind = .array cc .int
theorem ab_ga.moved {u U : State} (hvm : u.vm.Alike U.vm) (h : ab_ga u) : ab_ga U := by
  obtain ⟨comp, c, k, kc, cc, h1, h2, h3, h4, h5, h6⟩ := h
  obtain ⟨k', hk', he⟩ := hvm.2.2 _ _ h3
  obtain ⟨kc', hkc', hec⟩ := hvm.2.2 _ _ h5
  exact ⟨comp, c, k', kc', cc, by rw [hvm.findClass]; exact h1, by rw [hvm.findClass]; exact h2, hk', by rw [he]; exact h4, hkc', by rw [hec]; exact h6⟩
abbrev ab_sio (A : Nat → Prop) (v : Value) (U : State) (H : Heap) : Prop := va_Z "jdk/internal/util/Preconditions" "SIOOBE_FORMATTER" "Ljava/util/function/BiFunction;" v A U H
def ab_Zx (A : Nat → Prop) (U : State) (H : Heap) : Prop := (∃ v : Value, (v = .null ∨ ∃ a, v = .ref a) ∧ ab_sio A v U H) ∧ ab_ga U
/-- the static things; the script xs: how many, which -/
def ab_Zs (A : Nat → Prop) (sa : Nat → Nat) (xs : Nat × (Nat → Int32)) (U : State) (H : Heap) : Prop :=
  (∀ w ∈ ab_N, va_Nw w U) ∧
  (va_X (sa 0) xs.1 xs.2 U H ∧ sa 0 < H.size ∧ ¬ A (sa 0)) ∧
  va_Z "java/lang/String" "COMPACT_STRINGS" "Z" (.int 1) A U H ∧
  (va_Z RX5 "WITHOUT" "[I" (.ref (sa 1)) A U H ∧ va_T .int (sa 1) 7 (fun j => .int (ab_wo j)) A U H) ∧
  vk_S 3 ab_len3 ab_byt3 (fun t => sa (2 + 2 * t)) (fun t => sa (3 + 2 * t)) A U H ∧
  (∀ q ∈ ab_lds, vk_R q.1 q.2.1 q.2.2.1 (sa (2 + 2 * q.2.2.2)) U) ∧
  (∀ q ∈ ab_msg, ∃ a, vk_R q.1 q.2.1 q.2.2 a U) ∧
  (vx_Zq Bundle.tN "UNASSIGNED_STACK" Bundle.steD A U H ∧ vx_Zq Bundle.tN "SUPPRESSED_SENTINEL" Bundle.listD A U H) ∧
  va_AO RX6 U ∧ (∀ E1 E2 : Nat, E1 < 3 → E2 < 3 → E1 ≠ E2 → va_Nc (ab_en E1) (ab_en E2) U) ∧ ab_Zx A U H
theorem ab_Zs.warm {A : Nat → Prop} {sa : Nat → Nat} {xs : Nat × (Nat → Int32)} {s U : State} {H : Heap} (hW : s.WarmedH U.vm) (h : ab_Zs A sa xs s H) : ab_Zs A sa xs U H := by
  obtain ⟨h1, ⟨h2, h2b, h2c⟩, h3, ⟨h4, h5⟩, h6, h7, h8, ⟨h9, h10⟩, h11, h12, ⟨v13, h13, h14⟩, h15⟩ := h
  have hv := hW.alike
  exact ⟨fun w hw => ab_N_warm (ab_N_isN hw) hW (h1 w hw), ⟨h2.moved hv, h2b, h2c⟩, va_Z.moved hv h3, ⟨va_Z.moved hv h4, va_T.moved hv h5⟩, vk_S.moved hv h6, fun q hq => vk_R.warm hW (h7 q hq), fun q hq => (h8 q hq).elim fun a ha => ⟨a, vk_R.warm hW ha⟩, ⟨vx_Zq.moved hv h9, vx_Zq.moved hv h10⟩, va_AO.moved hv h11, fun a b h1 h2 h3 => (h12 a b h1 h2 h3).moved hv, ⟨v13, h13, va_Z.moved hv h14⟩, h15.moved hv⟩
theorem ab_Zs.kept {A : Nat → Prop} {sa : Nat → Nat} {xs : Nat × (Nat → Int32)} {s : State} {H H1 : Heap} (hz : H.size ≤ H1.size) (hq : ∀ a : Nat, a < H.size → ¬ A a → H1[a]? = H[a]?) (h : ab_Zs A sa xs s H) : ab_Zs A sa xs s H1 := by
  obtain ⟨h1, ⟨h2, h2b, h2c⟩, h3, ⟨h4, h5⟩, h6, h7, h8, ⟨h9, h10⟩, h11, h12, ⟨v13, h13, h14⟩, h15⟩ := h
  exact ⟨h1, ⟨h2.kept (hq _ h2b h2c), Nat.lt_of_lt_of_le h2b hz, h2c⟩, va_Z.kept h3 hq, ⟨va_Z.kept h4 hq, va_T.kept h5 hq⟩, vk_S.kept h6 hq, h7, h8, ⟨vx_Zq.kept h9 hq, vx_Zq.kept h10 hq⟩, h11, h12, ⟨v13, h13, va_Z.kept h14 hq⟩, h15⟩
/-- the context of a body of the method y -/
def ab_Cx (l : Launch) (p : Program) (D : va_G) (cy : Nat → ClassId) (h0 : Nat) (sa : Nat → Nat) (xs : Nat × (Nat → Int32)) (y : MethodName) (cc : ByteArray) (nL : Nat) (s : State) (m : MethodId) (args : Array Value) (meth : Method) (c : Code) : Prop :=
  p.tables.exec = Jvm.exec ∧ c.code = cc ∧ c.maxLocals = nL ∧ s.vm.findClass y.cls = some m.cls ∧ (∀ w ∈ ab_G, w.before args s = true) ∧ va_K D ab_cls (ab_tys cy) s ∧ h0 ≤ s.heap.size ∧ meth.name = y.name ∧ meth.locks = false ∧ l.stackTraces = false ∧ ab_Zs (ab_A h0) sa xs s s.heap
