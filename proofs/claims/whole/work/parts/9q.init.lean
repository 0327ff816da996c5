/-! the start: what the statement's own words give of the launch's state -/
/-- the statement's words, a list -/
def az_F : List Cond := flatC (Jvm.Cond.and given_1 narrow_1)
theorem az_in {w : Cond} (i : Nat) (h : decide (az_F[i]? = some w) = true) : w ∈ flatC (Jvm.Cond.and given_1 narrow_1) := show w ∈ az_F from List.mem_of_getElem? (of_decide_eq_true h)
theorem az_t {w : Cond} (i : Nat) (h : decide (tables_1[i]? = some w) = true) : w ∈ lw_tbl := List.mem_append_right _ (List.mem_of_getElem? (of_decide_eq_true h))
theorem az_fA {s : State} : ∀ a : Nat, a < s.heap.size → ¬ ab_A s.heap.size a := fun _ h h2 => Nat.not_lt.mpr h2 h
/-- the three texts that the program reads, and where their words stand -/
def az_tm (t : Nat) : Term := match t with
  | 0 => .string RX10 50
  | 1 => .string RX5 77
  | _ => .string RX2 45
def az_p (t : Nat) : Nat := match t with
  | 0 => 357
  | 1 => 398
  | _ => 460
abbrev az_vt (t : Nat) : Term := .field (az_tm t) "java/lang/String" "value" "[B"
set_option maxRecDepth 100000 in
theorem az_x1 : ∀ i : Nat, i < 3 → az_F[az_p i]? = some (.exactly (az_tm i) "java/lang/String") := by decide +kernel
set_option maxRecDepth 100000 in
theorem az_x2 : ∀ i : Nat, i < 3 → az_F[az_p i + 1]? = some (.eq (.field (az_tm i) "java/lang/String" "coder" "B") (.int 0)) := by decide +kernel
set_option maxRecDepth 100000 in
theorem az_x3 : ∀ i : Nat, i < 3 → az_F[az_p i + 2]? = some (.arrayOf (az_vt i) .byte) := by decide +kernel
set_option maxRecDepth 100000 in
theorem az_x4 : ∀ i : Nat, i < 3 → az_F[az_p i + 3]? = some (.eq (.length (az_vt i)) (.int (Int32.ofNat (ab_len3.getD i 0)))) := by decide +kernel
set_option maxRecDepth 100000 in
theorem az_x5 : ∀ i : Nat, i < 3 → ∀ j : Nat, j < ab_len3.getD i 0 → az_F[az_p i + 4 + j]? = some (.eq (.elem (az_vt i) (.int (Int32.ofNat j))) (.int ((ab_byt3.getD i []).getD j 0))) := by decide +kernel
set_option maxRecDepth 100000 in
theorem az_x6 : ∀ i : Nat, i < 3 → ab_len3.getD i 0 < 2 ^ 31 := by decide +kernel
set_option maxRecDepth 100000 in
theorem az_wo : ∀ j : Nat, j < 7 → az_F[7 + j]? = some (.eq (.elem (.static RX5 "WITHOUT" "[I") (.int (Int32.ofNat j))) (.int (ab_wo j))) := by decide +kernel
set_option maxRecDepth 100000 in
theorem az_inst {k : Nat} {q : vw_C} (h : ab_cls[k]? = some q) : Cond.instantiable q.1 q.2.2 ∈ lw_tbl := by
  match k, h with
  | 0, h => cases h; exact az_t 141 (by decide +kernel)
  | 1, h => cases h; exact az_t 294 (by decide +kernel)
  | 2, h => cases h; exact az_t 265 (by decide +kernel)
  | 3, h => cases h; exact az_t 361 (by decide +kernel)
  | 4, h => cases h; exact az_t 222 (by decide +kernel)
  | 5, h => cases h; exact az_t 120 (by decide +kernel)
  | 6, h => cases h; exact az_t 194 (by decide +kernel)
  | 7, h => cases h; exact az_t 335 (by decide +kernel)
  | 8, h => cases h; exact az_t 248 (by decide +kernel)
  | 9, h => cases h; exact az_t 41 (by decide +kernel)
  | 10, h => cases h; exact az_t 78 (by decide +kernel)
  | 11, h => cases h; exact az_t 33 (by decide +kernel)
  | 12, h => cases h; exact az_t 1709 (by decide +kernel)
  | k + 13, h => simp at h
/-- the classes of arrays -/
theorem az_prim {args : Array Value} {s : State} {ty : FieldType} (h : (Cond.arrayClass ty).before args s = true) : ∃ c : ClassId, ArrOfT s c ty ∧ s.vm.findClass ("[" ++ ty.toString) = some c := by
  obtain ⟨c, k, comp, h1, h2, h3⟩ := Cond.arrayClass_spec h
  exact ⟨c, fun n z => ⟨fun _ h9 => (by cases h9), k, h2, comp, h3⟩, h1⟩
theorem az_obj {args : Array Value} {s : State} {C : String} (h : (Cond.arrayOver (.object C)).before args s = true) : ∃ c : ClassId, ArrOfT s c (.object C) ∧ va_RA s c (.object C) := by
  obtain ⟨comp, c, k, h1, h2, h3, h4, h5⟩ := Cond.arrayOver_spec h
  exact ⟨c, fun n z => ⟨fun _ h9 => (by cases h9), k, h3, comp, h4⟩, k, comp, h3, h4, h1, h5⟩
theorem az_ov {args : Array Value} {s : State} (h : (Cond.arrayOver (.array .int)).before args s = true) : ∃ (comp c : ClassId) (k : Class), s.vm.findClass (FieldType.array .int).toString = some comp ∧ s.vm.classes[c]? = some k ∧ k.kind = .array comp (.array .int) ∧ s.vm.findClass ("[" ++ (FieldType.array .int).toString) = some c := by
  simp only [Cond.before, Cond.holds, Cond.value, beq_iff_eq] at h
  cases hc : s.vm.findClass (FieldType.array .int).toString with
  | none => simp [hc] at h
  | some comp =>
    simp only [hc, Option.bind_some, Option.bind_eq_some_iff, Option.map_eq_some_iff] at h
    obtain ⟨c, hi, k, hk, hb⟩ := h
    obtain ⟨hlt, hp, -⟩ := Array.findIdx?_eq_some_iff_getElem.mp hi
    have hkk : s.vm.classes[c] = k := (Array.getElem?_eq_some_iff.mp hk).2
    rw [hkk] at hp
    cases hkind : k.kind with
    | array component ty =>
      rw [hkind] at hb hp
      simp at hb hp
      exact ⟨comp, c, k, rfl, hk, by rw [hkind, hp, hb.1], hb.2⟩
    | _ => rw [hkind] at hb; simp at hb
theorem az_ga {args : Array Value} {s : State} (h1 : (Cond.arrayClass .int).before args s = true) (h2 : (Cond.arrayOver (.array .int)).before args s = true) : ab_ga s := by
  have e0 : "[" ++ FieldType.int.toString = "[I" := by decide +kernel
  have e1 : (FieldType.array .int).toString = "[I" := by decide +kernel
  have e2 : "[" ++ (FieldType.array .int).toString = "[[I" := by decide +kernel
  obtain ⟨comp, c, k, g1, g2, g3, g4⟩ := az_ov h2
  obtain ⟨c0, k0, cc, q1, q2, q3⟩ := Cond.arrayClass_spec h1
  rw [e0] at q1
  rw [e1] at g1
  rw [e2] at g4
  cases g1.symm.trans q1
  exact ⟨_, c, k, k0, cc, g1, g4, g2, g3, q2, q3⟩
set_option maxRecDepth 100000 in
/-- the classes, as the tables have them -/
theorem az_K {args : Array Value} {s : State} (hts : ∀ w ∈ lw_tbl, w.before args s = true) : ∃ (D : va_G) (cy : Nat → ClassId), va_K D ab_cls (ab_tys cy) s := by
  have h0 : ∀ k : Nat, ∃ q : ClassId × (Nat → Nat), ∀ r : vw_C, ab_cls[k]? = some r → u_Kn s r.1 r.2.1 r.2.2 q.1 q.2 := by
    intro k
    cases hk : ab_cls[k]? with
    | none => exact ⟨(0, fun _ => 0), fun r h => by cases h⟩
    | some r =>
      obtain ⟨c, i, h⟩ := u_known (C := r.1) (T := r.2.1) (N := r.2.2) (n := r.2.2) (fun w hw => hts w (List.mem_filter.mp hw).1) (ab_tyall hk).1 (hts _ (az_inst hk))
      exact ⟨(c, i), fun r2 h2 => by cases h2; exact h⟩
  obtain ⟨D, hD⟩ := Classical.axiomOfChoice h0
  obtain ⟨c0, a0, n0⟩ := az_prim (ty := .int) (hts _ (az_t 118 (by decide +kernel)))
  obtain ⟨c1, a1, n1⟩ := az_prim (ty := .byte) (hts _ (az_t 76 (by decide +kernel)))
  obtain ⟨c2, a2, n2⟩ := az_prim (ty := .long) (hts _ (az_t 263 (by decide +kernel)))
  obtain ⟨c3, a3, n3⟩ := az_prim (ty := .boolean) (hts _ (az_t 192 (by decide +kernel)))
  obtain ⟨comp4, c4, k4, -, a4, a5, n4⟩ := az_ov (hts (Cond.arrayOver (.array .int)) (az_t 1715 (by decide +kernel)))
  obtain ⟨c5, a6, n6⟩ := az_obj (C := RX6) (hts _ (az_t 367 (by decide +kernel)))
  refine ⟨(fun k => (D k).1, fun k => (D k).2), fun k => ([c0, c1, c2, c3, c4, c5][k - 20]?).getD 0, fun c q hq => hD c q hq, fun k q hk => ?_⟩
  match k, hk with
  | 0, hk => cases hk; exact ⟨a0, n0⟩
  | 1, hk => cases hk; exact ⟨a1, n1⟩
  | 2, hk => cases hk; exact ⟨a2, n2⟩
  | 3, hk => cases hk; exact ⟨a3, n3⟩
  | 4, hk => cases hk; exact ⟨fun n z => ⟨fun _ h9 => (by cases h9), k4, a4, comp4, a5⟩, n4⟩
  | 5, hk => cases hk; exact ⟨a6, n6⟩
  | k + 6, hk => simp at hk
/-- where the static things lie -/
def az_sa (b w : Nat) (adK adV : Nat → Nat) (k : Nat) : Nat := if k = 0 then b else if k = 1 then w else if k % 2 = 0 then adK ((k - 2) / 2) else adV ((k - 3) / 2)
theorem az_saK {b w t : Nat} {adK adV : Nat → Nat} : az_sa b w adK adV (2 + 2 * t) = adK t := by
  unfold az_sa
  rw [if_neg (by omega), if_neg (by omega), if_pos (by omega), show (2 + 2 * t - 2) / 2 = t by omega]
theorem az_saV {b w t : Nat} {adK adV : Nat → Nat} : az_sa b w adK adV (3 + 2 * t) = adV t := by
  unfold az_sa
  rw [if_neg (by omega), if_neg (by omega), if_neg (by omega), show (3 + 2 * t - 3) / 2 = t by omega]
theorem az_on {w : Cond} (h : ab_isN w = true) : w.onTables = true := by
  cases w <;> first | rfl | cases h
theorem az_six {i j : Nat} (hi : i < 3) (hj : j < 3) (h : i ≠ j) : (i = 0 ∧ j = 1) ∨ (i = 0 ∧ j = 2) ∨ (i = 1 ∧ j = 2) ∨ (i = 1 ∧ j = 0) ∨ (i = 2 ∧ j = 0) ∨ (i = 2 ∧ j = 1) := by omega
section AZ
variable {b : Nat} {s : State}
set_option maxRecDepth 100000 in
theorem az_tx (hs : ∀ c ∈ flatC (Jvm.Cond.and given_1 narrow_1), c.before #[Value.ref b] s = true) : ∃ adK adV : Nat → Nat, vk_S 3 ab_len3 ab_byt3 adK adV (ab_A s.heap.size) s s.heap ∧ ∀ i : Nat, i < 3 → (az_tm i).eval #[Value.ref b] s none [] s = some (.ref (adK i)) := by
  refine vk_Sof (args := #[Value.ref b]) (N := 3) (tm := az_tm) az_x6 (fun i hi => hs _ (az_in _ (decide_eq_true (az_x1 i hi)))) (fun i hi => hs _ (az_in _ (decide_eq_true (az_x2 i hi)))) (fun i hi => hs _ (az_in _ (decide_eq_true (az_x3 i hi)))) (fun i hi => hs _ (az_in _ (decide_eq_true (az_x4 i hi)))) (fun i hi j hj => hs _ (az_in _ (decide_eq_true (az_x5 i hi j hj)))) (fun i j hi hj hij => ?_) az_fA
  rcases az_six hi hj hij with ⟨rfl, rfl⟩ | ⟨rfl, rfl⟩ | ⟨rfl, rfl⟩ | ⟨rfl, rfl⟩ | ⟨rfl, rfl⟩ | ⟨rfl, rfl⟩
  · exact Or.inl (hs _ (az_in 459 (by decide +kernel)))
  · exact Or.inl (hs _ (az_in 524 (by decide +kernel)))
  · exact Or.inl (hs _ (az_in 525 (by decide +kernel)))
  · exact Or.inr (hs _ (az_in 459 (by decide +kernel)))
  · exact Or.inr (hs _ (az_in 524 (by decide +kernel)))
  · exact Or.inr (hs _ (az_in 525 (by decide +kernel)))
set_option maxRecDepth 100000 in
theorem az_nc (hs : ∀ c ∈ flatC (Jvm.Cond.and given_1 narrow_1), c.before #[Value.ref b] s = true) : ∀ E1 E2 : Nat, E1 < 3 → E2 < 3 → E1 ≠ E2 → va_Nc (ab_en E1) (ab_en E2) s := by
  intro i j hi hj hij
  rcases az_six hi hj hij with ⟨rfl, rfl⟩ | ⟨rfl, rfl⟩ | ⟨rfl, rfl⟩ | ⟨rfl, rfl⟩ | ⟨rfl, rfl⟩ | ⟨rfl, rfl⟩
  · exact va_Nc.of (hs _ (az_in 242 (by decide +kernel)))
  · exact va_Nc.of (hs _ (az_in 277 (by decide +kernel)))
  · exact va_Nc.of (hs _ (az_in 274 (by decide +kernel)))
  · exact va_Nc.of (hs _ (az_in 257 (by decide +kernel)))
  · exact va_Nc.of (hs _ (az_in 260 (by decide +kernel)))
  · exact va_Nc.of (hs _ (az_in 243 (by decide +kernel)))
set_option maxRecDepth 100000 in
theorem az_ms (hs : ∀ c ∈ flatC (Jvm.Cond.and given_1 narrow_1), c.before #[Value.ref b] s = true) (hts : ∀ w ∈ lw_tbl, w.before #[Value.ref b] s = true) : ∀ q ∈ ab_msg, ∃ a, vk_R q.1 q.2.1 q.2.2 a s := by
  have key : ∀ {own tx : String} {k : Nat}, (Cond.exactly (.string own k) "java/lang/String").before #[Value.ref b] s = true → (Cond.stringRef own k tx).before #[Value.ref b] s = true → ∃ a, vk_R own k tx a s := fun h1 h2 => by
    obtain ⟨a, c, cell, k, g1, -⟩ := Cond.exactly_spec h1
    exact ⟨a, vk_R.of h2 g1⟩
  intro q hq
  rcases List.mem_cons.mp hq with rfl | hq
  · exact key (hs _ (az_in 551 (by decide +kernel))) (hts _ (az_t 1344 (by decide +kernel)))
  rcases List.mem_cons.mp hq with rfl | hq
  · exact key (hs _ (az_in 526 (by decide +kernel))) (hts _ (az_t 1325 (by decide +kernel)))
  rcases List.mem_cons.mp hq with rfl | hq
  · exact key (hs _ (az_in 326 (by decide +kernel))) (hts _ (az_t 995 (by decide +kernel)))
  rcases List.mem_cons.mp hq with rfl | hq
  · exact key (hs _ (az_in 578 (by decide +kernel))) (hts _ (az_t 1501 (by decide +kernel)))
  cases hq
set_option maxRecDepth 100000 in
/-- the static things, as the statement has them -/
theorem az_Z {L : Nat} {xs : Nat → Int32} (hts : ∀ w ∈ lw_tbl, w.before #[Value.ref b] s = true) (hX : va_X b L xs s s.heap) (hbl : b < s.heap.size) (hgv : (Jvm.Cond.and given_1 narrow_1).before #[Value.ref b] s = true) :
    ∃ sa : Nat → Nat, sa 0 = b ∧ ab_Zs (ab_A s.heap.size) sa (L, xs) s s.heap := by
  have hs := flat_of_before _ hgv
  obtain ⟨w, hw, hT⟩ := va_Tof (tm := .static RX5 "WITHOUT" "[I") (ty := .int) (N := 7) (f := fun j => .int (ab_wo j)) (A := ab_A s.heap.size) (by decide) (hs _ (az_in 5 (by decide +kernel))) (va_eqt (z := Int32.ofNat 7) (hs _ (az_in 6 (by decide +kernel)))) (fun j hj => va_eqt (hs _ (az_in _ (decide_eq_true (az_wo j hj))))) az_fA
  obtain ⟨adK, adV, hS, hK⟩ := az_tx hs
  have e0 : az_sa b w adK adV 0 = b := rfl
  have e1 : az_sa b w adK adV 1 = w := rfl
  have e2 : (fun t => az_sa b w adK adV (2 + 2 * t)) = adK := funext fun t => az_saK
  have e3 : (fun t => az_sa b w adK adV (3 + 2 * t)) = adV := funext fun t => az_saV
  have hst : (Cond.initialized RX5).before #[Value.ref b] s = true := hts _ (az_t 4 (by decide +kernel))
  have hth : (Cond.initialized Bundle.tN).before #[Value.ref b] s = true := hts _ (az_t 15 (by decide +kernel))
  refine ⟨az_sa b w adK adV, rfl, fun w hw => va_Nw.of (az_on (ab_N_isN hw)) (hts w (List.mem_filter.mp hw).1), ⟨by rw [e0]; exact hX, by rw [e0]; exact hbl, by rw [e0]; exact az_fA b hbl⟩, ?_, ⟨?_, by rw [e1]; exact hT⟩, by rw [e2, e3]; exact hS, ?_, az_ms hs hts, ⟨?_, ?_⟩, ?_, az_nc hs, ?_, ?_⟩
  · exact va_Zof (hts _ (az_t 637 (by decide +kernel))) (hts _ (az_t 20 (by decide +kernel))) (va_eqi (hs _ (az_in 16 (by decide +kernel)))) az_fA
  · rw [e1]
    exact va_Zof (hts _ (az_t 126 (by decide +kernel))) hst hw az_fA
  · intro q hq
    rcases List.mem_cons.mp hq with rfl | hq
    · refine vk_R.of (A := #[Value.ref b]) (hts _ (az_t 1022 (by decide +kernel))) ?_
      rw [az_saK]
      exact hK 0 (by decide)
    rcases List.mem_cons.mp hq with rfl | hq
    · refine vk_R.of (A := #[Value.ref b]) (hts _ (az_t 1155 (by decide +kernel))) ?_
      rw [az_saK]
      exact hK 1 (by decide)
    rcases List.mem_cons.mp hq with rfl | hq
    · refine vk_R.of (A := #[Value.ref b]) (hts _ (az_t 1184 (by decide +kernel))) ?_
      rw [az_saK]
      exact hK 2 (by decide)
    cases hq
  · exact vx_Zqof (hts _ (az_t 613 (by decide +kernel))) hth (hs _ (az_in 14 (by decide +kernel))) az_fA
  · exact vx_Zqof (hts _ (az_t 615 (by decide +kernel))) hth (hs _ (az_in 15 (by decide +kernel))) az_fA
  · exact va_AO.of (hts _ (az_t 367 (by decide +kernel)))
  · rcases va_Zqof (A := ab_A s.heap.size) (hts (Cond.laysStatic "jdk/internal/util/Preconditions" "SIOOBE_FORMATTER" "Ljava/util/function/BiFunction;") (az_t 717 (by decide +kernel))) (hts _ (az_t 22 (by decide +kernel))) (hs _ (az_in 17 (by decide +kernel))) az_fA with h | ⟨t, h⟩
    · exact ⟨.null, Or.inl rfl, h⟩
    · exact ⟨.ref t, Or.inr ⟨t, rfl⟩, h⟩
  · exact az_ga (hts _ (az_t 118 (by decide +kernel))) (hts _ (az_t 1715 (by decide +kernel)))
end AZ
