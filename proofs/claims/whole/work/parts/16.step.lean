/-! every step is one of the real machine -/
section AB6
variable {p : Program} {l : Launch} {e : Env} {R : Room} {s : State} {m : MethodId} {args : Array Value} {below : List Frame} {meth : Method} {c : Code} {H : Heap} {locs : List Loc} {cells slots : Nat} {Q : State → Prop}
variable {cc : ByteArray} {pc len : Nat} {r : List Nat} {ls : Array Slot} {D : va_G} {cy : Nat → ClassId} {h0 nL : Nat} {ad sa : Nat → Nat} {xs : Nat × (Nat → Int32)} {loc loc' st st' : List ab_V} {M M' : ab_M} {vc : Prop} {y : MethodName}
theorem ab_nnI (z : Int32) (h : ¬ z < 0) : z.toInt = (z.toNatClampNeg : Int) := by
  have h1 : (0 : Int) ≤ z.toInt := by
    have h2 := Int32.le_iff_toInt_le.mp (Int32.not_lt.mp h)
    simpa using h2
  show z.toInt = ((z.toInt.toNat : Nat) : Int)
  omega
/-- copying out of the static row: by the library's copying -/
theorem ab_cpw (hexec : p.tables.exec = Jvm.exec) (hb : c.code = cc) (hml : c.maxLocals = ls.size) {own : String} {index : Nat} (hown : s.vm.findClass own = some m.cls) (hlink : (Cond.methodLink own index arraycopyName).before args s = true) (hnat : (Cond.native arraycopyName).before args s = true) (hstat : (Cond.static arraycopyName).before args s = true) (hini : (Cond.initialized "java/lang/System").before args s = true)
    {cl : List vw_C} {tys : List (ClassId × FieldType)} {ws : va_W} {A : Nat → Prop} {a : Nat} (hK : va_K D cl tys s) (hP : va_P D cl ws H) (hD : va_D A ws) (hS : va_S A s.heap H locs) {b0 n0 : Nat} {f : Nat → Int32} (hX : va_T .int b0 n0 (fun j => .int (f j)) A s s.heap) (q1 t1 : Nat) {c1 : ClassId} {n1 : Nat} {g : Nat → Int32} (ha1 : ws[q1]? = some (a, .inl (c1, n1, .inl g))) (ht1 : tys[t1]? = some (c1, .int))
    {sp dp n : Int32} (h1 : ¬ sp < 0) (h2 : ¬ dp < 0) (h3 : ¬ n < 0) (h4 : sp.toNatClampNeg + n.toNatClampNeg ≤ n0) (h5 : dp.toNatClampNeg + n.toNatClampNeg ≤ n1)
    (hframes : 1 ≤ R.frames) (hlocals : 0 + (nativeFrameWords "java/lang/System" "arraycopy" 5 + 11) ≤ R.locals) (hdg : decode cc pc = .ok (.invokestatic index, 3))
    (kk : ∀ (H1 : Heap) (locs1 : List Loc), va_P D cl (ws.set q1 (a, .inl (c1, n1, .inl (va_cpy f g sp.toNatClampNeg dp.toNatClampNeg n.toNatClampNeg)))) H1 → va_D A (ws.set q1 (a, .inl (c1, n1, .inl (va_cpy f g sp.toNatClampNeg dp.toNatClampNeg n.toNatClampNeg)))) → va_S A s.heap H1 locs1 → W p l e R s m args below meth c H1 locs1 cells slots Q (F0 m (pc + 3) ls [])) : W p l e R s m args below meth c H locs cells slots Q (F0 m pc ls [.int n, .int dp, .ref a, .int sp, .ref b0]) := by
  intro T hT X
  obtain ⟨src, hs1, hs2, hs3, hs4, -, hs5, hs7⟩ := hX
  obtain ⟨hs6, k0, hk0, cm0, hkk0⟩ := hs2
  obtain ⟨-, k1, hk1, cm1, hkk1⟩ := (hK.2 t1 _ ht1).1 n1 (fun j => .int (g j))
  have hc0 : H[b0]? = some src := (hS.2.1 b0 (Array.getElem?_eq_some_iff.mp hs1).1 hs7).trans hs1
  have hc1 : H[a]? = some (vp_cell c1 (n1, .inl g)) := hP q1 _ ha1
  generalize hnew : vp_cell c1 (n1, .inl (va_cpy f g sp.toNatClampNeg dp.toNatClampNeg n.toNatClampNeg)) = new
  have e1 : copied src (vp_cell c1 (n1, .inl g)) sp dp n = new := by
    rw [← hnew]
    exact va_copiedX (fun z => .int z) src c1 f g hs5 h4
  have hsz1 : dp.toInt + n.toInt ≤ ((vp_cell c1 (n1, .inl g)).slots.size : Int) := by
    rw [ab_nnI dp h2, ab_nnI n h3]
    show _ ≤ ((arrV c1 n1 (fun j => .int (g j))).slots.size : Int)
    rw [arrV_size]
    omega
  have hsz0 : sp.toInt + n.toInt ≤ (src.slots.size : Int) := by
    rw [ab_nnI sp h1, ab_nnI n h3]
    omega
  have hel : ∀ (i : Nat), i < n.toNatClampNeg → src.slots.getD (sp.toNatClampNeg + i) .null = .int (f (sp.toNatClampNeg + i)) := fun i hi => by
    rw [Array.getD_eq_getD_getElem?, hs5 _ (by omega)]
    rfl
  obtain ⟨vm', X', step⟩ := X.arraycopy hexec hown hlink hnat hstat hini (src := b0) (dst := a) (cs := src) (cd := vp_cell c1 (n1, .inl g)) (srcPos := sp) (destPos := dp) (n := n) (by rw [hT]; exact hc0) (by rw [hT]; exact hc1)
    hs6 (fun _ h => by cases h) hs3 (fun h => by cases h) hk0 hk1 hkk0 hkk1 (by simp [refKind]) h1 h2 h3 (by omega) (by omega)
    (fun vm₁ hw i hi => by
      rw [hel i hi]
      exact ⟨rfl, trivial⟩)
    (g := F0 m pc ls [.int n, .int dp, .ref a, .int sp, .ref b0]) rfl (by rw [hml]) (rest := []) rfl (by rw [hb]; exact hdg) hframes (by show 2 * 0 + 0 + _ ≤ _; omega)
  rw [e1] at X' step
  have hl : a < H.size := (Array.getElem?_eq_some_iff.mp hc1).1
  have oq : ∀ q : Nat, q ≠ a → (H.setIfInBounds a new)[q]? = H[q]? := fun q hq => by simp [Array.getElem?_setIfInBounds, Ne.symm hq]
  have hA1 : A a := hD.2 q1 _ ha1
  have hself : (H.setIfInBounds a new)[a]? = some (vp_cell c1 (n1, .inl (va_cpy f g sp.toNatClampNeg dp.toNatClampNeg n.toNatClampNeg))) := by rw [hnew]; simp [hl]
  have hS1 : ∀ L : List Loc, (∀ q ∈ L, q.base = a) → va_S A s.heap (H.setIfInBounds a new) (locs ++ L) := fun L hL => ⟨by simpa using hS.1, fun q g1 g2 => (oq q (fun e => g2 (e ▸ hA1))).trans (hS.2.1 q g1 g2), fun q hq => (List.mem_append.mp hq).elim (hS.2.2 q) (fun h => by rw [hL q h]; exact hA1)⟩
  obtain ⟨t, a1, b1⟩ := kk _ _ (hP.set hD ha1 hself oq) (hD.set ha1) (hS1 _ (fun q hq => by
    obtain ⟨z, -, hz⟩ := List.mem_map.mp hq
    rw [← hz])) ((T.setVm vm').setCell a new) (by rw [← hT]; rfl) X'
  exact ⟨t, step t a1, b1⟩
theorem ab_szsum {N : ab_M} : ∀ (st : List ab_V), (∀ v ∈ st, ab_ok N v) → ((st.map (ab_cv ad sa)).map fun v => v.category).sum ≤ ab_szs st := by
  intro st
  induction st with
  | nil => intro _; exact Nat.le_refl _
  | cons a st ih =>
    intro ho
    have h1 := ih (fun v hv => ho v (List.mem_cons_of_mem _ hv))
    have h2 : (ab_cv ad sa a).category ≤ ab_sz a := by
      rcases lv_cat (ab_cv ad sa a) with h | h
      · rw [h]
        unfold ab_sz
        split <;> omega
      · obtain ⟨x, rfl⟩ := ab_cat (ho a List.mem_cons_self) h
        exact Nat.le_refl _
    exact Nat.add_le_add h2 h1
/-- Math.min, Math.max: the library's contracts -/
theorem ab_minW {b a : Int32} {rest : List Value} {own : String} {index : Nat} (hexec : p.tables.exec = Jvm.exec) (hd : decode c.code pc = .ok (.invokestatic index, 3)) (hml : c.maxLocals = ls.size) (hown : s.vm.findClass own = some m.cls)
    (hlink : (Cond.methodLink own index Lib.Math.min.name).before args s = true) (hstat : (Cond.static Lib.Math.min.name).before args s = true) (hini : (Cond.initialized "java/lang/Math").before args s = true) (hcode : (Cond.code Lib.Math.min.name Lib.Math.min.code 2 (some .int)).before args s = true)
    (hf : 1 ≤ R.frames) (hl : 2 * 0 + (rest.map fun v => v.category).sum + 13 ≤ R.locals) (hc : cells ≤ R.cells) (hsl : slots ≤ R.slots)
    (k : W p l e R s m args below meth c H locs cells slots Q (F0 m (pc + 3) ls (.int (ab_mn a b) :: rest))) : W p l e R s m args below meth c H locs cells slots Q (F0 m pc ls (.int b :: .int a :: rest)) := by
  intro T hT X
  obtain ⟨vm', X', step⟩ := X.mathMinV hexec hown hlink hstat hini hcode (g := F0 m pc ls (.int b :: .int a :: rest)) rfl (by rw [hml]) rfl hd hf hl hc hsl
  obtain ⟨t, a1, b1⟩ := k (T.setVm vm') hT X'
  exact ⟨t, step t a1, b1⟩
theorem ab_maxW {b a : Int32} {rest : List Value} {own : String} {index : Nat} (hexec : p.tables.exec = Jvm.exec) (hd : decode c.code pc = .ok (.invokestatic index, 3)) (hml : c.maxLocals = ls.size) (hown : s.vm.findClass own = some m.cls)
    (hlink : (Cond.methodLink own index Lib.Math.max.name).before args s = true) (hstat : (Cond.static Lib.Math.max.name).before args s = true) (hini : (Cond.initialized "java/lang/Math").before args s = true) (hcode : (Cond.code Lib.Math.max.name Lib.Math.max.code 2 (some .int)).before args s = true)
    (hf : 1 ≤ R.frames) (hl : 2 * 0 + (rest.map fun v => v.category).sum + 13 ≤ R.locals) (hc : cells ≤ R.cells) (hsl : slots ≤ R.slots)
    (k : W p l e R s m args below meth c H locs cells slots Q (F0 m (pc + 3) ls (.int (ab_mx a b) :: rest))) : W p l e R s m args below meth c H locs cells slots Q (F0 m pc ls (.int b :: .int a :: rest)) := by
  intro T hT X
  obtain ⟨v, vm', X', ⟨first, t0, hpost⟩, step⟩ := X.staticByContractV hexec hown hlink hstat hini hcode (by decide)
    (Meets.loose_of_no_refs (Lib.Math.max.meets l) fun args' s' h => by
      simp only [Lib.Math.max.spec, Cond.before_and, Bool.and_eq_true] at h
      obtain ⟨x, y, rfl⟩ := Cond.two_ints h.2.1 h.2.2.1 h.2.2.2
      intro r hr; simp at hr)
    rfl rfl rfl rfl
    (fun args' first o s₂ h => by
      simp only [Lib.Math.max.spec, Cond.after_and, Bool.and_eq_true] at h
      cases o with
      | returned r => exact ⟨r, rfl⟩
      | threw y => simp [Cond.after, Cond.holds, Cond.value] at h)
    (g := F0 m pc ls (.int b :: .int a :: rest)) rfl (by rw [hml]) (argsL := [.int a, .int b]) (rest := rest)
    (fun sig hs => by
      have h : parseMethodDescriptor "(II)I" = some { parameters := [.int, .int], returnType := some .int } := by decide +kernel
      rw [show Lib.Math.max.name.desc = "(II)I" from rfl, h] at hs
      rw [← Option.some.inj hs]; rfl)
    rfl hd
    (fun vm' hW => by
      simp only [Lib.Math.max.spec, Cond.before_and, Bool.and_eq_true]
      refine ⟨?_, rfl, rfl, rfl⟩
      have q := hcode
      rw [← Cond.code_setVm hW.alike] at q
      simp only [Cond.before, Cond.holds, Cond.value, State.methodNamed?, State.vm_setVm] at q ⊢
      exact q)
    (by show 0 + 1 ≤ R.frames; omega) (by show 2 * 0 + (rest.map fun v => v.category).sum + (2 + 11) + 0 ≤ R.locals; omega) (by show cells + 0 ≤ R.cells; omega) (by show slots + 0 ≤ R.slots; omega)
  have hv : v = some (.int (ab_mx a b)) := by
    unfold ab_mx
    by_cases h1 : a < b
    · rw [if_pos h1]
      rcases v with _ | w
      · simp [Lib.Math.max.spec, Cond.after, Cond.holds, Cond.value, Term.eval, h1] at hpost
      · cases w <;> simp [Lib.Math.max.spec, Cond.after, Cond.holds, Cond.value, Term.eval, h1] at hpost
        rename_i r
        by_cases hr : r = b <;> simp [hr] at hpost ⊢
    · rw [if_neg h1]
      rcases v with _ | w
      · simp [Lib.Math.max.spec, Cond.after, Cond.holds, Cond.value, Term.eval, h1] at hpost
      · cases w <;> simp [Lib.Math.max.spec, Cond.after, Cond.holds, Cond.value, Term.eval, h1] at hpost
        rename_i r
        by_cases hr : r = a <;> simp [hr] at hpost ⊢
  subst hv
  obtain ⟨t, a1, b1⟩ := k (T.setVm vm') hT X'
  exact ⟨t, step t a1, b1⟩
theorem ab_s_ivs {i : Nat} (C : ab_Cx l p D cy h0 sa xs y cc nL s m args meth c) (hd : decode cc pc = .ok (.invokestatic i, len)) (hr : ab_rk y (.invokestatic i) len r = true) (hs : ab_step xs (.invokestatic i) r loc st M = some (vc, loc', st', M')) (hv : vc)
    (hR : 2 ≤ R.frames ∧ 100 ≤ R.locals) (hrc : cells + M'.2.2.2.2.2.1 ≤ R.cells + M.2.2.2.2.2.1) (hrs : slots + M'.2.2.2.2.2.2 ≤ R.slots + M.2.2.2.2.2.2)
    (F : ab_Fr D cy h0 ad sa M s H locs ls nL loc st) (k : ab_K D cy h0 sa nL p l e R s m args below meth c Q ad cells slots M (pc + len) loc' st' M') : W p l e R s m args below meth c H locs cells slots Q (F0 m pc ls (st.map (ab_cv ad sa))) := by
  have hlen := ab_rk_len hr
  obtain ⟨hx, hb, hml, hown, hG, hK, hh0, hnm, hlk, hst, hZ⟩ := id C
  simp only [ab_ln] at hlen
  subst hlen
  unfold ab_rk at hr
  have hl := ab_rk2 hr
  dsimp only at hl
  have hw : nativeFrameWords "java/lang/System" "arraycopy" 5 = 7 := by decide +kernel
  split at hl
  · obtain ⟨hl, h4⟩ := Bool.and_eq_true_iff.mp hl
    obtain ⟨hl, h3⟩ := Bool.and_eq_true_iff.mp hl
    obtain ⟨h1, h2⟩ := Bool.and_eq_true_iff.mp hl
    simp only [ab_step] at hs
    have hml2 : c.maxLocals = ls.size := hml.trans F.2.1.1.symm
    change ab_mi ab_mn loc st M = some (vc, loc', st', M') at hs
    unfold ab_mi at hs
    split at hs
    · rename_i b a rest
      cases hs
      have hc := ab_szsum (ad := ad) (sa := sa) rest (ab_okt (ab_okt F.2.2.2))
      refine ab_minW hx (hb ▸ hd) hml2 hown (hG _ (ab_w_G h1 rfl)) (hG _ (ab_w_G h2 rfl)) (hG _ (ab_w_G h3 rfl)) (hG _ (ab_w_G h4 rfl)) (Nat.le_of_succ_le hR.1) (by have := hR.2; show 2 * 0 + _ + 13 ≤ _; omega) (by omega) (by omega) (k.pure (st' := .inl (.int _) :: rest) (F.stk (ab_okc trivial (ab_okt (ab_okt F.2.2.2)))))
    · cases hs
  · obtain ⟨hl, h4⟩ := Bool.and_eq_true_iff.mp hl
    obtain ⟨hl, h3⟩ := Bool.and_eq_true_iff.mp hl
    obtain ⟨h1, h2⟩ := Bool.and_eq_true_iff.mp hl
    simp only [ab_step] at hs
    have hml2 : c.maxLocals = ls.size := hml.trans F.2.1.1.symm
    change ab_mi ab_mx loc st M = some (vc, loc', st', M') at hs
    unfold ab_mi at hs
    split at hs
    · rename_i b a rest
      cases hs
      have hc := ab_szsum (ad := ad) (sa := sa) rest (ab_okt (ab_okt F.2.2.2))
      refine ab_maxW hx (hb ▸ hd) hml2 hown (hG _ (ab_w_G h1 rfl)) (hG _ (ab_w_G h2 rfl)) (hG _ (ab_w_G h3 rfl)) (hG _ (ab_w_G h4 rfl)) (Nat.le_of_succ_le hR.1) (by have := hR.2; show 2 * 0 + _ + 13 ≤ _; omega) (by omega) (by omega) (k.pure (st' := .inl (.int _) :: rest) (F.stk (ab_okc trivial (ab_okt (ab_okt F.2.2.2)))))
    · cases hs
  · obtain ⟨hl, h4⟩ := Bool.and_eq_true_iff.mp hl
    obtain ⟨hl, h3⟩ := Bool.and_eq_true_iff.mp hl
    obtain ⟨h1, h2⟩ := Bool.and_eq_true_iff.mp hl
    simp only [ab_step] at hs
    have hml2 : c.maxLocals = ls.size := hml.trans F.2.1.1.symm
    change ab_ck loc st M = some (vc, loc', st', M') at hs
    unfold ab_ck at hs
    split at hs
    · rename_i n j rest9
      cases hs
      obtain ⟨⟨v1, v2⟩, v3⟩ := hv
      have hcs := ab_szsum (ad := ad) (sa := sa) st' (ab_okt (ab_okt F.2.2.2))
      obtain ⟨⟨vq, hvq, hzq⟩, -⟩ := hZ.2.2.2.2.2.2.2.2.2.2
      have hcw : CallB R s args y.cls i ySc bSc 2 none wSc ({ frames := 1, cells := 0, slots := 0, locals := 22 } : Room) 0 0 2 ∧ (Cond.static ySc).before args s = true := by
        refine ⟨⟨rfl, rfl, hR.1, by have := hR.2; show 8 + (2 + 11) + 22 ≤ _; omega, pay_in hG (fun w hw => ⟨wSc_in w hw, ab_G_good (wSc_in w hw)⟩), List.mem_cons_self, hG _ (ab_w_G h4 rfl), hG _ (ab_w_G h3 rfl), ⟨by decide, by decide⟩, fun sig hsig => ?_, hG _ (ab_w_G h1 rfl)⟩, hG _ (ab_w_G h2 rfl)⟩
        have h9 : (parseMethodDescriptor ySc.desc).map (fun d => d.parameters.length) = some 2 := by decide +kernel
        rw [hsig] at h9
        exact (Option.some.inj h9).symm
      have hSz : h0 ≤ H.size := Nat.le_trans hh0 F.1.2.2.1.1
      have hkz := (ab_Zs.kept F.1.2.2.1.1 F.1.2.2.1.2.1 hZ)
      obtain ⟨⟨vr, hvr, hzr⟩, -⟩ := hkz.2.2.2.2.2.2.2.2.2.2
      refine va_callv (A0 := ab_A h0) (A1 := va_A [] H.size) (va_runS (As := [.int j, .int n]) (rest := st'.map (ab_cv ad sa)) (Ts := ab_G) ⟨hx, hb, hml, hown, hG⟩ (ab_scM l j n vr hvr v1 v2 (ab_A h0) H.size (fun q hq => Nat.le_trans hSz hq)) hcw ⟨fun a U g mk q => ⟨q.1, q.2.1, va_Z.moved (u := U) (U := U.calling g mk a) (Vm.Alike.refl U.vm) q.2.2⟩, fun U hU hW => ⟨rfl, by rw [hU], by rw [hU]; exact va_Z.moved hW.alike hzr⟩⟩ rfl rfl F.2.1.1 rfl (by show 2 * 0 + _ ≤ 8; omega) hd ⟨by omega, by omega⟩) F.1.2.2.1 (fun q _ h => ?_) (fun q h => ?_) (fun u t H1 locs1 ht hvm hw hB hz1 hk1 hS => ?_)
      · rcases h with ⟨k9, e9, h9⟩ | h9
        · cases h9
        · exact Nat.le_trans hSz h9
      · rcases h with ⟨k9, e9, h9⟩ | h9
        · cases h9
        · exact Nat.le_trans hSz h9
      · have hold : ∀ q : Nat, q < H.size → H1[q]? = H[q]? := fun q hq => hk1 q hq (fun h => by
          rcases h with ⟨k9, e9, h9⟩ | h9
          · cases h9
          · exact absurd hq (Nat.not_lt.mpr h9))
        exact k H1 locs1 ad ls cells slots ab_Ext.rf rfl rfl ⟨⟨F.1.1.kept (fun kk q hq => hold q.1 ((F.1.1 kk q hq).lt)), F.1.2.1, hS, F.1.2.2.2⟩, F.2.1, F.2.2.1, ab_okt (ab_okt F.2.2.2)⟩
    · cases hs
  · obtain ⟨hl, h4⟩ := Bool.and_eq_true_iff.mp hl
    obtain ⟨hl, h3⟩ := Bool.and_eq_true_iff.mp hl
    obtain ⟨h1, h2⟩ := Bool.and_eq_true_iff.mp hl
    simp only [ab_step] at hs
    change ab_cpy loc st M = some (vc, loc', st', M') at hs
    have hml2 : c.maxLocals = ls.size := hml.trans F.2.1.1.symm
    unfold ab_cpy at hs
    split at hs
    · rename_i n dp n1 mm1 d sp n0 mm0 a
      cases hs
      obtain ⟨v1, v2, v3, v4, v5⟩ := hv
      have hod := ab_okh (ab_okt (ab_okt F.2.2.2)) (show 20 < 30 by decide)
      have hoa := ab_okh (ab_okt (ab_okt (ab_okt (ab_okt F.2.2.2)))) (show 20 < 30 by decide)
      simp only [List.map_cons, List.map_nil, ab_cv_p (show 20 < 30 by decide)]
      refine va_copyi hx hb hml2 hown (hG _ (ab_w_G h1 rfl)) (hG _ (ab_w_G h2 rfl)) (hG _ (ab_w_G h3 rfl)) (hG _ (ab_w_G h4 rfl)) hK F.1.1 F.1.2.1 F.1.2.2.1 a d 0 0 (ty := .int) (by rw [ab_pool_at hoa.1, ab_ent_a hoa.2 (by decide) (by decide) (by decide)]) (by rw [ab_pool_at hod.1, ab_ent_a hod.2 (by decide) (by decide) (by decide)]) rfl rfl rfl v1 v2 v3 v4 v5 (fun _ _ => rfl) (Nat.le_of_succ_le hR.1) (by rw [hw]; show 0 + _ ≤ _; omega) hd (fun H1 locs1 p1 p2 p3 => ?_)
      exact ab_wr (M := M) (M' := (ab_rowI M.1 d (va_cpy (M.1 a) (M.1 d) sp.toNatClampNeg dp.toNatClampNeg n.toNatClampNeg), M.2)) (st' := []) rfl (by rw [ab_ent_a (M := (ab_rowI M.1 d (va_cpy (M.1 a) (M.1 d) sp.toNatClampNeg dp.toNatClampNeg n.toNatClampNeg), M.2)) hod.2 (by decide) (by decide) (by decide)]; simp [ab_rowI]) (fun j hj => ab_ent_ne (by simp [ab_rowI, hj]) rfl rfl rfl) F (fun v h => by cases h) k H1 locs1 p1 p2 p3
    · rename_i n dp n1 mm1 d sp mm0
      cases hs
      obtain ⟨v1, v2, v3, v4, v5⟩ := hv
      have hod := ab_okh (ab_okt (ab_okt F.2.2.2)) (show 20 < 30 by decide)
      simp only [List.map_cons, List.map_nil, ab_cv_p (show 20 < 30 by decide)]
      refine ab_cpw hx hb hml2 hown (hG _ (ab_w_G h1 rfl)) (hG _ (ab_w_G h2 rfl)) (hG _ (ab_w_G h3 rfl)) (hG _ (ab_w_G h4 rfl)) hK F.1.1 F.1.2.1 F.1.2.2.1 hZ.2.2.2.1.2 d 0 (by rw [ab_pool_at hod.1, ab_ent_a hod.2 (by decide) (by decide) (by decide)]) rfl v1 v2 v3 v4 v5 (Nat.le_of_succ_le hR.1) (by rw [hw]; omega) hd (fun H1 locs1 p1 p2 p3 => ?_)
      exact ab_wr (M := M) (M' := (ab_rowI M.1 d (va_cpy ab_wo (M.1 d) sp.toNatClampNeg dp.toNatClampNeg n.toNatClampNeg), M.2)) (st' := []) rfl (by rw [ab_ent_a (M := (ab_rowI M.1 d (va_cpy ab_wo (M.1 d) sp.toNatClampNeg dp.toNatClampNeg n.toNatClampNeg), M.2)) hod.2 (by decide) (by decide) (by decide)]; simp [ab_rowI]) (fun j hj => ab_ent_ne (by simp [ab_rowI, hj]) rfl rfl rfl) F (fun v h => by cases h) k H1 locs1 p1 p2 p3
    · cases hs
  · cases hl
def ab_adg (ad : Nat → Nat) (n h : Nat) : Nat → Nat := fun i => if i < n then ad i else h + (i - n)
/-- going on behind n rows and the row of them, at the end of the heap -/
theorem ab_gdk {n mm pc' : Nat} {rest : List ab_V} {H1 : Heap} {L : List Loc} (F : ab_Fr D cy h0 ad sa M s H locs ls nL loc st) (hh0 : h0 ≤ s.heap.size) (z1 : H1.size = H.size + 1 + n) (o1 : ∀ q : Nat, q < H.size → H1[q]? = H[q]?) (e1 : H1[H.size]? = some (gd_out (cy 24) n H.size n)) (e2 : ∀ j, j < n → H1[H.size + 1 + j]? = some (gd_in (cy 20) mm)) (hL : ∀ q ∈ L, q.base = H.size) (hst : ∀ v ∈ rest, v ∈ st)
    (k : ab_K D cy h0 sa nL p l e R s m args below meth c Q ad cells slots M pc' loc (.inr (24, n, mm, M.2.2.2.2.1) :: rest) (ab_grid M n mm)) : W p l e R s m args below meth c H1 (locs ++ L) (cells + 1 + n) (slots + n + n * mm) Q (F0 m pc' ls (.ref H.size :: rest.map (ab_cv ad sa))) := by
  obtain ⟨hP, hD, hS, hWF⟩ := F.1
  have hSz : h0 ≤ H.size := Nat.le_trans hh0 hS.1
  have hx : ab_Ext M.2.2.2.2.1 ad (ab_adg ad M.2.2.2.2.1 H.size) := fun i hi => by unfold ab_adg; rw [if_pos hi]
  have h00 : ab_adg ad M.2.2.2.2.1 H.size M.2.2.2.2.1 = H.size := by unfold ab_adg; rw [if_neg (Nat.lt_irrefl _)]; omega
  have hent : ∀ i, i < M.2.2.2.2.1 → ab_ent cy (ab_adg ad M.2.2.2.2.1 H.size) sa (ab_grid M n mm) i = ab_ent cy ad sa M i := fun i hi => by
    rw [← ab_ent_ext hx hWF hi]
    refine ab_ent_ne ?_ ?_ ?_ ?_
    · show (if M.2.2.2.2.1 ≤ i then _ else _) = _
      rw [if_neg (by omega)]
    · show (if M.2.2.2.2.1 ≤ i then _ else _) = _
      rw [if_neg (by omega)]
    · funext j
      show (if _ ∧ _ then _ else if _ ∧ _ then _ else _) = _
      rw [if_neg (by omega), if_neg (by omega)]
    · show (if _ then _ else if _ then _ else _) = _
      rw [if_neg (by omega), if_neg (by omega)]
  have hpool : ∀ i, i < M.2.2.2.2.1 + 1 + n → (ab_pool cy (ab_adg ad M.2.2.2.2.1 H.size) sa (ab_grid M n mm))[i]? = some (ab_adg ad M.2.2.2.2.1 H.size i, ab_ent cy (ab_adg ad M.2.2.2.2.1 H.size) sa (ab_grid M n mm) i) := fun i hi => ab_pool_at hi
  have hlen : ∀ (i : Nat) (q : Nat × va_E), (ab_pool cy (ab_adg ad M.2.2.2.2.1 H.size) sa (ab_grid M n mm))[i]? = some q → i < M.2.2.2.2.1 + 1 + n := fun i q h => by
    have h9 := (List.getElem?_eq_some_iff.mp h).1
    rw [ab_pool_len] at h9
    exact h9
  have hadl : ∀ i, i < M.2.2.2.2.1 → ad i < H.size := fun i hi => (hP i _ (ab_pool_at hi)).lt
  have hr24 : ∀ j, (ab_grid M n mm).2.2.1 24 M.2.2.2.2.1 j = if j < n then .inr (20, mm, 0, M.2.2.2.2.1 + 1 + j) else ab_nul := fun j => by
    show (if (24 : Nat) = 24 ∧ M.2.2.2.2.1 = M.2.2.2.2.1 then _ else _) = _
    rw [if_pos (show (24 : Nat) = 24 ∧ M.2.2.2.2.1 = M.2.2.2.2.1 from ⟨rfl, rfl⟩)]
  have hwf : ab_WF (ab_grid M n mm) := by
    intro id hid
    have hid : id < M.2.2.2.2.1 + 1 + n := hid
    by_cases c1 : id = M.2.2.2.2.1
    · subst c1
      have hs9 : (ab_grid M n mm).2.2.2.1 M.2.2.2.2.1 = (24, n, mm) := by simp [ab_grid]
      rw [hs9]
      refine ⟨fun j => ?_, Or.inr ⟨show 20 ≤ 24 from by decide, show 24 ≤ 25 from by decide⟩⟩
      show ab_rok _ ((ab_grid M n mm).2.2.1 24 M.2.2.2.2.1 j)
      rw [hr24 j]
      by_cases hj : j < n
      · rw [if_pos hj]
        refine Or.inr ⟨20, mm, 0, M.2.2.2.2.1 + 1 + j, rfl, by decide, by show _ < M.2.2.2.2.1 + 1 + n; omega, ?_⟩
        show (if _ then _ else if _ then _ else _) = _
        rw [if_neg (by omega), if_pos (by omega)]
      · rw [if_neg hj]
        exact Or.inl rfl
    · by_cases c2 : id < M.2.2.2.2.1
      · have hs9 : (ab_grid M n mm).2.2.2.1 id = M.2.2.2.1 id := by
          show (if _ then _ else if _ then _ else _) = _
          rw [if_neg (by omega), if_neg (by omega)]
        rw [hs9]
        refine ⟨fun j => ?_, (hWF id c2).2⟩
        show ab_rok _ (if _ ∧ _ then _ else if _ ∧ _ then _ else _)
        rw [if_neg (by omega), if_neg (by omega)]
        rcases (hWF id c2).1 j with h9 | ⟨k9, n9, m9, i9, h9, g1, g2, g3⟩
        · exact Or.inl h9
        · refine Or.inr ⟨k9, n9, m9, i9, h9, g1, by show _ < M.2.2.2.2.1 + 1 + n; omega, ?_⟩
          show (if _ then _ else if _ then _ else _) = _
          rw [if_neg (by omega), if_neg (by omega)]
          exact g3
      · have hs9 : (ab_grid M n mm).2.2.2.1 id = (20, mm, 0) := by
          show (if _ then _ else if _ then _ else _) = _
          rw [if_neg (by omega), if_pos (by omega)]
        rw [hs9]
        refine ⟨fun j => ?_, Or.inr ⟨show 20 ≤ 20 from by decide, show 20 ≤ 25 from by decide⟩⟩
        have e9 : (ab_grid M n mm).2.2.1 20 id j = ab_nul := by
          simp only [ab_grid]
          rw [if_neg (by omega), if_pos ⟨trivial, by omega⟩]
        show ab_rok _ ((ab_grid M n mm).2.2.1 20 id j)
        rw [e9]
        exact Or.inl rfl
  have hok : ∀ v, ab_ok M v → ab_ok (ab_grid M n mm) v := fun v hv => by
    cases v with
    | inl w => cases w <;> first | exact hv | trivial
    | inr q =>
      obtain ⟨k9, n9, m9, i9⟩ := q
      intro h30
      obtain ⟨g1, g2⟩ := hv h30
      refine ⟨by show _ < M.2.2.2.2.1 + 1 + n; omega, ?_⟩
      show (if _ then _ else if _ then _ else _) = _
      rw [if_neg (by omega), if_neg (by omega)]
      exact g2
  have hP1 : va_P D ab_cls (ab_pool cy (ab_adg ad M.2.2.2.2.1 H.size) sa (ab_grid M n mm)) H1 := by
    intro i q hq
    have hi := hlen i q hq
    rw [hpool i hi] at hq
    cases hq
    by_cases c1 : i < M.2.2.2.2.1
    · rw [hent i c1, hx i c1]
      have h9 := hP i _ (ab_pool_at c1)
      exact h9.kept (o1 _ h9.lt)
    · by_cases c2 : i = M.2.2.2.2.1
      · subst c2
        rw [h00, ab_ent_r (M := ab_grid M n mm) (k := 24) (n := n) (m := mm) (by simp [ab_grid]) (by decide)]
        show H1[H.size]? = some (vp_cell _ _)
        rw [vp_cell_q, e1]
        unfold gd_out
        congr 2
        funext j
        congr 1
        show _ = ab_el _ ((ab_grid M n mm).2.2.1 24 M.2.2.2.2.1 j)
        rw [hr24 j]
        by_cases hj : j < n
        · rw [if_pos hj, if_pos hj]
          show _ = some (ab_adg ad M.2.2.2.2.1 H.size (M.2.2.2.2.1 + 1 + j))
          unfold ab_adg
          rw [if_neg (by omega)]
          congr 1
          omega
        · rw [if_neg hj, if_neg hj]
          rfl
      · rw [ab_ent_a (M := ab_grid M n mm) (k := 20) (n := mm) (m := 0) (by show (if _ then _ else if _ then _ else _) = _; rw [if_neg (by omega), if_pos (by omega)]) (by decide) (by decide) (by decide)]
        obtain ⟨j, rfl⟩ : ∃ j, i = M.2.2.2.2.1 + 1 + j := ⟨i - (M.2.2.2.2.1 + 1), by omega⟩
        have h9 : ab_adg ad M.2.2.2.2.1 H.size (M.2.2.2.2.1 + 1 + j) = H.size + 1 + j := by
          unfold ab_adg
          rw [if_neg (by omega)]
          omega
        rw [h9]
        show H1[H.size + 1 + j]? = some (vp_cell _ _)
        rw [e2 j (by omega), vp_cell_i]
        unfold gd_in
        congr 2
        funext i9
        show Value.int 0 = .int ((if M.2.2.2.2.1 ≤ M.2.2.2.2.1 + 1 + j then (fun _ => (0 : Int32)) else M.1 _) i9)
        rw [if_pos (by omega)]
  have hD1 : va_D (ab_A h0) (ab_pool cy (ab_adg ad M.2.2.2.2.1 H.size) sa (ab_grid M n mm)) := by
    refine ⟨fun i j a b ha hb9 hab => ?_, fun i q hq => ?_⟩
    · have hi := hlen i a ha
      have hj := hlen j b hb9
      rw [hpool i hi] at ha
      rw [hpool j hj] at hb9
      cases ha
      cases hb9
      have hab : ab_adg ad M.2.2.2.2.1 H.size i = ab_adg ad M.2.2.2.2.1 H.size j := hab
      unfold ab_adg at hab
      by_cases c1 : i < M.2.2.2.2.1
      · have g1 := hadl i c1
        by_cases c2 : j < M.2.2.2.2.1
        · rw [if_pos c1, if_pos c2] at hab
          exact hD.1 i j _ _ (ab_pool_at c1) (ab_pool_at c2) hab
        · rw [if_pos c1, if_neg c2] at hab
          omega
      · by_cases c2 : j < M.2.2.2.2.1
        · have g1 := hadl j c2
          rw [if_neg c1, if_pos c2] at hab
          omega
        · rw [if_neg c1, if_neg c2] at hab
          omega
    · have hi := hlen i q hq
      rw [hpool i hi] at hq
      cases hq
      by_cases c1 : i < M.2.2.2.2.1
      · rw [hx i c1]
        exact hD.2 i (ad i, ab_ent cy ad sa M i) (ab_pool_at c1)
      · show h0 ≤ ab_adg ad M.2.2.2.2.1 H.size i
        unfold ab_adg
        rw [if_neg c1]
        omega
  have hS1 : va_S (ab_A h0) s.heap H1 (locs ++ L) := ⟨by have := hS.1; omega, fun q g1 g2 => (o1 q (Nat.lt_of_lt_of_le g1 hS.1)).trans (hS.2.1 q g1 g2), fun q hq => (List.mem_append.mp hq).elim (hS.2.2 q) (fun h => by rw [hL q h]; exact hSz)⟩
  have hk2 := k H1 (locs ++ L) (ab_adg ad M.2.2.2.2.1 H.size) ls (cells + 1 + n) (slots + n + n * mm) hx (by show _ = cells + (M.2.2.2.2.2.1 + 1 + n); omega) (by show _ = slots + (M.2.2.2.2.2.2 + n + n * mm); omega)
    ⟨⟨hP1, hD1, hS1, hwf⟩, ab_lh.ext hx F.2.2.1 F.2.1, fun v hv => hok v (F.2.2.1 v hv), ab_okc (fun _ => ⟨by show _ < M.2.2.2.2.1 + 1 + n; omega, by simp [ab_grid]⟩) (fun v hv => hok v (F.2.2.2 v (hst v hv)))⟩
  rw [List.map_cons, ab_cv_p (by decide), h00, ab_map_ext (M := M) hx (fun v hv => F.2.2.2 v (hst v hv))] at hk2
  exact hk2
theorem ab_s_grid {i d9 : Nat} (C : ab_Cx l p D cy h0 sa xs y cc nL s m args meth c) (hd : decode cc pc = .ok (.multianewarray i d9, len)) (hr : ab_rk y (.multianewarray i d9) len r = true) (hs : ab_step xs (.multianewarray i d9) r loc st M = some (vc, loc', st', M')) (hv : vc)
    (hrc : cells + M'.2.2.2.2.2.1 ≤ R.cells + M.2.2.2.2.2.1) (hrs : slots + M'.2.2.2.2.2.2 ≤ R.slots + M.2.2.2.2.2.2)
    (F : ab_Fr D cy h0 ad sa M s H locs ls nL loc st) (k : ab_K D cy h0 sa nL p l e R s m args below meth c Q ad cells slots M (pc + len) loc' st' M') : W p l e R s m args below meth c H locs cells slots Q (F0 m pc ls (st.map (ab_cv ad sa))) := by
  have hlen := ab_rk_len hr
  obtain ⟨hx, hb, hml, hown, hG, hK, hh0, hnm, hlk, hst, hZ⟩ := id C
  simp only [ab_ln] at hlen
  subst hlen
  unfold ab_rk at hr
  have hl := ab_rk2 hr
  dsimp only at hl
  rcases r with _ | ⟨q1, r'⟩
  · cases hl
  · obtain ⟨hl1, hl2⟩ := Bool.and_eq_true_iff.mp hl
    have hl1 := of_decide_eq_true hl1
    subst hl1
    simp only [ab_step] at hs
    unfold ab_nwg at hs
    split at hs
    · rename_i k9 n rest
      cases hs
      obtain ⟨v1, v2, v3, v4⟩ := hv
      have hrc : cells + (M.2.2.2.2.2.1 + 1 + n.toNatClampNeg) ≤ R.cells + M.2.2.2.2.2.1 := hrc
      have hrs : slots + (M.2.2.2.2.2.2 + n.toNatClampNeg + n.toNatClampNeg * k9.toNatClampNeg) ≤ R.slots + M.2.2.2.2.2.2 := hrs
      refine gd_W hx hb hown (hG _ (ab_w_G hl2 rfl)) hZ.2.2.2.2.2.2.2.2.2.2.2 v1 v2 v3 v4 (by omega) (by omega) hd (fun cA comp H1 L f1 f2 z1 o1 e1 e2 hL => ?_)
      have c24 : cA = cy 24 := by
        have a1 : s.vm.findClass "[[I" = some (cy 24) := (hK.2 4 _ rfl).2
        exact Option.some.inj (f1.symm.trans a1)
      have c20 : comp = cy 20 := by
        have a1 : s.vm.findClass "[I" = some (cy 20) := (hK.2 0 _ rfl).2
        exact Option.some.inj (f2.symm.trans a1)
      subst c24 c20
      exact ab_gdk (rest := rest) (n := n.toNatClampNeg) (mm := k9.toNatClampNeg) F hh0 z1 o1 e1 e2 hL (fun v hv => List.mem_cons_of_mem _ (List.mem_cons_of_mem _ hv)) k
    · cases hs
theorem ab_s_oi {i : Nat} (C : ab_Cx l p D cy h0 sa xs y cc nL s m args meth c) (hd : decode cc pc = .ok (.invokespecial i, len)) (hr : ab_rk y (.invokespecial i) len r = true) (hs : ab_step xs (.invokespecial i) r loc st M = some (vc, loc', st', M')) (hv : vc)
    (hR : 2 ≤ R.frames ∧ 100 ≤ R.locals)
    (F : ab_Fr D cy h0 ad sa M s H locs ls nL loc st) (k : ab_K D cy h0 sa nL p l e R s m args below meth c Q ad cells slots M (pc + len) loc' st' M') : W p l e R s m args below meth c H locs cells slots Q (F0 m pc ls (st.map (ab_cv ad sa))) := by
  have hlen := ab_rk_len hr
  obtain ⟨hx, hb, hml, hown, hG, hK, hh0, hnm, hlk, hst, hZ⟩ := id C
  simp only [ab_ln] at hlen
  subst hlen
  unfold ab_rk at hr
  have hl := ab_rk2 hr
  dsimp only at hl
  split at hl
  · obtain ⟨hl, h3⟩ := Bool.and_eq_true_iff.mp hl
    obtain ⟨h1, h2⟩ := Bool.and_eq_true_iff.mp hl
    simp only [ab_step] at hs
    unfold ab_oi at hs
    split at hs
    · rename_i kd nn mm id
      cases hs
      rw [List.map_cons, List.map_nil, ab_cv_p (Nat.lt_trans hv (by decide))]
      exact W.objInit hx hb hown (hG _ (ab_w_G h1 rfl)) (hG _ (ab_w_G h2 rfl)) (hG _ (ab_w_G h3 rfl)) rfl (F.2.1.1.trans hml.symm) rfl hd (Nat.le_of_succ_le hR.1) (by show 2 * 0 + 0 + 12 ≤ _; omega) (k.pure (st' := []) (F.stk (fun v hv => by cases hv)))
    · cases hs
  · cases hl
theorem ab_step_ok {ins : Instr} (C : ab_Cx l p D cy h0 sa xs y cc nL s m args meth c) (hd : decode cc pc = .ok (ins, len)) (hr : ab_rk y ins len r = true) (hs : ab_step xs ins r loc st M = some (vc, loc', st', M')) (hv : vc)
    (hR : 2 ≤ R.frames ∧ 100 ≤ R.locals) (hrc : cells + M'.2.2.2.2.2.1 ≤ R.cells + M.2.2.2.2.2.1) (hrs : slots + M'.2.2.2.2.2.2 ≤ R.slots + M.2.2.2.2.2.2)
    (F : ab_Fr D cy h0 ad sa M s H locs ls nL loc st) (k : ab_K D cy h0 sa nL p l e R s m args below meth c Q ad cells slots M (pc + len) loc' st' M') : W p l e R s m args below meth c H locs cells slots Q (F0 m pc ls (st.map (ab_cv ad sa))) := by
  have hx := C.1
  have hb := C.2.1
  have hlen := ab_rk_len hr
  cases ins
  case aconst_null  =>
    simp only [ab_ln] at hlen
    subst hlen
    simp only [ab_step] at hs
    cases hs
    exact lv_null hx hb hd (k.pure (st' := ab_nul :: st) (F.stk (ab_okc trivial F.2.2.2)))
  case iconst n =>
    simp only [ab_ln] at hlen
    subst hlen
    simp only [ab_step] at hs
    have hk9 : Int32.ofInt n = ab_k n := by
      unfold ab_rk at hr
      exact of_decide_eq_true (ab_rk2 hr)
    cases hs
    exact lv_iconst hx hb hd hk9 (k.pure (st' := .inl (.int (ab_k n)) :: st) (F.stk (ab_okc trivial F.2.2.2)))
  case bipush n =>
    simp only [ab_ln] at hlen
    subst hlen
    simp only [ab_step] at hs
    have hk9 : (Int8.ofInt n).toInt32 = ab_k n := by
      unfold ab_rk at hr
      exact of_decide_eq_true (ab_rk2 hr)
    cases hs
    exact lv_bipush hx hb hd hk9 (k.pure (st' := .inl (.int (ab_k n)) :: st) (F.stk (ab_okc trivial F.2.2.2)))
  case sipush n =>
    simp only [ab_ln] at hlen
    subst hlen
    simp only [ab_step] at hs
    have hk9 : (Int16.ofInt n).toInt32 = ab_k n := by
      unfold ab_rk at hr
      exact of_decide_eq_true (ab_rk2 hr)
    cases hs
    exact lv_sipush hx hb hd hk9 (k.pure (st' := .inl (.int (ab_k n)) :: st) (F.stk (ab_okc trivial F.2.2.2)))
  case lconst n =>
    simp only [ab_ln] at hlen
    subst hlen
    simp only [ab_step] at hs
    cases hs
    exact lv_lconst hx hb hd rfl (k.pure (st' := .inl (.long _) :: st) (F.stk (ab_okc trivial F.2.2.2)))
  case ldc i => exact ab_s_ldc C hd hr hs F k
  case ldc_w i => exact ab_s_ldcw C hd hr hs F k
  case ldc2_w i => exact ab_s_ldc2 C hd hr hs F k
  case getstatic i => exact ab_s_gst C hd hr hs F k
  case getfield i => exact ab_s_get C hd hr hs F k
  case putfield i => exact ab_s_put C hd hr hs F k
  case new i => exact ab_s_new C hd hr hs hrc hrs F k
  case newarray t9 => exact ab_s_nwa C hd hr hs hv hrc hrs F k
  case anewarray i => exact ab_s_nwq C hd hr hs hv hrc hrs F k
  case multianewarray i d9 => exact ab_s_grid C hd hr hs hv hrc hrs F k
  case invokestatic i => exact ab_s_ivs C hd hr hs hv hR hrc hrs F k
  case invokespecial i => exact ab_s_oi C hd hr hs hv hR F k
  case iload_n q =>
    simp only [ab_ln] at hlen
    subst hlen
    simp only [ab_step] at hs
    exact ab_s_ldI (fun x h w => lv_iload_n hx hb hd rfl h w) hs F k
  case iload q =>
    simp only [ab_ln] at hlen
    subst hlen
    simp only [ab_step] at hs
    exact ab_s_ldI (fun x h w => lv_iload hx hb hd h w) hs F k
  case lload_n q =>
    simp only [ab_ln] at hlen
    subst hlen
    simp only [ab_step] at hs
    exact ab_s_ldL (fun x h w => lv_lload_n hx hb hd rfl h w) hs F k
  case lload q =>
    simp only [ab_ln] at hlen
    subst hlen
    simp only [ab_step] at hs
    exact ab_s_ldL (fun x h w => lv_lload hx hb hd h w) hs F k
  case aload_n q =>
    simp only [ab_ln] at hlen
    subst hlen
    simp only [ab_step] at hs
    exact ab_s_ldA (fun x h w => lv_aload_n hx hb hd rfl h w) hs F k
  case aload q =>
    simp only [ab_ln] at hlen
    subst hlen
    simp only [ab_step] at hs
    exact ab_s_ldA (fun x h w => lv_aload hx hb hd h w) hs F k
  case istore_n q =>
    simp only [ab_ln] at hlen
    subst hlen
    simp only [ab_step] at hs
    exact ab_s_stI (fun x rest lv lv2 a1 a2 a3 w => lv_istore_n hx hb hd rfl a1 a2 a3 w) hs F k
  case istore q =>
    simp only [ab_ln] at hlen
    subst hlen
    simp only [ab_step] at hs
    exact ab_s_stI (fun x rest lv lv2 a1 a2 a3 w => lv_istore hx hb hd a1 a2 a3 w) hs F k
  case lstore_n q =>
    simp only [ab_ln] at hlen
    subst hlen
    simp only [ab_step] at hs
    exact ab_s_stL (fun x rest lv lv2 a1 a2 a3 w => lv_lstore_n hx hb hd rfl a1 a2 a3 w) hs F k
  case lstore q =>
    simp only [ab_ln] at hlen
    subst hlen
    simp only [ab_step] at hs
    exact ab_s_stL (fun x rest lv lv2 a1 a2 a3 w => lv_lstore hx hb hd a1 a2 a3 w) hs F k
  case astore_n q =>
    simp only [ab_ln] at hlen
    subst hlen
    simp only [ab_step] at hs
    exact ab_s_stA (fun x rest lv lv2 a1 a2 a3 w => lv_astore_n hx hb hd rfl a1 a2 a3 w) hs F k
  case astore q =>
    simp only [ab_ln] at hlen
    subst hlen
    simp only [ab_step] at hs
    exact ab_s_stA (fun x rest lv lv2 a1 a2 a3 w => lv_astore hx hb hd a1 a2 a3 w) hs F k
  case iinc q n =>
    simp only [ab_ln] at hlen
    subst hlen
    simp only [ab_step] at hs
    have hk9 : Int32.ofInt n = ab_k n := by
      unfold ab_rk at hr
      exact of_decide_eq_true (ab_rk2 hr)
    exact ab_s_inc (fun x v lv lv2 kk a1 a2 a3 a4 a5 w => lv_iinc hx hb hd a1 a2 (by rw [hk9]; exact a3) a4 a5 w) hs F k
  case iadd  =>
    simp only [ab_ln] at hlen
    subst hlen
    simp only [ab_step] at hs
    exact ab_s_bi (fun x y rest w => lv_iadd hx hb hd w) hs F k
  case isub  =>
    simp only [ab_ln] at hlen
    subst hlen
    simp only [ab_step] at hs
    exact ab_s_bi (fun x y rest w => lv_isub hx hb hd w) hs F k
  case imul  =>
    simp only [ab_ln] at hlen
    subst hlen
    simp only [ab_step] at hs
    exact ab_s_bi (fun x y rest w => lv_imul hx hb hd w) hs F k
  case iand  =>
    simp only [ab_ln] at hlen
    subst hlen
    simp only [ab_step] at hs
    exact ab_s_bi (fun x y rest w => lv_iand hx hb hd w) hs F k
  case ior  =>
    simp only [ab_ln] at hlen
    subst hlen
    simp only [ab_step] at hs
    exact ab_s_bi (fun x y rest w => lv_ior hx hb hd w) hs F k
  case ixor  =>
    simp only [ab_ln] at hlen
    subst hlen
    simp only [ab_step] at hs
    exact ab_s_bi (fun x y rest w => lv_ixor hx hb hd w) hs F k
  case ishl  =>
    simp only [ab_ln] at hlen
    subst hlen
    simp only [ab_step] at hs
    exact ab_s_bi (fun x y rest w => lv_ishl hx hb hd w) hs F k
  case ishr  =>
    simp only [ab_ln] at hlen
    subst hlen
    simp only [ab_step] at hs
    exact ab_s_bi (fun x y rest w => lv_ishr hx hb hd w) hs F k
  case iushr  =>
    simp only [ab_ln] at hlen
    subst hlen
    simp only [ab_step] at hs
    exact ab_s_bi (fun x y rest w => lv_iushr hx hb hd rfl w) hs F k
  case idiv  =>
    simp only [ab_ln] at hlen
    subst hlen
    simp only [ab_step] at hs
    exact ab_s_dv (fun x y rest h w => lv_idiv hx hb hd h w) hs hv F k
  case irem  =>
    simp only [ab_ln] at hlen
    subst hlen
    simp only [ab_step] at hs
    exact ab_s_dv (fun x y rest h w => lv_irem hx hb hd h w) hs hv F k
  case ineg  =>
    simp only [ab_ln] at hlen
    subst hlen
    simp only [ab_step] at hs
    exact ab_s_ui (by intros; trivial) (fun x rest w => lv_ineg hx hb hd w) hs F k
  case i2l  =>
    simp only [ab_ln] at hlen
    subst hlen
    simp only [ab_step] at hs
    exact ab_s_ui (by intros; trivial) (fun x rest w => lv_i2l hx hb hd rfl w) hs F k
  case i2b  =>
    simp only [ab_ln] at hlen
    subst hlen
    simp only [ab_step] at hs
    exact ab_s_ui (by intros; trivial) (fun x rest w => lv_i2b hx hb hd rfl w) hs F k
  case i2c  =>
    simp only [ab_ln] at hlen
    subst hlen
    simp only [ab_step] at hs
    exact ab_s_ui (by intros; trivial) (fun x rest w => lv_i2c hx hb hd rfl w) hs F k
  case ladd  =>
    simp only [ab_ln] at hlen
    subst hlen
    simp only [ab_step] at hs
    exact ab_s_bl (by intros; trivial) (fun x y rest w => lv_ladd hx hb hd w) hs F k
  case lsub  =>
    simp only [ab_ln] at hlen
    subst hlen
    simp only [ab_step] at hs
    exact ab_s_bl (by intros; trivial) (fun x y rest w => lv_lsub hx hb hd w) hs F k
  case lmul  =>
    simp only [ab_ln] at hlen
    subst hlen
    simp only [ab_step] at hs
    exact ab_s_bl (by intros; trivial) (fun x y rest w => lv_lmul hx hb hd w) hs F k
  case land  =>
    simp only [ab_ln] at hlen
    subst hlen
    simp only [ab_step] at hs
    exact ab_s_bl (by intros; trivial) (fun x y rest w => lv_land hx hb hd w) hs F k
  case lor  =>
    simp only [ab_ln] at hlen
    subst hlen
    simp only [ab_step] at hs
    exact ab_s_bl (by intros; trivial) (fun x y rest w => lv_lor hx hb hd w) hs F k
  case lcmp  =>
    simp only [ab_ln] at hlen
    subst hlen
    simp only [ab_step] at hs
    exact ab_s_bl (by intros; trivial) (fun x y rest w => W.lcmp hx hb hd w) hs F k
  case lshl  =>
    simp only [ab_ln] at hlen
    subst hlen
    simp only [ab_step] at hs
    exact ab_s_sl (fun x y rest w => lv_lshl hx hb hd rfl w) hs F k
  case lshr  =>
    simp only [ab_ln] at hlen
    subst hlen
    simp only [ab_step] at hs
    exact ab_s_sl (fun x y rest w => lv_lshr hx hb hd rfl w) hs F k
  case lushr  =>
    simp only [ab_ln] at hlen
    subst hlen
    simp only [ab_step] at hs
    exact ab_s_sl (fun x y rest w => lv_lushr hx hb hd rfl w) hs F k
  case dup  =>
    simp only [ab_ln] at hlen
    subst hlen
    simp only [ab_step] at hs
    exact ab_s_dup (fun v rest h w => lv_dup hx hb hd h w) hs F k
  case pop  =>
    simp only [ab_ln] at hlen
    subst hlen
    simp only [ab_step] at hs
    exact ab_s_pop (fun v rest h w => lv_pop hx hb hd h w) hs F k
  case dup2  =>
    simp only [ab_ln] at hlen
    subst hlen
    simp only [ab_step] at hs
    exact ab_s_dup2 (fun v w rest h1 h2 g => lv_dup2_11 hx hb hd h1 h2 g) (fun v rest h g => lv_dup2_2 hx hb hd h g) hs F k
  case iaload  =>
    simp only [ab_ln] at hlen
    subst hlen
    simp only [ab_step] at hs
    exact ab_s_ald C hd hs hv F k
  case iastore  =>
    simp only [ab_ln] at hlen
    subst hlen
    simp only [ab_step] at hs
    exact ab_s_ast C hd hs hv F k
  case baload  =>
    simp only [ab_ln] at hlen
    subst hlen
    simp only [ab_step] at hs
    exact ab_s_bld C hd hs hv F k
  case bastore  =>
    simp only [ab_ln] at hlen
    subst hlen
    simp only [ab_step] at hs
    exact ab_s_bst C hd hs hv F k
  case laload  =>
    simp only [ab_ln] at hlen
    subst hlen
    simp only [ab_step] at hs
    exact ab_s_lld C hd hs hv F k
  case lastore  =>
    simp only [ab_ln] at hlen
    subst hlen
    simp only [ab_step] at hs
    exact ab_s_lst C hd hs hv F k
  case aaload  =>
    simp only [ab_ln] at hlen
    subst hlen
    simp only [ab_step] at hs
    exact ab_s_aald C hd hs hv F k
  case aastore  =>
    simp only [ab_ln] at hlen
    subst hlen
    simp only [ab_step] at hs
    exact ab_s_aast C hd hs hv F k
  case arraylength  =>
    simp only [ab_ln] at hlen
    subst hlen
    simp only [ab_step] at hs
    exact ab_s_len C hd hs hv F k
  all_goals (cases hs)
end AB6
