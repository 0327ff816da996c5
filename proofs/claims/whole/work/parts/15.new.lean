/-! the steps are those of the real machine: constants, static things, new things, copying -/
section AB5
variable {p : Program} {l : Launch} {e : Env} {R : Room} {s : State} {m : MethodId} {args : Array Value} {below : List Frame} {meth : Method} {c : Code} {H : Heap} {locs : List Loc} {cells slots : Nat} {Q : State → Prop}
variable {cc : ByteArray} {pc len : Nat} {r : List Nat} {ls : Array Slot} {D : va_G} {cy : Nat → ClassId} {h0 nL : Nat} {ad sa : Nat → Nat} {xs : Nat × (Nat → Int32)} {loc loc' st st' : List ab_V} {M M' : ab_M} {vc : Prop} {y : MethodName}
theorem ab_rk2 {ins : Instr} {b : Bool} (h : (decide (len = ab_ln ins) && b) = true) : b = true := (Bool.and_eq_true_iff.mp h).2
theorem ab_s_ldc {i : Nat} (C : ab_Cx l p D cy h0 sa xs y cc nL s m args meth c) (hd : decode cc pc = .ok (.ldc i, len)) (hr : ab_rk y (.ldc i) len r = true) (hs : ab_step xs (.ldc i) r loc st M = some (vc, loc', st', M'))
    (F : ab_Fr D cy h0 ad sa M s H locs ls nL loc st) (k : ab_K D cy h0 sa nL p l e R s m args below meth c Q ad cells slots M (pc + len) loc' st' M') : W p l e R s m args below meth c H locs cells slots Q (F0 m pc ls (st.map (ab_cv ad sa))) := by
  have hlen := ab_rk_len hr
  obtain ⟨hx, hb, hml, hown, hG, hK, hh0, hnm, hlk, hst, hZ⟩ := id C
  simp only [ab_ln] at hlen
  subst hlen
  simp only [ab_step] at hs
  unfold ab_rk at hr
  have hl := ab_rk2 hr
  dsimp only at hl
  unfold ab_ldc at hs
  split at hl
  · cases hs
    exact lv_ldc hx hb hown (hG _ (ab_w_G hl rfl)) hd (k.pure (F.stk (ab_okc trivial F.2.2.2)))
  · rename_i t q r'
    cases hs
    have hl := of_decide_eq_true hl
    have h9 : ∃ z, z ∈ ab_lds ∧ (z.1, z.2.1, z.2.2.2) = (y.cls, i, t) := by
      cases hq : ab_lds[q]? with
      | none => rw [hq] at hl; cases hl
      | some z =>
        rw [hq] at hl
        exact ⟨z, List.mem_of_getElem? hq, Option.some.inj hl⟩
    obtain ⟨z, hz, he⟩ := h9
    have hR := hZ.2.2.2.2.2.1 z hz
    obtain ⟨e1, e2⟩ := Prod.mk.inj he
    obtain ⟨e2, e3⟩ := Prod.mk.inj e2
    rw [e1, e2, e3] at hR
    exact va_ldcS hx hb hown hR hd (k.pure (st' := .inr (30, t, 0, 2 + 2 * t) :: st) (F.stk (ab_okc (fun h => by omega) F.2.2.2)))
  · cases hl
theorem ab_s_ldcw {i : Nat} (C : ab_Cx l p D cy h0 sa xs y cc nL s m args meth c) (hd : decode cc pc = .ok (.ldc_w i, len)) (hr : ab_rk y (.ldc_w i) len r = true) (hs : ab_step xs (.ldc_w i) r loc st M = some (vc, loc', st', M'))
    (F : ab_Fr D cy h0 ad sa M s H locs ls nL loc st) (k : ab_K D cy h0 sa nL p l e R s m args below meth c Q ad cells slots M (pc + len) loc' st' M') : W p l e R s m args below meth c H locs cells slots Q (F0 m pc ls (st.map (ab_cv ad sa))) := by
  have hlen := ab_rk_len hr
  obtain ⟨hx, hb, hml, hown, hG, hK, hh0, hnm, hlk, hst, hZ⟩ := id C
  simp only [ab_ln] at hlen
  subst hlen
  simp only [ab_step] at hs
  unfold ab_rk at hr
  have hl := ab_rk2 hr
  dsimp only at hl
  unfold ab_ldc at hs
  split at hl
  · cases hs
    exact lv_ldcw hx hb hown (hG _ (ab_w_G hl rfl)) hd (k.pure (F.stk (ab_okc trivial F.2.2.2)))
  · cases hl
theorem ab_s_ldc2 {i : Nat} (C : ab_Cx l p D cy h0 sa xs y cc nL s m args meth c) (hd : decode cc pc = .ok (.ldc2_w i, len)) (hr : ab_rk y (.ldc2_w i) len r = true) (hs : ab_step xs (.ldc2_w i) r loc st M = some (vc, loc', st', M'))
    (F : ab_Fr D cy h0 ad sa M s H locs ls nL loc st) (k : ab_K D cy h0 sa nL p l e R s m args below meth c Q ad cells slots M (pc + len) loc' st' M') : W p l e R s m args below meth c H locs cells slots Q (F0 m pc ls (st.map (ab_cv ad sa))) := by
  have hlen := ab_rk_len hr
  obtain ⟨hx, hb, hml, hown, hG, hK, hh0, hnm, hlk, hst, hZ⟩ := id C
  simp only [ab_ln] at hlen
  subst hlen
  simp only [ab_step] at hs
  unfold ab_rk at hr
  have hl := ab_rk2 hr
  dsimp only at hl
  cases hs
  exact lv_ldc2 hx hb hown (hG _ (ab_w_G hl rfl)) hd (k.pure (F.stk (ab_okc trivial F.2.2.2)))
theorem ab_s_gst {i : Nat} (C : ab_Cx l p D cy h0 sa xs y cc nL s m args meth c) (hd : decode cc pc = .ok (.getstatic i, len)) (hr : ab_rk y (.getstatic i) len r = true) (hs : ab_step xs (.getstatic i) r loc st M = some (vc, loc', st', M'))
    (F : ab_Fr D cy h0 ad sa M s H locs ls nL loc st) (k : ab_K D cy h0 sa nL p l e R s m args below meth c Q ad cells slots M (pc + len) loc' st' M') : W p l e R s m args below meth c H locs cells slots Q (F0 m pc ls (st.map (ab_cv ad sa))) := by
  have hlen := ab_rk_len hr
  obtain ⟨hx, hb, hml, hown, hG, hK, hh0, hnm, hlk, hst, hZ⟩ := id C
  simp only [ab_ln] at hlen
  subst hlen
  simp only [ab_step] at hs
  unfold ab_rk at hr
  have hl := ab_rk2 hr
  dsimp only at hl
  unfold ab_gst at hs
  split at hl
  · cases hs
    exact va_gets hx hb hZ.2.2.1 F.1.2.2.1 hown (hG _ (ab_w_G hl rfl)) (fun _ h => h) hd (k.pure (st' := .inl (.int 1) :: st) (F.stk (ab_okc trivial F.2.2.2)))
  · cases hs
    exact va_gets hx hb hZ.2.2.2.1.1 F.1.2.2.1 hown (hG _ (ab_w_G hl rfl)) (fun _ h => h) hd (k.pure (st' := .inr (32, 7, 0, 1) :: st) (F.stk (ab_okc (fun h => by omega) F.2.2.2)))
  · cases hl
/-- one thing more: what was there is as good as it was -/
theorem ab_new_ok {x : Nat × Nat × Nat} {kk : Nat} {v : ab_V} (h : ab_ok M v) : ab_ok (ab_new M x kk) v := by
  cases v with
  | inl w => cases w <;> first | exact h | trivial
  | inr q =>
    obtain ⟨k, n, mm, id⟩ := q
    intro h30
    obtain ⟨h1, h2⟩ := h h30
    refine ⟨Nat.lt_succ_of_lt h1, ?_⟩
    show ab_upS M.2.2.2.1 M.2.2.2.2.1 x id = _
    rw [ab_upS, if_neg (by omega)]
    exact h2
theorem ab_new_rok {x : Nat × Nat × Nat} {kk : Nat} {v : ab_V} (h : ab_rok M v) : ab_rok (ab_new M x kk) v := by
  rcases h with rfl | ⟨k, n, mm, id, rfl, h1, h2, h3⟩
  · exact Or.inl rfl
  · have := ab_new_ok (x := x) (kk := kk) (v := .inr (k, n, mm, id)) (M := M) (fun _ => ⟨h2, h3⟩) h1
    exact Or.inr ⟨k, n, mm, id, rfl, h1, this.1, this.2⟩
theorem ab_new_WF {x : Nat × Nat × Nat} {kk : Nat} (hw : ab_WF M) (hx : x.1 < 13 ∨ (20 ≤ x.1 ∧ x.1 ≤ 25)) : ab_WF (ab_new M x kk) := by
  intro id hi
  show (∀ j, ab_rok (ab_new M x kk) (ab_rowR M.2.2.1 x.1 M.2.2.2.2.1 (fun _ => ab_nul) (ab_upS M.2.2.2.1 M.2.2.2.2.1 x id).1 id j)) ∧ ((ab_upS M.2.2.2.1 M.2.2.2.2.1 x id).1 < 13 ∨ _)
  by_cases h : id = M.2.2.2.2.1
  · subst h
    simp only [ab_rowR, ab_upS, if_pos, and_self]
    exact ⟨fun j => Or.inl rfl, hx⟩
  · have hi2 : id < M.2.2.2.2.1 := by
      have : id < M.2.2.2.2.1 + 1 := hi
      omega
    simp only [ab_rowR, ab_upS, if_neg h, if_neg (fun q : _ ∧ _ => h q.2)]
    exact ⟨fun j => ab_new_rok ((hw id hi2).1 j), (hw id hi2).2⟩
theorem ab_new_ent {x : Nat × Nat × Nat} {kk : Nat} {j : Nat} {ad' : Nat → Nat} (h : j < M.2.2.2.2.1) : ab_ent cy ad' sa (ab_new M x kk) j = ab_ent cy ad' sa M j := by
  have hne : j ≠ M.2.2.2.2.1 := by omega
  exact ab_ent_ne (by simp [ab_rowI, hne]) (by simp [ab_rowL, hne]) (by simp [ab_rowR, hne]) (by simp [ab_upS, hne])
def ab_adx (ad : Nat → Nat) (n q : Nat) : Nat → Nat := fun i => if i = n then q else ad i
theorem ab_adx_ext {n q : Nat} : ab_Ext n ad (ab_adx ad n q) := fun i hi => by unfold ab_adx; rw [if_neg (by omega)]
theorem ab_lh.ext {ad' : Nat → Nat} (h : ab_Ext M.2.2.2.2.1 ad ad') (ho : ∀ v ∈ loc, ab_ok M v) (hL : ab_lh ls nL (ab_cv ad sa) loc) : ab_lh ls nL (ab_cv ad' sa) loc := ⟨hL.1, hL.2.1, hL.2.2.1, fun i v h1 h2 => by rw [ab_cv_ext h (ho v (List.mem_of_getElem? h1))]; exact hL.2.2.2 i v h1 h2⟩
theorem ab_map_ext {ad' : Nat → Nat} (h : ab_Ext M.2.2.2.2.1 ad ad') (ho : ∀ v ∈ st, ab_ok M v) : st.map (ab_cv ad' sa) = st.map (ab_cv ad sa) := List.map_congr_left fun v hv => ab_cv_ext h (ho v hv)
/-- going on behind a new thing at q -/
theorem ab_nw {x : Nat × Nat × Nat} {kk pc' q : Nat} {e1 : va_E} {rest : List ab_V} (hx : x.1 < 13 ∨ (20 ≤ x.1 ∧ x.1 ≤ 25)) (he : ab_ent cy (ab_adx ad M.2.2.2.2.1 q) sa (ab_new M x kk) M.2.2.2.2.1 = e1) (F : ab_Fr D cy h0 ad sa M s H locs ls nL loc st) (hst : ∀ v ∈ rest, v ∈ st)
    (k : ab_K D cy h0 sa nL p l e R s m args below meth c Q ad cells slots M pc' loc (.inr (x.1, x.2.1, x.2.2, M.2.2.2.2.1) :: rest) (ab_new M x kk)) (H1 : Heap) (h1 : va_P D ab_cls (ab_pool cy ad sa M ++ [(q, e1)]) H1) (h2 : va_D (ab_A h0) (ab_pool cy ad sa M ++ [(q, e1)])) (h3 : va_S (ab_A h0) s.heap H1 locs) : W p l e R s m args below meth c H1 locs (cells + 1) (slots + kk) Q (F0 m pc' ls (.ref q :: rest.map (ab_cv ad sa))) := by
  have hq : ab_adx ad M.2.2.2.2.1 q M.2.2.2.2.1 = q := by simp [ab_adx]
  rw [ab_pool_push (M' := ab_new M x kk) (ab_adx_ext (q := q)) F.1.2.2.2 hq rfl he (fun j hj => ab_new_ent hj)] at h1 h2
  have hk2 := k H1 locs (ab_adx ad M.2.2.2.2.1 q) ls (cells + 1) (slots + kk) ab_adx_ext (by show cells + 1 + _ = cells + (_ + 1); omega) (by show slots + kk + _ = slots + (_ + kk); omega)
    ⟨⟨h1, h2, h3, ab_new_WF F.1.2.2.2 hx⟩, ab_lh.ext ab_adx_ext F.2.2.1 F.2.1, fun v hv => ab_new_ok (F.2.2.1 v hv), ab_okc (fun h30 => ⟨Nat.lt_succ_self _, by simp [ab_upS]⟩) (fun v hv => ab_new_ok (F.2.2.2 v (hst v hv)))⟩
  rw [List.map_cons, ab_cv_p (by omega), hq, ab_map_ext (M := M) ab_adx_ext (fun v hv => F.2.2.2 v (hst v hv))] at hk2
  exact hk2
theorem ab_s_new {i : Nat} (C : ab_Cx l p D cy h0 sa xs y cc nL s m args meth c) (hd : decode cc pc = .ok (.new i, len)) (hr : ab_rk y (.new i) len r = true) (hs : ab_step xs (.new i) r loc st M = some (vc, loc', st', M'))
    (hrc : cells + M'.2.2.2.2.2.1 ≤ R.cells + M.2.2.2.2.2.1) (hrs : slots + M'.2.2.2.2.2.2 ≤ R.slots + M.2.2.2.2.2.2)
    (F : ab_Fr D cy h0 ad sa M s H locs ls nL loc st) (k : ab_K D cy h0 sa nL p l e R s m args below meth c Q ad cells slots M (pc + len) loc' st' M') : W p l e R s m args below meth c H locs cells slots Q (F0 m pc ls (st.map (ab_cv ad sa))) := by
  have hlen := ab_rk_len hr
  obtain ⟨hx, hb, hml, hown, hG, hK, hh0, hnm, hlk, hst, hZ⟩ := id C
  simp only [ab_ln] at hlen
  subst hlen
  simp only [ab_step] at hs
  unfold ab_rk at hr
  have hl := ab_rk2 hr
  dsimp only at hl
  unfold ab_nwo at hs
  split at hs
  · rename_i kd nf r'
    split at hs
    · rename_i hk13
      cases hs
      rcases r' with _ | ⟨q1, _ | ⟨q2, _ | ⟨q3, r'⟩⟩⟩
      · cases hl
      · cases hl
      · cases hl
      · obtain ⟨z, hz⟩ := ab_cls_at hk13
        dsimp only at hl
        rw [hz] at hl
        obtain ⟨hl, h4⟩ := Bool.and_eq_true_iff.mp hl
        obtain ⟨hl, h3⟩ := Bool.and_eq_true_iff.mp hl
        obtain ⟨h1, h2⟩ := Bool.and_eq_true_iff.mp hl
        have h1 := of_decide_eq_true h1
        subst h1
        obtain ⟨t1, t2, t3, t4, t5⟩ := ab_tyall hz
        have hfl : ∀ (ad' : Nat → Nat) (j : Nat), ab_fld ad' sa (ab_new M (kd, 0, 0) z.2.2) kd M.2.2.2.2.1 j = (match (ab_lay kd)[j]? with | some 0 => .int 0 | some 1 => .long 0 | _ => .null) := by
          intro ad' j
          unfold ab_fld
          split <;> simp_all [ab_rowI, ab_rowL, ab_rowR, ab_cv]
        refine va_new (fs := ab_fs ad sa (ab_new M (kd, 0, 0) z.2.2) kd M.2.2.2.2.1) hx hb hG t1 _ t2 hown (hG _ (ab_w_G h2 rfl)) (hG _ (ab_w_G h3 rfl)) (hG _ (ab_w_G h4 rfl)) hK F.1.1 F.1.2.1 F.1.2.2.1 (fun q hq => Nat.le_trans hh0 hq) hz (fun j hj => ?_) ?_ ?_ hd (fun q H1 h1 h2 h3 => ?_)
        · have h9 := ab_fs_at (ad := ad) (sa := sa) (M := ab_new M (kd, 0, 0) z.2.2) (k := kd) (id := M.2.2.2.2.1) (j := j) (by rw [t4]; exact hj)
          rw [hfl] at h9
          have h8 : vp_V (ab_fs ad sa (ab_new M (kd, 0, 0) z.2.2) kd M.2.2.2.2.1) j = (match (ab_lay kd)[j]? with | some 0 => .int 0 | some 1 => .long 0 | _ => .null) := by
            unfold vp_V
            simp [List.getD_eq_getElem?_getD, h9]
          rw [h8]
          rcases (t5 j hj).2 with ⟨a1, a2⟩ | ⟨a1, a2⟩ | ⟨a1, a2⟩
          · rw [a1, a2]; rfl
          · rw [a1, a2]; rfl
          · rw [a1]
            cases hty : ab_ty kd j <;> first | rfl | (rw [hty] at a2; cases a2)
        · have : cells + (M.2.2.2.2.2.1 + 1) ≤ R.cells + M.2.2.2.2.2.1 := hrc
          omega
        · have : slots + (M.2.2.2.2.2.2 + z.2.2) ≤ R.slots + M.2.2.2.2.2.2 := hrs
          omega
        · refine ab_nw (x := (kd, 0, 0)) (Or.inl hk13) ?_ F (fun v hv => hv) k H1 h1 h2 h3
          rw [ab_ent_o (M := ab_new M (kd, 0, 0) z.2.2) (k := kd) (n := 0) (m := 0) (by simp [ab_upS]) hk13]
          congr 2
          unfold ab_fs
          congr 1
          funext j
          rw [hfl, hfl]
    · cases hs
  · cases hs
theorem ab_s_nwa {at9 : ArrayType} (C : ab_Cx l p D cy h0 sa xs y cc nL s m args meth c) (hd : decode cc pc = .ok (.newarray at9, len)) (hr : ab_rk y (.newarray at9) len r = true) (hs : ab_step xs (.newarray at9) r loc st M = some (vc, loc', st', M')) (hv : vc)
    (hrc : cells + M'.2.2.2.2.2.1 ≤ R.cells + M.2.2.2.2.2.1) (hrs : slots + M'.2.2.2.2.2.2 ≤ R.slots + M.2.2.2.2.2.2)
    (F : ab_Fr D cy h0 ad sa M s H locs ls nL loc st) (k : ab_K D cy h0 sa nL p l e R s m args below meth c Q ad cells slots M (pc + len) loc' st' M') : W p l e R s m args below meth c H locs cells slots Q (F0 m pc ls (st.map (ab_cv ad sa))) := by
  have hlen := ab_rk_len hr
  obtain ⟨hx, hb, hml, hown, hG, hK, hh0, hnm, hlk, hst, hZ⟩ := id C
  simp only [ab_ln] at hlen
  subst hlen
  unfold ab_rk at hr
  have hl := ab_rk2 hr
  dsimp only at hl
  rcases r with _ | ⟨kd, _ | ⟨q1, r'⟩⟩
  · cases hl
  · cases hl
  · simp only [ab_step, ab_r0, List.headD_cons] at hs
    obtain ⟨hl, h3⟩ := Bool.and_eq_true_iff.mp hl
    obtain ⟨h1, h2⟩ := Bool.and_eq_true_iff.mp hl
    have h1 := of_decide_eq_true h1
    have h2 := of_decide_eq_true h2
    unfold ab_nwa at hs
    split at hs
    · rename_i n rest
      cases hs
      obtain ⟨hv1, hv2⟩ := hv
      have hc1 : cells + 1 ≤ R.cells := by
        have : cells + (M.2.2.2.2.2.1 + 1) ≤ R.cells + M.2.2.2.2.2.1 := hrc
        omega
      have hc2 : slots + n.toNatClampNeg ≤ R.slots := by
        have : slots + (M.2.2.2.2.2.2 + n.toNatClampNeg) ≤ R.slots + M.2.2.2.2.2.2 := hrs
        omega
      have hA : ∀ q : Nat, s.heap.size ≤ q → ab_A h0 q := fun q hq => Nat.le_trans hh0 hq
      have harr : (Cond.arrayClass (newarray.typeOf at9)).before args s = true := by rw [h2]; exact hG _ (ab_w_G h3 rfl)
      have hsame : ∀ (ty : FieldType) (t0 : Nat) (c1 cA : ClassId), (ab_tys cy)[t0]? = some (c1, ty) → (∀ C : String, ty ≠ .object C) → va_K D ab_cls (ab_tys cy ++ [(cA, ty)]) s → cA = c1 := by
        intro ty t0 c1 cA ht hno hK2
        have a1 := (hK.2 t0 _ ht).2
        have a2 := (hK2.2 (ab_tys cy).length (cA, ty) (by rw [List.getElem?_append_right (Nat.le_refl _)]; simp)).2
        cases ty with
        | object C => exact absurd rfl (hno C)
        | _ => exact Option.some.inj (a2.symm.trans a1)
      rcases (show kd = 20 ∨ kd = 21 ∨ kd = 22 ∨ kd = 23 by omega) with rfl | rfl | rfl | rfl
      · refine va_newa (ty := .int) (a0 := (n.toNatClampNeg, .inl (fun _ => 0))) hx hb harr h2 hK F.1.1 F.1.2.1 F.1.2.2.1 hA (fun cA => rfl) hv1 rfl (by show _ * 4 ≤ _; omega) hc1 hc2 hd (fun q cA H1 hK2 h1 h2 h3 => ?_)
        rw [hsame .int 0 (cy 20) cA rfl (fun C h => by cases h) hK2] at h1 h2
        exact ab_nw (x := (20, n.toNatClampNeg, 0)) (Or.inr ⟨Nat.le_of_ble_eq_true rfl, Nat.le_of_ble_eq_true rfl⟩) (by rw [ab_ent_a (k := 20) (n := n.toNatClampNeg) (m := 0) (by simp [ab_upS]) (by decide) (by decide) (by decide)]; simp [ab_rowI]) F (fun v hv => List.mem_cons_of_mem _ hv) k H1 h1 h2 h3
      · refine va_newa (ty := .byte) (a0 := (n.toNatClampNeg, .inl (fun _ => 0))) hx hb harr h2 hK F.1.1 F.1.2.1 F.1.2.2.1 hA (fun cA => rfl) hv1 rfl (by show _ * 1 ≤ _; omega) hc1 hc2 hd (fun q cA H1 hK2 h1 h2 h3 => ?_)
        rw [hsame .byte 1 (cy 21) cA rfl (fun C h => by cases h) hK2] at h1 h2
        exact ab_nw (x := (21, n.toNatClampNeg, 0)) (Or.inr ⟨Nat.le_of_ble_eq_true rfl, Nat.le_of_ble_eq_true rfl⟩) (by rw [ab_ent_a (k := 21) (n := n.toNatClampNeg) (m := 0) (by simp [ab_upS]) (by decide) (by decide) (by decide)]; simp [ab_rowI]) F (fun v hv => List.mem_cons_of_mem _ hv) k H1 h1 h2 h3
      · refine va_newa (ty := .long) (a0 := (n.toNatClampNeg, .inr (.inl (fun _ => 0)))) hx hb harr h2 hK F.1.1 F.1.2.1 F.1.2.2.1 hA (fun cA => rfl) hv1 rfl (by show _ * 8 ≤ _; omega) hc1 hc2 hd (fun q cA H1 hK2 h1 h2 h3 => ?_)
        rw [hsame .long 2 (cy 22) cA rfl (fun C h => by cases h) hK2] at h1 h2
        exact ab_nw (x := (22, n.toNatClampNeg, 0)) (Or.inr ⟨Nat.le_of_ble_eq_true rfl, Nat.le_of_ble_eq_true rfl⟩) (by rw [ab_ent_l (n := n.toNatClampNeg) (m := 0) (by simp [ab_upS])]; simp [ab_rowL]) F (fun v hv => List.mem_cons_of_mem _ hv) k H1 h1 h2 h3
      · refine va_newa (ty := .boolean) (a0 := (n.toNatClampNeg, .inl (fun _ => 0))) hx hb harr h2 hK F.1.1 F.1.2.1 F.1.2.2.1 hA (fun cA => rfl) hv1 rfl (by show _ * 1 ≤ _; omega) hc1 hc2 hd (fun q cA H1 hK2 h1 h2 h3 => ?_)
        rw [hsame .boolean 3 (cy 23) cA rfl (fun C h => by cases h) hK2] at h1 h2
        exact ab_nw (x := (23, n.toNatClampNeg, 0)) (Or.inr ⟨Nat.le_of_ble_eq_true rfl, Nat.le_of_ble_eq_true rfl⟩) (by rw [ab_ent_a (k := 23) (n := n.toNatClampNeg) (m := 0) (by simp [ab_upS]) (by decide) (by decide) (by decide)]; simp [ab_rowI]) F (fun v hv => List.mem_cons_of_mem _ hv) k H1 h1 h2 h3
    · cases hs
theorem ab_s_nwq {i : Nat} (C : ab_Cx l p D cy h0 sa xs y cc nL s m args meth c) (hd : decode cc pc = .ok (.anewarray i, len)) (hr : ab_rk y (.anewarray i) len r = true) (hs : ab_step xs (.anewarray i) r loc st M = some (vc, loc', st', M')) (hv : vc)
    (hrc : cells + M'.2.2.2.2.2.1 ≤ R.cells + M.2.2.2.2.2.1) (hrs : slots + M'.2.2.2.2.2.2 ≤ R.slots + M.2.2.2.2.2.2)
    (F : ab_Fr D cy h0 ad sa M s H locs ls nL loc st) (k : ab_K D cy h0 sa nL p l e R s m args below meth c Q ad cells slots M (pc + len) loc' st' M') : W p l e R s m args below meth c H locs cells slots Q (F0 m pc ls (st.map (ab_cv ad sa))) := by
  have hlen := ab_rk_len hr
  obtain ⟨hx, hb, hml, hown, hG, hK, hh0, hnm, hlk, hst, hZ⟩ := id C
  simp only [ab_ln] at hlen
  subst hlen
  unfold ab_rk at hr
  have hl := ab_rk2 hr
  dsimp only at hl
  rcases r with _ | ⟨q1, r'⟩
  · cases hl
  · simp only [ab_step] at hs
    unfold ab_nwa at hs
    split at hs
    · rename_i n rest
      cases hs
      obtain ⟨hv1, hv2⟩ := hv
      have hc1 : cells + 1 ≤ R.cells := by
        have : cells + (M.2.2.2.2.2.1 + 1) ≤ R.cells + M.2.2.2.2.2.1 := hrc
        omega
      have hc2 : slots + n.toNatClampNeg ≤ R.slots := by
        have : slots + (M.2.2.2.2.2.2 + n.toNatClampNeg) ≤ R.slots + M.2.2.2.2.2.2 := hrs
        omega
      have hA : ∀ q : Nat, s.heap.size ≤ q → ab_A h0 q := fun q hq => Nat.le_trans hh0 hq
      refine va_newq hx hb hown (hG _ (ab_w_G hl rfl)) hZ.2.2.2.2.2.2.2.2.1 hK F.1.1 F.1.2.1 F.1.2.2.1 hA hv1 rfl (by omega) hc1 hc2 hd (fun q cA H1 hK2 h1 h2 h3 => ?_)
      have e9 : cA = cy 25 := by
        obtain ⟨_, _, -, -, -, a1⟩ := (hK.2 5 _ rfl).2
        obtain ⟨_, _, -, -, -, a2⟩ := (hK2.2 (ab_tys cy).length (cA, .object RX6) (by rw [List.getElem?_append_right (Nat.le_refl _)]; simp)).2
        exact Option.some.inj (a2.symm.trans a1)
      rw [e9] at h1 h2
      exact ab_nw (x := (25, n.toNatClampNeg, 0)) (Or.inr ⟨Nat.le_of_ble_eq_true rfl, Nat.le_of_ble_eq_true rfl⟩) (by rw [ab_ent_r (k := 25) (n := n.toNatClampNeg) (m := 0) (by simp [ab_upS]) (by decide)]; simp [ab_rowR, ab_el]) F (fun v hv => List.mem_cons_of_mem _ hv) k H1 h1 h2 h3
    · cases hs
end AB5
