/-! the steps are those of the real machine: rows of numbers and references -/
section AB4
variable {p : Program} {l : Launch} {e : Env} {R : Room} {s : State} {m : MethodId} {args : Array Value} {below : List Frame} {meth : Method} {c : Code} {H : Heap} {locs : List Loc} {cells slots : Nat} {Q : State → Prop}
variable {cc : ByteArray} {pc len : Nat} {r : List Nat} {ls : Array Slot} {D : va_G} {cy : Nat → ClassId} {h0 nL : Nat} {ad sa : Nat → Nat} {xs : Nat × (Nat → Int32)} {loc loc' st st' : List ab_V} {M M' : ab_M} {vc : Prop} {y : MethodName}
theorem ab_cv_p {k n mm id : Nat} (h : k < 30) : ab_cv ad sa (.inr (k, n, mm, id)) = .ref (ad id) := by simp only [ab_cv]; rw [if_pos h]
theorem ab_s_ald (C : ab_Cx l p D cy h0 sa xs y cc nL s m args meth c) (hd : decode cc pc = .ok (.iaload, 1)) (hs : ab_ald xs loc st M = some (vc, loc', st', M')) (hv : vc)
    (F : ab_Fr D cy h0 ad sa M s H locs ls nL loc st) (k : ab_K D cy h0 sa nL p l e R s m args below meth c Q ad cells slots M (pc + 1) loc' st' M') : W p l e R s m args below meth c H locs cells slots Q (F0 m pc ls (st.map (ab_cv ad sa))) := by
  obtain ⟨hx, hb, hml, hown, hG, hK, hh0, hnm, hlk, hst, hZ⟩ := id C
  unfold ab_ald at hs
  split at hs
  · rename_i i n mm id rest
    cases hs
    have ho := ab_okh (ab_okt F.2.2.2) (show 20 < 30 by decide)
    have hk2 := k.pure (F.stk (ab_okc trivial (ab_okt (ab_okt F.2.2.2))))
    rw [List.map_cons, List.map_cons, ab_cv_p (by decide)]
    exact va_iald hx hb hK F.1.1 id 0 (by rw [ab_pool_at ho.1, ab_ent_a ho.2 (by decide) (by decide) (by decide)]) rfl hv hd hk2
  · rename_i i n mm rest
    cases hs
    obtain ⟨hv1, hv2⟩ := hv
    subst hv2
    have hk2 := k.pure (F.stk (ab_okc trivial (ab_okt (ab_okt F.2.2.2))))
    exact va_sld hx hb hZ.2.1.1 hZ.2.1.2.1 hZ.2.1.2.2 F.1.2.2.1 hv1 hd hk2
  · cases hs
theorem ab_WF_same (hn : M'.2.2 = M.2.2) (hw : ab_WF M) : ab_WF M' := by
  have e1 : ∀ v, ab_rok M' v = ab_rok M v := fun v => by unfold ab_rok; rw [hn]
  intro i hi
  rw [hn] at hi ⊢
  obtain ⟨h1, h2⟩ := hw i hi
  exact ⟨fun j => by rw [e1]; exact h1 j, h2⟩
theorem ab_ok_same (hn : M'.2.2 = M.2.2) {v : ab_V} : ab_ok M' v = ab_ok M v := by
  unfold ab_ok
  rw [hn]
/-- behind a write of ints or longs -/
theorem ab_wr {id : Nat} {e1 : va_E} {pc' : Nat} (hn : M'.2.2 = M.2.2) (he : ab_ent cy ad sa M' id = e1) (ho : ∀ j, j ≠ id → ab_ent cy ad sa M' j = ab_ent cy ad sa M j) (F : ab_Fr D cy h0 ad sa M s H locs ls nL loc st) (hst : ∀ v ∈ st', v ∈ st)
    (k : ab_K D cy h0 sa nL p l e R s m args below meth c Q ad cells slots M pc' loc st' M') (H1 : Heap) (locs1 : List Loc) (h1 : va_P D ab_cls ((ab_pool cy ad sa M).set id (ad id, e1)) H1) (h2 : va_D (ab_A h0) ((ab_pool cy ad sa M).set id (ad id, e1))) (h3 : va_S (ab_A h0) s.heap H1 locs1) : W p l e R s m args below meth c H1 locs1 cells slots Q (F0 m pc' ls (st'.map (ab_cv ad sa))) :=
  k H1 locs1 ad ls cells slots ab_Ext.rf (by rw [hn]) (by rw [hn]) ⟨ab_In.set (by rw [hn]) he ho (ab_WF_same hn F.1.2.2.2) h1 h2 h3, F.2.1, fun w hw => by rw [ab_ok_same hn]; exact F.2.2.1 w hw, fun w hw => by rw [ab_ok_same hn]; exact F.2.2.2 w (hst w hw)⟩
theorem ab_upI_at {N : ab_M} {a i : Nat} {x : Int32} : (ab_setI N a i x).1 a = upd (N.1 a) i x := by simp [ab_upI]
theorem ab_upL_at {N : ab_M} {a i : Nat} {x : Int64} : (ab_setL N a i x).2.1 a = vp_updL (N.2.1 a) i x := by simp [ab_upL]
theorem ab_mem3 {v a b d : ab_V} {rest : List ab_V} (h : v ∈ rest) : v ∈ a :: b :: d :: rest := List.mem_cons_of_mem _ (List.mem_cons_of_mem _ (List.mem_cons_of_mem _ h))
theorem ab_s_ast (C : ab_Cx l p D cy h0 sa xs y cc nL s m args meth c) (hd : decode cc pc = .ok (.iastore, 1)) (hs : ab_ast loc st M = some (vc, loc', st', M')) (hv : vc)
    (F : ab_Fr D cy h0 ad sa M s H locs ls nL loc st) (k : ab_K D cy h0 sa nL p l e R s m args below meth c Q ad cells slots M (pc + 1) loc' st' M') : W p l e R s m args below meth c H locs cells slots Q (F0 m pc ls (st.map (ab_cv ad sa))) := by
  obtain ⟨hx, hb, hml, hown, hG, hK, hh0, hnm, hlk, hst, hZ⟩ := id C
  unfold ab_ast at hs
  split at hs
  · rename_i x i n mm id rest
    cases hs
    have ho := ab_okh (ab_okt (ab_okt F.2.2.2)) (show 20 < 30 by decide)
    rw [List.map_cons, List.map_cons, List.map_cons, ab_cv_p (by decide)]
    exact va_iast hx hb hK F.1.1 F.1.2.1 F.1.2.2.1 id 0 (by rw [ab_pool_at ho.1, ab_ent_a ho.2 (by decide) (by decide) (by decide)]) rfl hv hd (ab_wr (M' := ab_setI M id i.toNatClampNeg x) rfl (by rw [ab_ent_a (M := ab_setI M id i.toNatClampNeg x) ho.2 (by decide) (by decide) (by decide)]; rw [ab_upI_at]) (fun j hj => ab_ent_I hj) F (fun v h => ab_mem3 h) k)
  · cases hs
theorem ab_gm (l : List Nat) (j : Nat) : (l.map Int32.ofNat).getD j 0 = Int32.ofNat ((l[j]?).getD 0) := by
  rw [List.getD_eq_getElem?_getD, List.getElem?_map]
  cases l[j]? <;> rfl
theorem ab_s_bld (C : ab_Cx l p D cy h0 sa xs y cc nL s m args meth c) (hd : decode cc pc = .ok (.baload, 1)) (hs : ab_bld loc st M = some (vc, loc', st', M')) (hv : vc)
    (F : ab_Fr D cy h0 ad sa M s H locs ls nL loc st) (k : ab_K D cy h0 sa nL p l e R s m args below meth c Q ad cells slots M (pc + 1) loc' st' M') : W p l e R s m args below meth c H locs cells slots Q (F0 m pc ls (st.map (ab_cv ad sa))) := by
  obtain ⟨hx, hb, hml, hown, hG, hK, hh0, hnm, hlk, hst, hZ⟩ := id C
  unfold ab_bld at hs
  split at hs
  · rename_i i n mm id rest
    cases hs
    have ho := ab_okh (ab_okt F.2.2.2) (show 21 < 30 by decide)
    have hk2 := k.pure (F.stk (ab_okc trivial (ab_okt (ab_okt F.2.2.2))))
    rw [List.map_cons, List.map_cons, ab_cv_p (by decide)]
    exact va_bald hx hb hK F.1.1 id 1 (by rw [ab_pool_at ho.1, ab_ent_a ho.2 (by decide) (by decide) (by decide)]) rfl hv hd hk2
  · rename_i i n mm id rest
    cases hs
    have ho := ab_okh (ab_okt F.2.2.2) (show 23 < 30 by decide)
    have hk2 := k.pure (F.stk (ab_okc trivial (ab_okt (ab_okt F.2.2.2))))
    rw [List.map_cons, List.map_cons, ab_cv_p (by decide)]
    exact va_zald hx hb hK F.1.1 id 3 (by rw [ab_pool_at ho.1, ab_ent_a ho.2 (by decide) (by decide) (by decide)]) rfl hv hd hk2
  · rename_i i n t id rest
    cases hs
    obtain ⟨hv1, hv2, hv3, hv4⟩ := hv
    subst hv2
    subst hv3
    have hT := ((ab_str C).1 t hv4).2.2.2
    have e1 : ab_len3.getD t 0 = ab_txl t := by
      rcases (show t = 0 ∨ t = 1 ∨ t = 2 by omega) with rfl | rfl | rfl <;> rfl
    rw [e1] at hT
    have e2 : ∀ j, (ab_byt3.getD t []).getD j 0 = ab_txc t j := fun j => by
      have e3 : ab_byt3.getD t [] = ((ab_txs[t]?).getD []).map Int32.ofNat := by
        rcases (show t = 0 ∨ t = 1 ∨ t = 2 by omega) with rfl | rfl | rfl <;> rfl
      rw [e3, ab_gm]
      rfl
    have hk2 := k.pure (F.stk (ab_okc trivial (ab_okt (ab_okt F.2.2.2))))
    exact va_tb hx hb hT F.1.2.2.1 hv1 (by show Value.int _ = _; rw [e2]; rfl) hd hk2
  · cases hs
theorem ab_s_bst (C : ab_Cx l p D cy h0 sa xs y cc nL s m args meth c) (hd : decode cc pc = .ok (.bastore, 1)) (hs : ab_bst loc st M = some (vc, loc', st', M')) (hv : vc)
    (F : ab_Fr D cy h0 ad sa M s H locs ls nL loc st) (k : ab_K D cy h0 sa nL p l e R s m args below meth c Q ad cells slots M (pc + 1) loc' st' M') : W p l e R s m args below meth c H locs cells slots Q (F0 m pc ls (st.map (ab_cv ad sa))) := by
  obtain ⟨hx, hb, hml, hown, hG, hK, hh0, hnm, hlk, hst, hZ⟩ := id C
  unfold ab_bst at hs
  split at hs
  · rename_i x i n mm id rest
    cases hs
    have ho := ab_okh (ab_okt (ab_okt F.2.2.2)) (show 21 < 30 by decide)
    rw [List.map_cons, List.map_cons, List.map_cons, ab_cv_p (by decide)]
    exact va_bast hx hb hK F.1.1 F.1.2.1 F.1.2.2.1 id 1 (by rw [ab_pool_at ho.1, ab_ent_a ho.2 (by decide) (by decide) (by decide)]) rfl hv hd (ab_wr (M' := ab_setI M id i.toNatClampNeg (vp_nar .byte x)) rfl (by rw [ab_ent_a (M := ab_setI M id i.toNatClampNeg (vp_nar .byte x)) ho.2 (by decide) (by decide) (by decide)]; rw [ab_upI_at]) (fun j hj => ab_ent_I hj) F (fun v h => ab_mem3 h) k)
  · rename_i x i n mm id rest
    cases hs
    have ho := ab_okh (ab_okt (ab_okt F.2.2.2)) (show 23 < 30 by decide)
    rw [List.map_cons, List.map_cons, List.map_cons, ab_cv_p (by decide)]
    exact va_zast hx hb hK F.1.1 F.1.2.1 F.1.2.2.1 id 3 (by rw [ab_pool_at ho.1, ab_ent_a ho.2 (by decide) (by decide) (by decide)]) rfl hv hd (ab_wr (M' := ab_setI M id i.toNatClampNeg (vp_nar .boolean x)) rfl (by rw [ab_ent_a (M := ab_setI M id i.toNatClampNeg (vp_nar .boolean x)) ho.2 (by decide) (by decide) (by decide)]; rw [ab_upI_at]) (fun j hj => ab_ent_I hj) F (fun v h => ab_mem3 h) k)
  · cases hs
theorem ab_s_lld (C : ab_Cx l p D cy h0 sa xs y cc nL s m args meth c) (hd : decode cc pc = .ok (.laload, 1)) (hs : ab_lld loc st M = some (vc, loc', st', M')) (hv : vc)
    (F : ab_Fr D cy h0 ad sa M s H locs ls nL loc st) (k : ab_K D cy h0 sa nL p l e R s m args below meth c Q ad cells slots M (pc + 1) loc' st' M') : W p l e R s m args below meth c H locs cells slots Q (F0 m pc ls (st.map (ab_cv ad sa))) := by
  obtain ⟨hx, hb, hml, hown, hG, hK, hh0, hnm, hlk, hst, hZ⟩ := id C
  unfold ab_lld at hs
  split at hs
  · rename_i i n mm id rest
    cases hs
    have ho := ab_okh (ab_okt F.2.2.2) (show 22 < 30 by decide)
    have hk2 := k.pure (F.stk (ab_okc trivial (ab_okt (ab_okt F.2.2.2))))
    rw [List.map_cons, List.map_cons, ab_cv_p (by decide)]
    exact va_lald hx hb hK F.1.1 id 2 (by rw [ab_pool_at ho.1, ab_ent_l ho.2]) rfl hv hd hk2
  · cases hs
theorem ab_s_lst (C : ab_Cx l p D cy h0 sa xs y cc nL s m args meth c) (hd : decode cc pc = .ok (.lastore, 1)) (hs : ab_lst loc st M = some (vc, loc', st', M')) (hv : vc)
    (F : ab_Fr D cy h0 ad sa M s H locs ls nL loc st) (k : ab_K D cy h0 sa nL p l e R s m args below meth c Q ad cells slots M (pc + 1) loc' st' M') : W p l e R s m args below meth c H locs cells slots Q (F0 m pc ls (st.map (ab_cv ad sa))) := by
  obtain ⟨hx, hb, hml, hown, hG, hK, hh0, hnm, hlk, hst, hZ⟩ := id C
  unfold ab_lst at hs
  split at hs
  · rename_i x i n mm id rest
    cases hs
    have ho := ab_okh (ab_okt (ab_okt F.2.2.2)) (show 22 < 30 by decide)
    rw [List.map_cons, List.map_cons, List.map_cons, ab_cv_p (by decide)]
    exact va_last hx hb hK F.1.1 F.1.2.1 F.1.2.2.1 id 2 (by rw [ab_pool_at ho.1, ab_ent_l ho.2]) rfl hv hd (ab_wr (M' := ab_setL M id i.toNatClampNeg x) rfl (by rw [ab_ent_l (M := ab_setL M id i.toNatClampNeg x) ho.2]; rw [ab_upL_at]) (fun j hj => ab_ent_L hj) F (fun v h => ab_mem3 h) k)
  · cases hs
theorem ab_rf {v : ab_V} (h : ab_rok M v) : va_rf (ab_el ad v) = ab_cv ad sa v := by
  rcases h with rfl | ⟨k, n, mm, id, rfl, h1, -, -⟩
  · rfl
  · rw [ab_cv_p h1]; rfl
theorem ab_s_aald (C : ab_Cx l p D cy h0 sa xs y cc nL s m args meth c) (hd : decode cc pc = .ok (.aaload, 1)) (hs : ab_aald loc st M = some (vc, loc', st', M')) (hv : vc)
    (F : ab_Fr D cy h0 ad sa M s H locs ls nL loc st) (k : ab_K D cy h0 sa nL p l e R s m args below meth c Q ad cells slots M (pc + 1) loc' st' M') : W p l e R s m args below meth c H locs cells slots Q (F0 m pc ls (st.map (ab_cv ad sa))) := by
  obtain ⟨hx, hb, hml, hown, hG, hK, hh0, hnm, hlk, hst, hZ⟩ := id C
  unfold ab_aald at hs
  split at hs
  · rename_i i n mm id rest
    cases hs
    have ho := ab_okh (ab_okt F.2.2.2) (show 24 < 30 by decide)
    obtain ⟨hv, hv9⟩ := hv
    have hrk := (F.1.2.2.2 id ho.1).1 i.toNatClampNeg
    rw [ho.2] at hrk
    have hrk : ab_rok M (M.2.2.1 24 id i.toNatClampNeg) := hrk
    rw [← hv9] at k
    have hk2 := k.pure (F.stk (ab_okc (ab_rok_ok hrk) (ab_okt (ab_okt F.2.2.2))))
    rw [List.map_cons, ← ab_rf hrk] at hk2
    rw [List.map_cons, List.map_cons, ab_cv_p (by decide)]
    have hlt : i.toNatClampNeg < n := Nat.not_le.mp fun q => hv (Or.inr q)
    have hat := F.1.1 id _ (by rw [ab_pool_at ho.1, ab_ent_r ho.2 (by decide)])
    exact W.aald (v := va_rf (ab_el ad (M.2.2.1 24 id i.toNatClampNeg))) (ty := .array .int) hx hb hat ((hK.2 4 _ rfl).1 n (fun j => va_rf (ab_el ad (M.2.2.1 24 id j)))) rfl (fun q => by cases q) (by show ¬ (i < 0 ∨ (arrV _ _ _).slots.size ≤ _); rw [arrV_size]; exact hv) (by show (arrV _ _ _).slots[_]? = _; rw [arrV_read _ _ hlt]) rfl rfl hd hk2
  · rename_i i n mm id rest
    cases hs
    have ho := ab_okh (ab_okt F.2.2.2) (show 25 < 30 by decide)
    have hrk := (F.1.2.2.2 id ho.1).1 i.toNatClampNeg
    rw [ho.2] at hrk
    have hk2 := k.pure (F.stk (ab_okc (ab_rok_ok hrk) (ab_okt (ab_okt F.2.2.2))))
    rw [List.map_cons, ← ab_rf hrk] at hk2
    rw [List.map_cons, List.map_cons, ab_cv_p (by decide)]
    exact va_aldq hx hb hK F.1.1 id 5 (by rw [ab_pool_at ho.1, ab_ent_r ho.2 (by decide)]) rfl hv hd hk2
  · cases hs
theorem ab_s_aast (C : ab_Cx l p D cy h0 sa xs y cc nL s m args meth c) (hd : decode cc pc = .ok (.aastore, 1)) (hs : ab_aast loc st M = some (vc, loc', st', M')) (hv : vc)
    (F : ab_Fr D cy h0 ad sa M s H locs ls nL loc st) (k : ab_K D cy h0 sa nL p l e R s m args below meth c Q ad cells slots M (pc + 1) loc' st' M') : W p l e R s m args below meth c H locs cells slots Q (F0 m pc ls (st.map (ab_cv ad sa))) := by
  obtain ⟨hx, hb, hml, hown, hG, hK, hh0, hnm, hlk, hst, hZ⟩ := id C
  unfold ab_aast at hs
  split at hs
  · rename_i n2 m2 q i n mm id rest
    cases hs
    have ho := ab_okh (ab_okt (ab_okt F.2.2.2)) (show 25 < 30 by decide)
    have hq := ab_okh F.2.2.2 (show 6 < 30 by decide)
    rw [List.map_cons, List.map_cons, List.map_cons, ab_cv_p (by decide), ab_cv_p (by decide)]
    refine va_astq hx hb hK F.1.1 F.1.2.1 F.1.2.2.1 id 5 q 6 (by rw [ab_pool_at ho.1, ab_ent_r ho.2 (by decide)]) rfl (by rw [ab_pool_at hq.1, ab_ent_o hq.2 (by decide)]) rfl hv hd (fun H1 locs1 h1 h2 h3 => ?_)
    have he : ab_ent cy ad sa (ab_setR M 25 id i.toNatClampNeg (.inr (6, n2, m2, q))) id = .inl (cy 25, n, .inr (.inr (.inr (.inr (va_up (fun j => ab_el ad (M.2.2.1 25 id j)) i.toNatClampNeg (some (ad q))))))) := by
      rw [ab_ent_r (M := ab_setR M 25 id i.toNatClampNeg (.inr (6, n2, m2, q))) ho.2 (by decide)]
      congr 7
      funext j
      by_cases hj : j = i.toNatClampNeg
      · simp [ab_upR, va_up, hj, ab_el]
      · simp [ab_upR, va_up, hj]
    have okM : ∀ w : ab_V, ab_ok (ab_setR M 25 id i.toNatClampNeg (.inr (6, n2, m2, q))) w = ab_ok M w := fun w => rfl
    exact k H1 locs1 ad ls cells slots ab_Ext.rf rfl rfl ⟨ab_In.set (M := M) (M' := ab_setR M 25 id i.toNatClampNeg (.inr (6, n2, m2, q))) rfl he (fun j hj => ab_ent_R hj) (ab_WF_R F.1.2.2.2 (Or.inr ⟨6, n2, m2, q, rfl, by decide, hq.1, hq.2⟩)) h1 h2 h3, F.2.1, fun w hw => by rw [okM]; exact F.2.2.1 w hw, fun w hw => by rw [okM]; exact F.2.2.2 w (ab_mem3 hw)⟩
  · cases hs
theorem ab_s_len (C : ab_Cx l p D cy h0 sa xs y cc nL s m args meth c) (hd : decode cc pc = .ok (.arraylength, 1)) (hs : ab_len xs.1 loc st M = some (vc, loc', st', M')) (hv : vc)
    (F : ab_Fr D cy h0 ad sa M s H locs ls nL loc st) (k : ab_K D cy h0 sa nL p l e R s m args below meth c Q ad cells slots M (pc + 1) loc' st' M') : W p l e R s m args below meth c H locs cells slots Q (F0 m pc ls (st.map (ab_cv ad sa))) := by
  obtain ⟨hx, hb, hml, hown, hG, hK, hh0, hnm, hlk, hst, hZ⟩ := id C
  unfold ab_len at hs
  split at hs
  · rename_i kd n t id rest
    cases hs
    have hk2 := k.pure (F.stk (ab_okc trivial (ab_okt F.2.2.2)))
    rw [List.map_cons]
    rcases hv with ⟨h1, h2⟩ | ⟨rfl, rfl, rfl⟩ | ⟨rfl, rfl, rfl⟩ | ⟨rfl, rfl, rfl, ht⟩
    · have ho := ab_okh F.2.2.2 (show kd < 30 by omega)
      rw [ab_cv_p (by omega)]
      rcases (show kd = 20 ∨ kd = 21 ∨ kd = 22 ∨ kd = 23 ∨ kd = 24 ∨ kd = 25 by omega) with rfl | rfl | rfl | rfl | rfl | rfl
      · exact va_alen (x := (n, .inl (M.1 id))) (v := Int32.ofNat n) hx hb hK F.1.1 id 0 (by rw [ab_pool_at ho.1, ab_ent_a ho.2 (by decide) (by decide) (by decide)]) rfl rfl hd hk2
      · exact va_alen (x := (n, .inl (M.1 id))) (v := Int32.ofNat n) hx hb hK F.1.1 id 1 (by rw [ab_pool_at ho.1, ab_ent_a ho.2 (by decide) (by decide) (by decide)]) rfl rfl hd hk2
      · exact va_alen (x := (n, .inr (.inl (M.2.1 id)))) (v := Int32.ofNat n) hx hb hK F.1.1 id 2 (by rw [ab_pool_at ho.1, ab_ent_l ho.2]) rfl rfl hd hk2
      · exact va_alen (x := (n, .inl (M.1 id))) (v := Int32.ofNat n) hx hb hK F.1.1 id 3 (by rw [ab_pool_at ho.1, ab_ent_a ho.2 (by decide) (by decide) (by decide)]) rfl rfl hd hk2
      · exact va_alen (x := (n, .inr (.inr (.inr (.inr (fun i => ab_el ad (M.2.2.1 24 id i))))))) (v := Int32.ofNat n) hx hb hK F.1.1 id 4 (by rw [ab_pool_at ho.1, ab_ent_r ho.2 (by decide)]) rfl rfl hd hk2
      · exact va_alen (x := (n, .inr (.inr (.inr (.inr (fun i => ab_el ad (M.2.2.1 25 id i))))))) (v := Int32.ofNat n) hx hb hK F.1.1 id 5 (by rw [ab_pool_at ho.1, ab_ent_r ho.2 (by decide)]) rfl rfl hd hk2
    · exact va_slen hx hb hZ.2.1.1 hZ.2.1.2.1 hZ.2.1.2.2 F.1.2.2.1 hd hk2
    · exact va_tlen hx hb hZ.2.2.2.1.2 F.1.2.2.1 rfl hd hk2
    · have hT := ((ab_str C).1 t ht).2.2.2
      have e1 : ab_len3.getD t 0 = ab_txl t := by
        rcases (show t = 0 ∨ t = 1 ∨ t = 2 by omega) with rfl | rfl | rfl <;> rfl
      rw [e1] at hT
      exact va_tlen hx hb hT F.1.2.2.1 rfl hd hk2
  · cases hs
end AB4
