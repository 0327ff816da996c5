/-! the steps are those of the real machine: writing to fields and rows -/
section AB3
variable {p : Program} {l : Launch} {e : Env} {R : Room} {s : State} {m : MethodId} {args : Array Value} {below : List Frame} {meth : Method} {c : Code} {H : Heap} {locs : List Loc} {cells slots : Nat} {Q : State → Prop}
variable {cc : ByteArray} {pc len : Nat} {r : List Nat} {ls : Array Slot} {D : va_G} {cy : Nat → ClassId} {h0 nL : Nat} {ad sa : Nat → Nat} {xs : Nat × (Nat → Int32)} {loc loc' st st' : List ab_V} {M M' : ab_M} {vc : Prop} {y : MethodName}
/-- the world with one cell written -/
theorem ab_In.set {H1 : Heap} {locs1 : List Loc} {id : Nat} {e1 : va_E} (hn : M'.2.2.2.2.1 = M.2.2.2.2.1) (he : ab_ent cy ad sa M' id = e1) (ho : ∀ j, j ≠ id → ab_ent cy ad sa M' j = ab_ent cy ad sa M j) (hw : ab_WF M')
    (h1 : va_P D ab_cls ((ab_pool cy ad sa M).set id (ad id, e1)) H1) (h2 : va_D (ab_A h0) ((ab_pool cy ad sa M).set id (ad id, e1))) (h3 : va_S (ab_A h0) s.heap H1 locs1) : ab_In D cy h0 ad sa M' s H1 locs1 := by
  rw [ab_pool_set hn he ho] at h1 h2
  exact ⟨h1, h2, h3, hw⟩
theorem ab_WF_R {k id j : Nat} {v : ab_V} (hw : ab_WF M) (hv : ab_rok M v) : ab_WF (ab_setR M k id j v) := by
  intro i hi
  refine ⟨fun a => ?_, (hw i hi).2⟩
  have h1 := (hw i hi).1 a
  show ab_rok M (ab_upR M.2.2.1 k id j v (M.2.2.2.1 i).1 i a)
  unfold ab_upR
  split
  · exact hv
  · exact h1
theorem ab_rty {ty : FieldType} {ad sa : Nat → Nat} {k n mm id : Nat} (h : ty.isReference = true) : narrow ty (ab_cv ad sa (.inr (k, n, mm, id))) = ab_cv ad sa (.inr (k, n, mm, id)) ∧ fits ty (ab_cv ad sa (.inr (k, n, mm, id))) = true := by
  obtain ⟨x, hx⟩ := ab_cvr (ad := ad) (sa := sa) (k := k) (n := n) (mm := mm) (id := id)
  rw [hx]
  cases ty <;> first | (exact ⟨rfl, rfl⟩) | (simp [FieldType.isReference] at h; done)
theorem ab_s_put {i : Nat} (C : ab_Cx l p D cy h0 sa xs y cc nL s m args meth c) (hd : decode cc pc = .ok (.putfield i, len)) (hr : ab_rk y (.putfield i) len r = true) (hs : ab_step xs (.putfield i) r loc st M = some (vc, loc', st', M'))
    (F : ab_Fr D cy h0 ad sa M s H locs ls nL loc st) (k : ab_K D cy h0 sa nL p l e R s m args below meth c Q ad cells slots M (pc + len) loc' st' M') : W p l e R s m args below meth c H locs cells slots Q (F0 m pc ls (st.map (ab_cv ad sa))) := by
  have hlen := ab_rk_len hr
  obtain ⟨hx, hb, hml, hown, hG, hK, hh0, hnm, hlk, hst, hZ⟩ := id C
  obtain ⟨hN, -⟩ := hZ
  simp only [ab_ln] at hlen
  subst hlen
  rcases r with _ | ⟨a, _ | ⟨b, _ | ⟨q, _ | ⟨tg, r'⟩⟩⟩⟩
  · simp [ab_rk] at hr
  · simp [ab_rk] at hr
  · simp [ab_rk] at hr
  · simp [ab_rk] at hr
  · simp only [ab_step, ab_r0, ab_r1, List.tail_cons, List.headD_cons] at hs
    unfold ab_rk at hr
    have hl := (Bool.and_eq_true_iff.mp hr).2
    dsimp only at hl
    have hk13 : a < 13 := by
      by_cases h : a < 13
      · exact h
      · rw [List.getElem?_eq_none (by simpa using h)] at hl
        cases hl
    obtain ⟨z, hz⟩ := ab_cls_at hk13
    rw [hz] at hl
    obtain ⟨hbN, hl⟩ := Bool.and_eq_true_iff.mp hl
    have hbN := of_decide_eq_true hbN
    obtain ⟨t1, t2, t3, t4, t5⟩ := ab_tyall hz
    have hC1 := (t5 b hbN).1
    unfold ab_put at hs
    split at hs
    · rename_i v k' n mm id rest
      split at hs
      · rename_i hkk
        subst hkk
        have ho := ab_okh (ab_okt F.2.2.2) (show k' < 30 by omega)
        have go : ∀ (M' : ab_M), M'.2.2.2.2 = M.2.2.2.2 → M'.2.2.2.1 = M.2.2.2.1 → (ab_fs ad sa M k' id).set b (ab_cv ad sa v) = ab_fs ad sa M' k' id → (∀ j, j ≠ id → ab_ent cy ad sa M' j = ab_ent cy ad sa M j) → ab_WF M' → narrow (ab_ty k' b) (ab_cv ad sa v) = ab_cv ad sa v → fits (ab_ty k' b) (ab_cv ad sa v) = true →
            ab_K D cy h0 sa nL p l e R s m args below meth c Q ad cells slots M (pc + 3) loc rest M' → W p l e R s m args below meth c H locs cells slots Q (F0 m pc ls (ab_cv ad sa v :: .ref (ad id) :: rest.map (ab_cv ad sa))) := by
          intro M' hn hS9 hf hne hw hnar hfit kk
          have okM : ∀ w : ab_V, ab_ok M w → ab_ok M' w := fun w hw9 => by
            cases w with
            | inl u => cases u <;> first | exact hw9 | trivial
            | inr u =>
              obtain ⟨x1, x2, x3, x4⟩ := u
              intro h30
              rw [hn, hS9]
              exact hw9 h30
          have he9 : ab_ent cy ad sa M' id = .inr (k', (ab_fs ad sa M k' id).set b (ab_cv ad sa v)) := by
            rw [ab_ent_o (by rw [hS9]; exact ho.2) hk13, hf]
          have fin : ∀ (H1 : Heap) (locs1 : List Loc), va_P D ab_cls ((ab_pool cy ad sa M).set id (ad id, .inr (k', (ab_fs ad sa M k' id).set b (ab_cv ad sa v)))) H1 → va_D (ab_A h0) ((ab_pool cy ad sa M).set id (ad id, .inr (k', (ab_fs ad sa M k' id).set b (ab_cv ad sa v)))) → va_S (ab_A h0) s.heap H1 locs1 → W p l e R s m args below meth c H1 locs1 cells slots Q (F0 m (pc + 3) ls (rest.map (ab_cv ad sa))) := by
            intro H1 locs1 h1 h2 h3
            exact kk H1 locs1 ad ls cells slots ab_Ext.rf (by rw [hn]) (by rw [hn]) ⟨ab_In.set (by rw [hn]) he9 hne hw h1 h2 h3, F.2.1, fun w hw9 => okM w (F.2.2.1 w hw9), fun w hw9 => okM w (ab_okt (ab_okt F.2.2.2) w hw9)⟩
          have heP : (ab_pool cy ad sa M)[id]? = some (ad id, .inr (k', ab_fs ad sa M k' id)) := by rw [ab_pool_at ho.1, ab_ent_o ho.2 hk13]
          by_cases hz0 : tg = 0
          · rw [if_pos hz0] at hl
            obtain ⟨h1, h2⟩ := Bool.and_eq_true_iff.mp hl
            exact va_put hx hb hG t1 _ t2 t3 hown hK F.1.1 F.1.2.1 F.1.2.2.1 id heP hz b hbN (hG _ (ab_w_G h1 rfl)) (fun x hx => by rw [← hC1]; exact hx) (by simpa using h2) (t2 b hbN) hnar hfit (by rw [ab_fs_len, t4]; exact hbN) hd fin
          · rw [if_neg hz0] at hl
            by_cases hz1 : tg = 1
            · rw [if_pos hz1] at hl
              obtain ⟨h1, h2⟩ := Bool.and_eq_true_iff.mp hl
              exact va_putN hx hb hG t1 _ t2 t3 hown hK F.1.1 F.1.2.1 F.1.2.2.1 id heP hz b hbN (va_Nw.use rfl (hN _ (ab_w_N h1 rfl))) (fun x hx => by rw [← hC1]; exact hx) (by simpa using h2) (t2 b hbN) hnar hfit (by rw [ab_fs_len, t4]; exact hbN) hd fin
            · rw [if_neg hz1] at hl
              obtain ⟨hl, h4⟩ := Bool.and_eq_true_iff.mp hl
              obtain ⟨hl, h3⟩ := Bool.and_eq_true_iff.mp hl
              obtain ⟨h1, h2⟩ := Bool.and_eq_true_iff.mp hl
              exact va_putF hx hb hG t1 _ t2 t3 hown hK F.1.1 F.1.2.1 F.1.2.2.1 id heP hz b hbN (hG _ (ab_w_G h1 rfl)) (fun x hx => by rw [← hC1]; exact hx) h2 (hnm.trans (of_decide_eq_true h3)) (hC1.trans (of_decide_eq_true h4)) (t2 b hbN) hnar hfit (by rw [ab_fs_len, t4]; exact hbN) hd fin
        have hcv : ab_cv ad sa (.inr (k', n, mm, id)) = .ref (ad id) := by simp only [ab_cv]; rw [if_pos (by omega)]
        rw [List.map_cons, List.map_cons, hcv]
        have hty := (t5 b hbN).2
        split at hs
        · rename_i hlay
          split at hs
          · rename_i x
            cases hs
            refine go (ab_setI M id b x) rfl rfl (ab_fld_I hlay) (fun j hj => ab_ent_I hj) F.1.2.2.2 ?_ ?_ k
            · rcases hty with ⟨-, h⟩ | ⟨h, -⟩ | ⟨h, -⟩
              · rw [h]; rfl
              · rw [hlay] at h; cases h
              · rw [hlay] at h; cases h
            · rcases hty with ⟨-, h⟩ | ⟨h, -⟩ | ⟨h, -⟩
              · rw [h]; rfl
              · rw [hlay] at h; cases h
              · rw [hlay] at h; cases h
          · cases hs
        · rename_i hlay
          split at hs
          · rename_i x
            cases hs
            refine go (ab_setL M id b x) rfl rfl (ab_fld_L hlay) (fun j hj => ab_ent_L hj) F.1.2.2.2 ?_ ?_ k
            · rcases hty with ⟨h, -⟩ | ⟨-, h⟩ | ⟨h, -⟩
              · rw [hlay] at h; cases h
              · rw [h]; rfl
              · rw [hlay] at h; cases h
            · rcases hty with ⟨h, -⟩ | ⟨-, h⟩ | ⟨h, -⟩
              · rw [hlay] at h; cases h
              · rw [h]; rfl
              · rw [hlay] at h; cases h
          · cases hs
        · rename_i hlay
          split at hs
          · split at hs
            · rename_i k2 n2 m2 q2 h30
              cases hs
              have hv := ab_okh F.2.2.2 h30
              have hrt : (ab_ty k' b).isReference = true := by
                rcases hty with ⟨h, -⟩ | ⟨h, -⟩ | ⟨-, h⟩
                · rw [hlay] at h; cases h
                · rw [hlay] at h; cases h
                · exact h
              exact go (ab_setR M k' id b (.inr (k2, n2, m2, q2))) rfl rfl (ab_fld_R hlay) (fun j hj => ab_ent_R hj) (ab_WF_R F.1.2.2.2 (Or.inr ⟨k2, n2, m2, q2, rfl, h30, hv.1, hv.2⟩)) (ab_rty hrt).1 (ab_rty hrt).2 k
            · cases hs
          · cases hs
        · cases hs
      · cases hs
    · cases hs
end AB3
