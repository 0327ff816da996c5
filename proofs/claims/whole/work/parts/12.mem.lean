/-! the steps are those of the real machine: fields and rows -/
section AB2
variable {p : Program} {l : Launch} {e : Env} {R : Room} {s : State} {m : MethodId} {args : Array Value} {below : List Frame} {meth : Method} {c : Code} {H : Heap} {locs : List Loc} {cells slots : Nat} {Q : State → Prop}
variable {cc : ByteArray} {pc len : Nat} {r : List Nat} {ls : Array Slot} {D : va_G} {cy : Nat → ClassId} {h0 nL : Nat} {ad sa : Nat → Nat} {xs : Nat × (Nat → Int32)} {loc loc' st st' : List ab_V} {M M' : ab_M} {vc : Prop} {y : MethodName}
theorem ab_str (C : ab_Cx l p D cy h0 sa xs y cc nL s m args meth c) : vk_S 3 ab_len3 ab_byt3 (fun t => sa (2 + 2 * t)) (fun t => sa (3 + 2 * t)) (ab_A h0) s s.heap := C.2.2.2.2.2.2.2.2.2.2.2.2.2.2.1
theorem ab_s_get {i : Nat} (C : ab_Cx l p D cy h0 sa xs y cc nL s m args meth c) (hd : decode cc pc = .ok (.getfield i, len)) (hr : ab_rk y (.getfield i) len r = true) (hs : ab_step xs (.getfield i) r loc st M = some (vc, loc', st', M'))
    (F : ab_Fr D cy h0 ad sa M s H locs ls nL loc st) (k : ab_K D cy h0 sa nL p l e R s m args below meth c Q ad cells slots M (pc + len) loc' st' M') : W p l e R s m args below meth c H locs cells slots Q (F0 m pc ls (st.map (ab_cv ad sa))) := by
  have hlen := ab_rk_len hr
  obtain ⟨hx, hb, hml, hown, hG, hK, hh0, hnm, hlk, hst, hZ⟩ := id C
  have hE := ab_str C
  obtain ⟨hN, -⟩ := hZ
  simp only [ab_ln] at hlen
  subst hlen
  simp only [ab_step] at hs
  unfold ab_get at hs
  split at hs
  · rename_i k' n mm id rest
    split at hs
    · rename_i hkk
      split at hs
      · rename_i h30
        split at hs
        · rename_i hid
          obtain ⟨hid1, hid2⟩ := hid
          subst hid1
          have hk30 : k' = 30 := hkk.trans h30
          subst hk30
          rcases r with _ | ⟨a, _ | ⟨b, _ | ⟨q, r'⟩⟩⟩
          · simp [ab_r0] at h30
          · simp [ab_rk] at hr
          · simp [ab_rk] at hr
          · simp only [ab_r0, List.headD_cons] at h30
            subst h30
            simp only [ab_r1, List.tail_cons, List.headD_cons] at hs
            split at hs
            · cases hs
              have hl : ab_w q (.fieldLink y.cls i "java/lang/String" "value" "[B") = true := by simpa [ab_rk, ab_ln] using hr
              exact vk_getf hx hb (hE.1 n hid2).2.2.1 F.1.2.2.1 hown (hG _ (ab_w_G hl rfl)) (fun _ h => h) hd (k.pure (st' := .inr (33, ab_txl n, n, 3 + 2 * n) :: rest) (F.stk (ab_okc (fun h => by omega) (ab_okt F.2.2.2))))
            · cases hs
              have hl : ab_w q (.fieldLink y.cls i "java/lang/String" "coder" "B") = true := by simpa [ab_rk, ab_ln] using hr
              exact vk_getf hx hb (hE.1 n hid2).2.1 F.1.2.2.1 hown (hG _ (ab_w_G hl rfl)) (fun _ h => h) hd (k.pure (st' := .inl (.int 0) :: rest) (F.stk (ab_okc trivial (ab_okt F.2.2.2))))
            · cases hs
        · cases hs
      · rename_i h30
        rcases r with _ | ⟨a, _ | ⟨b, _ | ⟨q, r'⟩⟩⟩
        · simp [ab_rk] at hr
        · simp [ab_rk] at hr
        · simp [ab_rk] at hr
        · simp only [ab_r0, ab_r1, List.tail_cons, List.headD_cons] at hs h30 hkk
          subst hkk
          have hl : (match ab_cls[k']? with
              | some z => decide (b < z.2.2) && (ab_w q (.fieldLink y.cls i z.1 (z.2.1 b).2.1 (z.2.1 b).2.2.1) || ab_w q (.fieldLinkNest y.cls i z.1 (z.2.1 b).2.1 (z.2.1 b).2.2.1 RX11))
              | none => false) = true := by
            unfold ab_rk at hr
            have h2 := (Bool.and_eq_true_iff.mp hr).2
            dsimp only at h2
            split at h2
            · rename_i e1; exact absurd (List.cons.inj e1).1 h30
            · rename_i e1; exact absurd (List.cons.inj e1).1 h30
            · rename_i e1
              cases e1
              exact h2
            · cases h2
          have hk13 : k' < 13 := by
            by_cases h : k' < 13
            · exact h
            · rw [List.getElem?_eq_none (by simpa using h)] at hl
              cases hl
          obtain ⟨z, hz⟩ := ab_cls_at hk13
          rw [hz] at hl
          obtain ⟨hbN, hl⟩ := Bool.and_eq_true_iff.mp hl
          have hbN := of_decide_eq_true hbN
          obtain ⟨t1, t2, t3, t4, t5⟩ := ab_tyall hz
          have ho := ab_okh F.2.2.2 (show k' < 30 by omega)
          have hP := F.1.1
          have hC1 := (t5 b hbN).1
          have go : ∀ v : ab_V, (∀ (v' : Value), v' = ab_fld ad sa M k' id b → v' = ab_cv ad sa v) → ab_ok M v → ab_K D cy h0 sa nL p l e R s m args below meth c Q ad cells slots M (pc + 3) loc (v :: rest) M → W p l e R s m args below meth c H locs cells slots Q (F0 m pc ls (.ref (ad id) :: rest.map (ab_cv ad sa))) := by
            intro v hv hov kk
            have hk2 := kk.pure (F.stk (ab_okc hov (ab_okt F.2.2.2)))
            rcases Bool.or_eq_true_iff.mp hl with h | h
            · refine va_get hx hb hG t1 hown hK hP id (by rw [ab_pool_at ho.1, ab_ent_o ho.2 hk13]) hz b hbN (hG _ (ab_w_G h rfl)) (fun x hx => by rw [← hC1]; exact hx) (ab_fs_at (by rw [t4]; exact hbN)) hd ?_
              rw [hv _ rfl]
              exact hk2
            · refine va_getN hx hb hG t1 hown hK hP id (by rw [ab_pool_at ho.1, ab_ent_o ho.2 hk13]) hz b hbN (va_Nw.use rfl (hN _ (ab_w_N h rfl))) (fun x hx => by rw [← hC1]; exact hx) (ab_fs_at (by rw [t4]; exact hbN)) hd ?_
              rw [hv _ rfl]
              exact hk2
          have hcv : ab_cv ad sa (.inr (k', n, mm, id)) = .ref (ad id) := by simp only [ab_cv]; rw [if_pos (by omega)]
          rw [List.map_cons, hcv]
          split at hs
          · rename_i hlay
            cases hs
            exact go (.inl (.int (M.1 id b))) (fun v' e => by rw [e]; unfold ab_fld; rw [hlay]; rfl) trivial k
          · rename_i hlay
            cases hs
            exact go (.inl (.long (M.2.1 id b))) (fun v' e => by rw [e]; unfold ab_fld; rw [hlay]; rfl) trivial k
          · rename_i hlay
            cases hs
            refine go (M.2.2.1 k' id b) (fun v' e => by rw [e]; unfold ab_fld; rw [hlay]; rfl) ?_ k
            have h9 := (F.1.2.2.2 id ho.1).1 b
            rw [ho.2] at h9
            exact ab_rok_ok h9
          · cases hs
    · cases hs
  · cases hs
end AB2
