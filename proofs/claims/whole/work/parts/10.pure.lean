/-! the steps are those of the real machine: numbers, locals, the stack -/
section AB1
variable {p : Program} {l : Launch} {e : Env} {R : Room} {s : State} {m : MethodId} {args : Array Value} {below : List Frame} {meth : Method} {c : Code} {H : Heap} {locs : List Loc} {cells slots : Nat} {Q : State → Prop}
variable {cc : ByteArray} {pc : Nat} {ls : Array Slot} {D : va_G} {cy : Nat → ClassId} {h0 nL : Nat} {ad sa : Nat → Nat} {xs : Nat × (Nat → Int32)} {loc loc' st st' : List ab_V} {M M' : ab_M} {vc : Prop}
/-- going on behind a step, from wherever it may have come -/
def ab_K (D : va_G) (cy : Nat → ClassId) (h0 : Nat) (sa : Nat → Nat) (nL : Nat) (p : Program) (l : Launch) (e : Env) (R : Room) (s : State) (m : MethodId) (args : Array Value) (below : List Frame) (meth : Method) (c : Code) (Q : State → Prop) (ad : Nat → Nat) (cells slots : Nat) (M : ab_M) (pc' : Nat) (loc' st' : List ab_V) (M' : ab_M) : Prop :=
  ∀ (H' : Heap) (locs' : List Loc) (ad' : Nat → Nat) (ls' : Array Slot) (cells' slots' : Nat), ab_Ext M.2.2.2.2.1 ad ad' → cells' + M.2.2.2.2.2.1 = cells + M'.2.2.2.2.2.1 → slots' + M.2.2.2.2.2.2 = slots + M'.2.2.2.2.2.2 → ab_Fr D cy h0 ad' sa M' s H' locs' ls' nL loc' st' → W p l e R s m args below meth c H' locs' cells' slots' Q (F0 m pc' ls' (st'.map (ab_cv ad' sa)))
theorem ab_K.pure {pc' : Nat} (k : ab_K D cy h0 sa nL p l e R s m args below meth c Q ad cells slots M pc' loc' st' M) (F : ab_Fr D cy h0 ad sa M s H locs ls nL loc' st') : W p l e R s m args below meth c H locs cells slots Q (F0 m pc' ls (st'.map (ab_cv ad sa))) := k H locs ad ls cells slots ab_Ext.rf rfl rfl F
theorem ab_s_bi {f : Int32 → Int32 → Int32} {pc' : Nat} (row : ∀ (x y : Int32) (rest : List Value), W p l e R s m args below meth c H locs cells slots Q (F0 m pc' ls (.int (f x y) :: rest)) → W p l e R s m args below meth c H locs cells slots Q (F0 m pc ls (.int y :: .int x :: rest)))
    (hs : ab_bi f loc st M = some (vc, loc', st', M')) (F : ab_Fr D cy h0 ad sa M s H locs ls nL loc st) (k : ab_K D cy h0 sa nL p l e R s m args below meth c Q ad cells slots M pc' loc' st' M') : W p l e R s m args below meth c H locs cells slots Q (F0 m pc ls (st.map (ab_cv ad sa))) := by
  unfold ab_bi at hs
  split at hs
  · cases hs
    exact row _ _ _ (k.pure (F.stk (ab_okc trivial (ab_okt (ab_okt F.2.2.2)))))
  · cases hs
theorem ab_s_ui {f : Int32 → Value} {pc' : Nat} (hf : ∀ (N : ab_M) x, ab_ok N (.inl (f x))) (row : ∀ (x : Int32) (rest : List Value), W p l e R s m args below meth c H locs cells slots Q (F0 m pc' ls (f x :: rest)) → W p l e R s m args below meth c H locs cells slots Q (F0 m pc ls (.int x :: rest)))
    (hs : ab_ui f loc st M = some (vc, loc', st', M')) (F : ab_Fr D cy h0 ad sa M s H locs ls nL loc st) (k : ab_K D cy h0 sa nL p l e R s m args below meth c Q ad cells slots M pc' loc' st' M') : W p l e R s m args below meth c H locs cells slots Q (F0 m pc ls (st.map (ab_cv ad sa))) := by
  unfold ab_ui at hs
  split at hs
  · cases hs
    exact row _ _ (k.pure (F.stk (ab_okc (hf _ _) (ab_okt F.2.2.2))))
  · cases hs
theorem ab_s_bl {f : Int64 → Int64 → Value} {pc' : Nat} (hf : ∀ (N : ab_M) x y, ab_ok N (.inl (f x y))) (row : ∀ (x y : Int64) (rest : List Value), W p l e R s m args below meth c H locs cells slots Q (F0 m pc' ls (f x y :: rest)) → W p l e R s m args below meth c H locs cells slots Q (F0 m pc ls (.long y :: .long x :: rest)))
    (hs : ab_bl f loc st M = some (vc, loc', st', M')) (F : ab_Fr D cy h0 ad sa M s H locs ls nL loc st) (k : ab_K D cy h0 sa nL p l e R s m args below meth c Q ad cells slots M pc' loc' st' M') : W p l e R s m args below meth c H locs cells slots Q (F0 m pc ls (st.map (ab_cv ad sa))) := by
  unfold ab_bl at hs
  split at hs
  · cases hs
    exact row _ _ _ (k.pure (F.stk (ab_okc (hf _ _ _) (ab_okt (ab_okt F.2.2.2)))))
  · cases hs
theorem ab_s_sl {f : Int64 → Int32 → Int64} {pc' : Nat} (row : ∀ (x : Int64) (y : Int32) (rest : List Value), W p l e R s m args below meth c H locs cells slots Q (F0 m pc' ls (.long (f x y) :: rest)) → W p l e R s m args below meth c H locs cells slots Q (F0 m pc ls (.int y :: .long x :: rest)))
    (hs : ab_sl f loc st M = some (vc, loc', st', M')) (F : ab_Fr D cy h0 ad sa M s H locs ls nL loc st) (k : ab_K D cy h0 sa nL p l e R s m args below meth c Q ad cells slots M pc' loc' st' M') : W p l e R s m args below meth c H locs cells slots Q (F0 m pc ls (st.map (ab_cv ad sa))) := by
  unfold ab_sl at hs
  split at hs
  · cases hs
    exact row _ _ _ (k.pure (F.stk (ab_okc trivial (ab_okt (ab_okt F.2.2.2)))))
  · cases hs
theorem ab_s_dv {f : Int32 → Int32 → Int32} {pc' : Nat} (row : ∀ (x y : Int32) (rest : List Value), ¬ y = 0 → W p l e R s m args below meth c H locs cells slots Q (F0 m pc' ls (.int (f x y) :: rest)) → W p l e R s m args below meth c H locs cells slots Q (F0 m pc ls (.int y :: .int x :: rest)))
    (hs : ab_dv f loc st M = some (vc, loc', st', M')) (hv : vc) (F : ab_Fr D cy h0 ad sa M s H locs ls nL loc st) (k : ab_K D cy h0 sa nL p l e R s m args below meth c Q ad cells slots M pc' loc' st' M') : W p l e R s m args below meth c H locs cells slots Q (F0 m pc ls (st.map (ab_cv ad sa))) := by
  unfold ab_dv at hs
  split at hs
  · cases hs
    exact row _ _ _ hv (k.pure (F.stk (ab_okc trivial (ab_okt (ab_okt F.2.2.2)))))
  · cases hs
theorem ab_s_ldI {i pc' : Nat} (row : ∀ x : Int32, ls[i]? = some (.val (.int x)) → W p l e R s m args below meth c H locs cells slots Q (F0 m pc' ls (.int x :: st.map (ab_cv ad sa))) → W p l e R s m args below meth c H locs cells slots Q (F0 m pc ls (st.map (ab_cv ad sa))))
    (hs : ab_ldI i loc st M = some (vc, loc', st', M')) (F : ab_Fr D cy h0 ad sa M s H locs ls nL loc st) (k : ab_K D cy h0 sa nL p l e R s m args below meth c Q ad cells slots M pc' loc' st' M') : W p l e R s m args below meth c H locs cells slots Q (F0 m pc ls (st.map (ab_cv ad sa))) := by
  unfold ab_ldI at hs
  split at hs
  · rename_i x hx
    cases hs
    exact row x (F.2.1.2.2.2 _ _ hx rfl) (k.pure (F.stk (ab_okc trivial F.2.2.2)))
  · cases hs
theorem ab_s_ldL {i pc' : Nat} (row : ∀ x : Int64, ls[i]? = some (.val (.long x)) → W p l e R s m args below meth c H locs cells slots Q (F0 m pc' ls (.long x :: st.map (ab_cv ad sa))) → W p l e R s m args below meth c H locs cells slots Q (F0 m pc ls (st.map (ab_cv ad sa))))
    (hs : ab_ldL i loc st M = some (vc, loc', st', M')) (F : ab_Fr D cy h0 ad sa M s H locs ls nL loc st) (k : ab_K D cy h0 sa nL p l e R s m args below meth c Q ad cells slots M pc' loc' st' M') : W p l e R s m args below meth c H locs cells slots Q (F0 m pc ls (st.map (ab_cv ad sa))) := by
  unfold ab_ldL at hs
  split at hs
  · rename_i x hx
    cases hs
    exact row x (F.2.1.2.2.2 _ _ hx rfl) (k.pure (F.stk (ab_okc trivial F.2.2.2)))
  · cases hs
theorem ab_cvr {k n mm id : Nat} : ∃ x, ab_cv ad sa (.inr (k, n, mm, id)) = .ref x := by
  simp only [ab_cv]
  split
  · exact ⟨_, rfl⟩
  · split <;> exact ⟨_, rfl⟩
theorem ab_s_ldA {i pc' : Nat} (row : ∀ x : Nat, ls[i]? = some (.val (.ref x)) → W p l e R s m args below meth c H locs cells slots Q (F0 m pc' ls (.ref x :: st.map (ab_cv ad sa))) → W p l e R s m args below meth c H locs cells slots Q (F0 m pc ls (st.map (ab_cv ad sa))))
    (hs : ab_ldA i loc st M = some (vc, loc', st', M')) (F : ab_Fr D cy h0 ad sa M s H locs ls nL loc st) (k : ab_K D cy h0 sa nL p l e R s m args below meth c Q ad cells slots M pc' loc' st' M') : W p l e R s m args below meth c H locs cells slots Q (F0 m pc ls (st.map (ab_cv ad sa))) := by
  unfold ab_ldA at hs
  split at hs
  · rename_i kd n mm id hx
    split at hs
    · rename_i hk
      cases hs
      obtain ⟨x, hr⟩ := ab_cvr (ad := ad) (sa := sa) (k := kd) (n := n) (mm := mm) (id := id)
      have h1 := F.2.1.2.2.2 _ _ hx (by simpa [ab_tp] using hk)
      rw [hr] at h1
      refine row x h1 ?_
      have h2 := k.pure (F.stk (ab_okc (F.2.2.1 _ (List.mem_of_getElem? hx)) F.2.2.2))
      rw [List.map_cons, hr] at h2
      exact h2
    · cases hs
  · cases hs
theorem ab_okset {N : ab_M} {i : Nat} {v : ab_V} (h : ∀ w ∈ loc, ab_ok N w) (hv : ab_ok N v) : ∀ w ∈ loc.set i v, ab_ok N w := fun w hw => by
  rcases List.mem_or_eq_of_mem_set hw with h1 | h1
  · exact h w h1
  · subst h1; exact hv
theorem ab_oktop {N : ab_M} : ab_ok N ab_top := fun h => by omega
theorem ab_okkill {N : ab_M} {i : Nat} (h : ∀ w ∈ loc, ab_ok N w) : ∀ w ∈ ab_kill loc i, ab_ok N w := by
  unfold ab_kill
  split
  · exact h
  · split
    · exact ab_okset h ab_oktop
    · exact h
theorem ab_s_stI {i pc' : Nat} (row : ∀ (x : Int32) (rest : List Value) (lv lv' : List (Nat × Value)), lv_has ls nL lv → i < nL → (i, Value.int x) :: lv.filter (fun q => !(q.1 == i) && !(q.1 + 1 == i && q.2.category == 2)) = lv' → (∀ ls', lv_has ls' nL lv' → W p l e R s m args below meth c H locs cells slots Q (F0 m pc' ls' rest)) → W p l e R s m args below meth c H locs cells slots Q (F0 m pc ls (.int x :: rest)))
    (hs : ab_stI i loc st M = some (vc, loc', st', M')) (F : ab_Fr D cy h0 ad sa M s H locs ls nL loc st) (k : ab_K D cy h0 sa nL p l e R s m args below meth c Q ad cells slots M pc' loc' st' M') : W p l e R s m args below meth c H locs cells slots Q (F0 m pc ls (st.map (ab_cv ad sa))) := by
  unfold ab_stI at hs
  split at hs
  · split at hs
    · rename_i x r hi
      cases hs
      refine row x _ _ _ F.2.1.has (by rw [← F.2.1.2.2.1]; exact hi) rfl (fun ls' h => ?_)
      exact k H locs ad ls' cells slots ab_Ext.rf rfl rfl ⟨F.1, ab_lh.st1 (v := .inl (.int x)) rfl hi F.2.1 F.2.2.1 h, ab_okset (ab_okkill F.2.2.1) trivial, ab_okt F.2.2.2⟩
    · cases hs
  · cases hs
theorem ab_s_inc {i pc' : Nat} {n : Int} (row : ∀ (x v : Int32) (lv lv' : List (Nat × Value)) (k : Nat), lv_has ls nL lv → lv[k]? = some (i, .int x) → x + ab_k n = v → i < nL → (i, Value.int v) :: lv.filter (fun q => !(q.1 == i) && !(q.1 + 1 == i && q.2.category == 2)) = lv' → (∀ ls', lv_has ls' nL lv' → W p l e R s m args below meth c H locs cells slots Q (F0 m pc' ls' (st.map (ab_cv ad sa)))) → W p l e R s m args below meth c H locs cells slots Q (F0 m pc ls (st.map (ab_cv ad sa))))
    (hs : ab_inc i n loc st M = some (vc, loc', st', M')) (F : ab_Fr D cy h0 ad sa M s H locs ls nL loc st) (k : ab_K D cy h0 sa nL p l e R s m args below meth c Q ad cells slots M pc' loc' st' M') : W p l e R s m args below meth c H locs cells slots Q (F0 m pc ls (st.map (ab_cv ad sa))) := by
  unfold ab_inc at hs
  split at hs
  · rename_i x hx
    split at hs
    · rename_i hi
      cases hs
      obtain ⟨kk, hk⟩ := List.getElem?_of_mem (ab_lvl_mem (f := ab_cv ad sa) hx rfl)
      refine row x _ _ _ kk F.2.1.has hk rfl (by rw [← F.2.1.2.2.1]; exact hi) rfl (fun ls' h => ?_)
      exact k H locs ad ls' cells slots ab_Ext.rf rfl rfl ⟨F.1, ab_lh.st1 (v := .inl (.int (x + ab_k n))) rfl hi F.2.1 F.2.2.1 h, ab_okset (ab_okkill F.2.2.1) trivial, F.2.2.2⟩
    · cases hs
  · cases hs
theorem ab_s_stL {i pc' : Nat} (row : ∀ (x : Int64) (rest : List Value) (lv lv' : List (Nat × Value)), lv_has ls nL lv → i + 1 < nL → (i, Value.long x) :: lv.filter (fun q => !(q.1 == i) && (!(q.1 == i + 1) && !(q.1 + 1 == i && q.2.category == 2))) = lv' → (∀ ls', lv_has ls' nL lv' → W p l e R s m args below meth c H locs cells slots Q (F0 m pc' ls' rest)) → W p l e R s m args below meth c H locs cells slots Q (F0 m pc ls (.long x :: rest)))
    (hs : ab_stL i loc st M = some (vc, loc', st', M')) (F : ab_Fr D cy h0 ad sa M s H locs ls nL loc st) (k : ab_K D cy h0 sa nL p l e R s m args below meth c Q ad cells slots M pc' loc' st' M') : W p l e R s m args below meth c H locs cells slots Q (F0 m pc ls (st.map (ab_cv ad sa))) := by
  unfold ab_stL at hs
  split at hs
  · split at hs
    · rename_i x r hi
      cases hs
      refine row x _ _ _ F.2.1.has (by rw [← F.2.1.2.2.1]; exact hi) rfl (fun ls' h => ?_)
      exact k H locs ad ls' cells slots ab_Ext.rf rfl rfl ⟨F.1, ab_lh.st2 (v := .inl (.long x)) rfl hi F.2.1 F.2.2.1 h, ab_okset (ab_okset (ab_okkill F.2.2.1) trivial) ab_oktop, ab_okt F.2.2.2⟩
    · cases hs
  · cases hs
theorem ab_s_stA {i pc' : Nat} (row : ∀ (x : Nat) (rest : List Value) (lv lv' : List (Nat × Value)), lv_has ls nL lv → i < nL → (i, Value.ref x) :: lv.filter (fun q => !(q.1 == i) && !(q.1 + 1 == i && q.2.category == 2)) = lv' → (∀ ls', lv_has ls' nL lv' → W p l e R s m args below meth c H locs cells slots Q (F0 m pc' ls' rest)) → W p l e R s m args below meth c H locs cells slots Q (F0 m pc ls (.ref x :: rest)))
    (hs : ab_stA i loc st M = some (vc, loc', st', M')) (F : ab_Fr D cy h0 ad sa M s H locs ls nL loc st) (k : ab_K D cy h0 sa nL p l e R s m args below meth c Q ad cells slots M pc' loc' st' M') : W p l e R s m args below meth c H locs cells slots Q (F0 m pc ls (st.map (ab_cv ad sa))) := by
  unfold ab_stA at hs
  split at hs
  · split at hs
    · rename_i kd n mm id r hi
      cases hs
      obtain ⟨x, hr⟩ := ab_cvr (ad := ad) (sa := sa) (k := kd) (n := n) (mm := mm) (id := id)
      rw [List.map_cons, hr]
      refine row x _ _ _ F.2.1.has (by rw [← F.2.1.2.2.1]; exact hi.1) rfl (fun ls' h => ?_)
      exact k H locs ad ls' cells slots ab_Ext.rf rfl rfl ⟨F.1, ab_lh.st1 (v := .inr (kd, n, mm, id)) hr hi.1 F.2.1 F.2.2.1 h, ab_okset (ab_okkill F.2.2.1) (ab_okh F.2.2.2), ab_okt F.2.2.2⟩
    · cases hs
  · cases hs
theorem ab_cat1 {v : ab_V} (h : ab_c1 v = true) : (ab_cv ad sa v).category = 1 := by
  cases v with
  | inl w => cases w <;> first | rfl | (simp [ab_c1] at h; done)
  | inr q =>
    obtain ⟨k, n, mm, id⟩ := q
    obtain ⟨x, hr⟩ := ab_cvr (ad := ad) (sa := sa) (k := k) (n := n) (mm := mm) (id := id)
    rw [hr]
    rfl
theorem ab_s_dup {pc' : Nat} (row : ∀ (v : Value) (rest : List Value), v.category = 1 → W p l e R s m args below meth c H locs cells slots Q (F0 m pc' ls (v :: v :: rest)) → W p l e R s m args below meth c H locs cells slots Q (F0 m pc ls (v :: rest)))
    (hs : ab_dup loc st M = some (vc, loc', st', M')) (F : ab_Fr D cy h0 ad sa M s H locs ls nL loc st) (k : ab_K D cy h0 sa nL p l e R s m args below meth c Q ad cells slots M pc' loc' st' M') : W p l e R s m args below meth c H locs cells slots Q (F0 m pc ls (st.map (ab_cv ad sa))) := by
  unfold ab_dup at hs
  split at hs
  · split at hs
    · rename_i hc
      cases hs
      exact row _ _ (ab_cat1 hc) (k.pure (F.stk (ab_okc (ab_okh F.2.2.2) F.2.2.2)))
    · cases hs
  · cases hs
theorem ab_s_pop {pc' : Nat} (row : ∀ (v : Value) (rest : List Value), v.category = 1 → W p l e R s m args below meth c H locs cells slots Q (F0 m pc' ls rest) → W p l e R s m args below meth c H locs cells slots Q (F0 m pc ls (v :: rest)))
    (hs : ab_pop loc st M = some (vc, loc', st', M')) (F : ab_Fr D cy h0 ad sa M s H locs ls nL loc st) (k : ab_K D cy h0 sa nL p l e R s m args below meth c Q ad cells slots M pc' loc' st' M') : W p l e R s m args below meth c H locs cells slots Q (F0 m pc ls (st.map (ab_cv ad sa))) := by
  unfold ab_pop at hs
  split at hs
  · split at hs
    · rename_i hc
      cases hs
      exact row _ _ (ab_cat1 hc) (k.pure (F.stk (ab_okt F.2.2.2)))
    · cases hs
  · cases hs
theorem ab_s_dup2 {pc' : Nat} (row1 : ∀ (v w : Value) (rest : List Value), v.category = 1 → w.category = 1 → W p l e R s m args below meth c H locs cells slots Q (F0 m pc' ls (v :: w :: v :: w :: rest)) → W p l e R s m args below meth c H locs cells slots Q (F0 m pc ls (v :: w :: rest)))
    (row2 : ∀ (v : Value) (rest : List Value), v.category = 2 → W p l e R s m args below meth c H locs cells slots Q (F0 m pc' ls (v :: v :: rest)) → W p l e R s m args below meth c H locs cells slots Q (F0 m pc ls (v :: rest)))
    (hs : ab_dup2 loc st M = some (vc, loc', st', M')) (F : ab_Fr D cy h0 ad sa M s H locs ls nL loc st) (k : ab_K D cy h0 sa nL p l e R s m args below meth c Q ad cells slots M pc' loc' st' M') : W p l e R s m args below meth c H locs cells slots Q (F0 m pc ls (st.map (ab_cv ad sa))) := by
  unfold ab_dup2 at hs
  split at hs
  · cases hs
    exact row2 _ _ rfl (k.pure (F.stk (ab_okc (ab_okh F.2.2.2) F.2.2.2)))
  · split at hs
    · rename_i hc
      cases hs
      exact row1 _ _ _ (ab_cat1 hc.1) (ab_cat1 hc.2) (k.pure (F.stk (ab_okc (ab_okh F.2.2.2) (ab_okc (ab_okh (ab_okt F.2.2.2)) F.2.2.2))))
    · cases hs
  · cases hs
end AB1
