/-! cells of the pool behind a write, and new ones -/
theorem ab_fld_ne {ad sa : Nat → Nat} {M M' : ab_M} {k id : Nat} (h1 : M'.1 id = M.1 id) (h2 : M'.2.1 id = M.2.1 id) (h3 : M'.2.2.1 k id = M.2.2.1 k id) : ab_fs ad sa M' k id = ab_fs ad sa M k id := by
  unfold ab_fs
  congr 1
  funext j
  unfold ab_fld
  rw [h1, h2, h3]
theorem ab_ent_ne {cy : Nat → ClassId} {ad sa : Nat → Nat} {M M' : ab_M} {id : Nat} (h1 : M'.1 id = M.1 id) (h2 : M'.2.1 id = M.2.1 id) (h3 : M'.2.2.1 (M.2.2.2.1 id).1 id = M.2.2.1 (M.2.2.2.1 id).1 id) (h4 : M'.2.2.2.1 id = M.2.2.2.1 id) : ab_ent cy ad sa M' id = ab_ent cy ad sa M id := by
  unfold ab_ent
  rw [h4, h3, h2, h1, ab_fld_ne h1 h2 h3]
theorem ab_ent_I {cy : Nat → ClassId} {ad sa : Nat → Nat} {M : ab_M} {id i j : Nat} {x : Int32} (h : j ≠ id) : ab_ent cy ad sa (ab_setI M id i x) j = ab_ent cy ad sa M j := ab_ent_ne (by simp [ab_upI, h]) rfl rfl rfl
theorem ab_ent_L {cy : Nat → ClassId} {ad sa : Nat → Nat} {M : ab_M} {id i j : Nat} {x : Int64} (h : j ≠ id) : ab_ent cy ad sa (ab_setL M id i x) j = ab_ent cy ad sa M j := ab_ent_ne rfl (by simp [ab_upL, h]) rfl rfl
theorem ab_ent_R {cy : Nat → ClassId} {ad sa : Nat → Nat} {M : ab_M} {k id i j : Nat} {x : ab_V} (h : j ≠ id) : ab_ent cy ad sa (ab_setR M k id i x) j = ab_ent cy ad sa M j := ab_ent_ne rfl rfl (by funext a; simp [ab_upR, h]) rfl
/-- an array of ints, bytes, truth values -/
theorem ab_ent_a {cy : Nat → ClassId} {ad sa : Nat → Nat} {M : ab_M} {k n m id : Nat} (h : M.2.2.2.1 id = (k, n, m)) (h1 : 13 ≤ k) (h2 : k ≠ 22) (h3 : k < 24) : ab_ent cy ad sa M id = .inl (cy k, n, .inl (M.1 id)) := by
  unfold ab_ent
  rw [h]
  rw [if_neg (by simp; omega), if_neg (by simpa using h2), if_neg (by simp; omega)]
theorem ab_ent_l {cy : Nat → ClassId} {ad sa : Nat → Nat} {M : ab_M} {n m id : Nat} (h : M.2.2.2.1 id = (22, n, m)) : ab_ent cy ad sa M id = .inl (cy 22, n, .inr (.inl (M.2.1 id))) := by
  unfold ab_ent
  rw [h]
  rfl
theorem ab_ent_r {cy : Nat → ClassId} {ad sa : Nat → Nat} {M : ab_M} {k n m id : Nat} (h : M.2.2.2.1 id = (k, n, m)) (h1 : 24 ≤ k) : ab_ent cy ad sa M id = .inl (cy k, n, .inr (.inr (.inr (.inr (fun i => ab_el ad (M.2.2.1 k id i)))))) := by
  unfold ab_ent
  rw [h]
  rw [if_neg (by simp; omega), if_neg (by simp; omega), if_pos (by simpa using h1)]
theorem ab_ent_o {cy : Nat → ClassId} {ad sa : Nat → Nat} {M : ab_M} {k n m id : Nat} (h : M.2.2.2.1 id = (k, n, m)) (h1 : k < 13) : ab_ent cy ad sa M id = .inr (k, ab_fs ad sa M k id) := by
  unfold ab_ent
  rw [h]
  rw [if_pos h1]
theorem ab_fs_len {ad sa : Nat → Nat} {M : ab_M} {k id : Nat} : (ab_fs ad sa M k id).length = (ab_lay k).length := by simp [ab_fs]
theorem ab_fs_at {ad sa : Nat → Nat} {M : ab_M} {k id j : Nat} (h : j < (ab_lay k).length) : (ab_fs ad sa M k id)[j]? = some (ab_fld ad sa M k id j) := by
  simp [ab_fs, List.getElem?_map, List.getElem?_range h]
theorem ab_fs_set {ad sa : Nat → Nat} {M M' : ab_M} {k id j : Nat} {v : Value} (hv : ab_fld ad sa M' k id j = v) (ho : ∀ i, i ≠ j → ab_fld ad sa M' k id i = ab_fld ad sa M k id i) : (ab_fs ad sa M k id).set j v = ab_fs ad sa M' k id := by
  apply List.ext_getElem?
  intro i
  rw [List.getElem?_set]
  by_cases hi : i < (ab_lay k).length
  · rw [ab_fs_at hi]
    by_cases h : j = i
    · subst h
      rw [if_pos rfl, if_pos (by rw [ab_fs_len]; exact hi), ab_fs_at hi, hv]
    · rw [if_neg h, ab_fs_at hi, ho i (fun q => h q.symm)]
  · have h1 : ∀ N : ab_M, (ab_fs ad sa N k id)[i]? = none := fun N => List.getElem?_eq_none (by rw [ab_fs_len]; omega)
    rw [h1, h1]
    by_cases h : j = i
    · subst h
      rw [if_pos rfl, if_neg (by rw [ab_fs_len]; exact hi)]
    · rw [if_neg h]
theorem ab_fld_I {ad sa : Nat → Nat} {M : ab_M} {k id j : Nat} {x : Int32} (h : (ab_lay k)[j]? = some 0) : (ab_fs ad sa M k id).set j (.int x) = ab_fs ad sa (ab_setI M id j x) k id := by
  refine ab_fs_set ?_ (fun i hi => ?_)
  · unfold ab_fld
    rw [h]
    simp [ab_upI, upd]
  · unfold ab_fld
    simp [ab_upI, upd, hi]
theorem ab_fld_L {ad sa : Nat → Nat} {M : ab_M} {k id j : Nat} {x : Int64} (h : (ab_lay k)[j]? = some 1) : (ab_fs ad sa M k id).set j (.long x) = ab_fs ad sa (ab_setL M id j x) k id := by
  refine ab_fs_set ?_ (fun i hi => ?_)
  · unfold ab_fld
    rw [h]
    simp [ab_upL, vp_updL]
  · unfold ab_fld
    simp [ab_upL, vp_updL, hi]
theorem ab_fld_R {ad sa : Nat → Nat} {M : ab_M} {k id j : Nat} {x : ab_V} (h : (ab_lay k)[j]? = some 2) : (ab_fs ad sa M k id).set j (ab_cv ad sa x) = ab_fs ad sa (ab_setR M k id j x) k id := by
  refine ab_fs_set ?_ (fun i hi => ?_)
  · unfold ab_fld
    rw [h]
    simp [ab_upR]
  · unfold ab_fld
    simp [ab_upR, hi]
/-- with other addresses for what is not there yet -/
theorem ab_cv_ext {ad ad' sa : Nat → Nat} {M : ab_M} {v : ab_V} (h : ab_Ext M.2.2.2.2.1 ad ad') (ho : ab_ok M v) : ab_cv ad' sa v = ab_cv ad sa v := by
  cases v with
  | inl w => rfl
  | inr q =>
    obtain ⟨k, n, mm, id⟩ := q
    simp only [ab_cv]
    by_cases hk : k < 30
    · rw [if_pos hk, if_pos hk, h id (ho hk).1]
    · rw [if_neg hk, if_neg hk]
theorem ab_ent_ext {cy : Nat → ClassId} {ad ad' sa : Nat → Nat} {M : ab_M} (h : ab_Ext M.2.2.2.2.1 ad ad') (hw : ab_WF M) {id : Nat} (hi : id < M.2.2.2.2.1) : ab_ent cy ad' sa M id = ab_ent cy ad sa M id := by
  have h1 := (hw id hi).1
  have e1 : ab_fs ad' sa M (M.2.2.2.1 id).1 id = ab_fs ad sa M (M.2.2.2.1 id).1 id := by
    unfold ab_fs
    congr 1
    funext j
    unfold ab_fld
    rw [ab_cv_ext h (ab_rok_ok (h1 j))]
  have e2 : ∀ j, ab_el ad' (M.2.2.1 (M.2.2.2.1 id).1 id j) = ab_el ad (M.2.2.1 (M.2.2.2.1 id).1 id j) := by
    intro j
    rcases h1 j with q | ⟨k, n, mm, i, q, -, h2, -⟩
    · rw [q]; rfl
    · rw [q]
      show some (ad' i) = some (ad i)
      rw [h i h2]
  unfold ab_ent
  rw [e1]
  simp only [e2]
/-- the pool with one thing more -/
theorem ab_pool_push {cy : Nat → ClassId} {ad ad' sa : Nat → Nat} {M M' : ab_M} {q : Nat} {e : va_E} (h : ab_Ext M.2.2.2.2.1 ad ad') (hw : ab_WF M) (hq : ad' M.2.2.2.2.1 = q) (hn : M'.2.2.2.2.1 = M.2.2.2.2.1 + 1) (he : ab_ent cy ad' sa M' M.2.2.2.2.1 = e) (ho : ∀ j, j < M.2.2.2.2.1 → ab_ent cy ad' sa M' j = ab_ent cy ad' sa M j) : ab_pool cy ad sa M ++ [(q, e)] = ab_pool cy ad' sa M' := by
  unfold ab_pool
  rw [hn, List.range_succ, List.map_append]
  congr 1
  · apply List.map_congr_left
    intro i hi
    have hi := List.mem_range.mp hi
    rw [h i hi, ho i hi, ab_ent_ext h hw hi]
  · simp [hq, he]
