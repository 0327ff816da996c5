/-! the frame of the real machine and the abstract one -/
def ab_tp (v : ab_V) : Bool := match v with
  | .inr (k, _, _, _) => decide (99 ≤ k)
  | _ => false
def ab_lvl (f : ab_V → Value) (loc : List ab_V) : List (Nat × Value) := (List.range loc.length).filterMap (fun i => match loc[i]? with
  | some v => if ab_tp v = true then none else some (i, f v)
  | none => none)
theorem ab_lvl_mem {f : ab_V → Value} {loc : List ab_V} {i : Nat} {v : ab_V} (h : loc[i]? = some v) (ht : ab_tp v = false) : (i, f v) ∈ ab_lvl f loc := by
  have hi : i < loc.length := (List.getElem?_eq_some_iff.mp h).1
  refine List.mem_filterMap.mpr ⟨i, List.mem_range.mpr hi, ?_⟩
  simp [h, ht]
theorem ab_lvl_of {f : ab_V → Value} {loc : List ab_V} {q : Nat × Value} (h : q ∈ ab_lvl f loc) : ∃ v, loc[q.1]? = some v ∧ ab_tp v = false ∧ f v = q.2 := by
  obtain ⟨i, hi, he⟩ := List.mem_filterMap.mp h
  cases hl : loc[i]? with
  | none => simp [hl] at he
  | some v =>
    cases ht : ab_tp v with
    | true => simp [hl, ht] at he
    | false =>
      simp [hl, ht] at he
      subst he
      exact ⟨v, hl, ht, rfl⟩
/-- the locals of the real frame hold what the abstract ones say -/
def ab_lh (ls : Array Slot) (nL : Nat) (f : ab_V → Value) (loc : List ab_V) : Prop := ls.size = nL ∧ lv_wf ls ∧ loc.length = nL ∧ ∀ (i : Nat) (v : ab_V), loc[i]? = some v → ab_tp v = false → ls[i]? = some (Slot.val (f v))
theorem ab_lh.has {ls : Array Slot} {nL : Nat} {f : ab_V → Value} {loc : List ab_V} (h : ab_lh ls nL f loc) : lv_has ls nL (ab_lvl f loc) := by
  refine ⟨h.1, h.2.1, fun q hq => ?_⟩
  obtain ⟨v, h1, h2, h3⟩ := ab_lvl_of hq
  rw [← h3]
  exact h.2.2.2 _ _ h1 h2
theorem ab_lh.of {ls : Array Slot} {nL : Nat} {f : ab_V → Value} {loc : List ab_V} {lv : List (Nat × Value)} (h : lv_has ls nL lv) (hn : loc.length = nL) (hm : ∀ (i : Nat) (v : ab_V), loc[i]? = some v → ab_tp v = false → (i, f v) ∈ lv) : ab_lh ls nL f loc :=
  ⟨h.1, h.2.1, hn, fun i v h1 h2 => h.2.2 _ (hm i v h1 h2)⟩
theorem ab_kill_len {loc : List ab_V} {i : Nat} : (ab_kill loc i).length = loc.length := by
  unfold ab_kill
  split
  · rfl
  · split <;> simp
/-- what is left behind a store ahead of it: what was there, and no long one place ahead -/
theorem ab_kill_at {loc : List ab_V} {i j : Nat} {v : ab_V} (h : (ab_kill loc i)[j]? = some v) (ht : ab_tp v = false) : loc[j]? = some v ∧ (j + 1 = i → ∀ x, v ≠ .inl (.long x)) := by
  cases i with
  | zero => exact ⟨h, fun q => by omega⟩
  | succ k =>
    have h : (match loc[k]? with | some (.inl (.long _)) => loc.set k ab_top | _ => loc)[j]? = some v := h
    cases hk : loc[k]? with
    | none =>
      rw [hk] at h
      exact ⟨h, fun q x e => by
        have : j = k := by omega
        subst this
        rw [hk] at h
        cases h⟩
    | some w =>
      rw [hk] at h
      by_cases hw : ∃ x, w = .inl (.long x)
      · obtain ⟨x, rfl⟩ := hw
        have h : (loc.set k ab_top)[j]? = some v := h
        rw [List.getElem?_set] at h
        by_cases hjk : k = j
        · rw [if_pos hjk] at h
          split at h
          · cases h; simp [ab_tp] at ht
          · cases h
        · rw [if_neg hjk] at h
          exact ⟨h, fun q => by omega⟩
      · have h2 : loc[j]? = some v := by
          revert h
          split
          · rename_i x e
            exact absurd ⟨_, Option.some.inj e⟩ hw
          · exact id
        refine ⟨h2, fun q x e => ?_⟩
        have : j = k := by omega
        subst this
        rw [hk] at h2
        cases h2
        exact hw ⟨x, e⟩
theorem ab_cat {ad sa : Nat → Nat} {M : ab_M} {v : ab_V} (ho : ab_ok M v) (h : (ab_cv ad sa v).category = 2) : ∃ x, v = .inl (.long x) := by
  cases v with
  | inl w =>
    cases w <;> first | exact ⟨_, rfl⟩ | (simp [ab_cv, Value.category] at h; done) | (exact ho.elim)
  | inr q =>
    obtain ⟨k, n, mm, id⟩ := q
    simp only [ab_cv] at h
    split at h
    · simp [Value.category] at h
    · split at h <;> simp [Value.category] at h
theorem ab_lh.st1 {ls ls' : Array Slot} {nL i : Nat} {ad sa : Nat → Nat} {M : ab_M} {loc : List ab_V} {v : ab_V} {w : Value} (hw : ab_cv ad sa v = w) (hi : i < loc.length) (h : ab_lh ls nL (ab_cv ad sa) loc) (ho : ∀ v ∈ loc, ab_ok M v)
    (h2 : lv_has ls' nL ((i, w) :: (ab_lvl (ab_cv ad sa) loc).filter (fun q => !(q.1 == i) && !(q.1 + 1 == i && q.2.category == 2)))) : ab_lh ls' nL (ab_cv ad sa) ((ab_kill loc i).set i v) := by
  refine ab_lh.of h2 (by rw [List.length_set, ab_kill_len]; exact h.2.2.1) (fun j u hu ht => ?_)
  rw [List.getElem?_set] at hu
  by_cases hj : i = j
  · subst hj
    rw [if_pos rfl, if_pos (by rw [ab_kill_len]; exact hi)] at hu
    cases hu
    rw [hw]
    exact List.mem_cons_self
  · rw [if_neg hj] at hu
    obtain ⟨h3, h4⟩ := ab_kill_at hu ht
    refine List.mem_cons_of_mem _ (List.mem_filter.mpr ⟨ab_lvl_mem h3 ht, ?_⟩)
    have hne : (j == i) = false := by simp; exact fun q => hj q.symm
    rw [hne]
    simp only [Bool.not_false, Bool.true_and, Bool.not_eq_true', Bool.and_eq_false_iff]
    by_cases hji : j + 1 = i
    · right
      cases hb : ((ab_cv ad sa u).category == 2) with
      | false => rfl
      | true =>
        obtain ⟨x, hx⟩ := ab_cat (ho u (List.mem_of_getElem? h3)) (by simpa using hb)
        exact absurd hx (h4 hji x)
    · left
      simp [hji]
theorem ab_lh.st2 {ls ls' : Array Slot} {nL i : Nat} {ad sa : Nat → Nat} {M : ab_M} {loc : List ab_V} {v : ab_V} {w : Value} (hw : ab_cv ad sa v = w) (hi : i + 1 < loc.length) (h : ab_lh ls nL (ab_cv ad sa) loc) (ho : ∀ v ∈ loc, ab_ok M v)
    (h2 : lv_has ls' nL ((i, w) :: (ab_lvl (ab_cv ad sa) loc).filter (fun q => !(q.1 == i) && (!(q.1 == i + 1) && !(q.1 + 1 == i && q.2.category == 2))))) : ab_lh ls' nL (ab_cv ad sa) (((ab_kill loc i).set i v).set (i + 1) ab_top) := by
  refine ab_lh.of h2 (by rw [List.length_set, List.length_set, ab_kill_len]; exact h.2.2.1) (fun j u hu ht => ?_)
  rw [List.getElem?_set] at hu
  by_cases hj1 : i + 1 = j
  · rw [if_pos hj1] at hu
    split at hu
    · cases hu; simp [ab_tp] at ht
    · cases hu
  · rw [if_neg hj1, List.getElem?_set] at hu
    by_cases hj : i = j
    · subst hj
      rw [if_pos rfl, if_pos (by rw [ab_kill_len]; omega)] at hu
      cases hu
      rw [hw]
      exact List.mem_cons_self
    · rw [if_neg hj] at hu
      obtain ⟨h3, h4⟩ := ab_kill_at hu ht
      refine List.mem_cons_of_mem _ (List.mem_filter.mpr ⟨ab_lvl_mem h3 ht, ?_⟩)
      have hne : (j == i) = false := by simp; exact fun q => hj q.symm
      have hne1 : (j == i + 1) = false := by simp; exact fun q => hj1 q.symm
      rw [hne, hne1]
      simp only [Bool.not_false, Bool.true_and, Bool.not_eq_true', Bool.and_eq_false_iff]
      by_cases hji : j + 1 = i
      · right
        cases hb : ((ab_cv ad sa u).category == 2) with
        | false => rfl
        | true =>
          obtain ⟨x, hx⟩ := ab_cat (ho u (List.mem_of_getElem? h3)) (by simpa using hb)
          exact absurd hx (h4 hji x)
      · left
        simp [hji]
/-- the world: the pool, its addresses, what has changed since s, all references good -/
def ab_In (D : va_G) (cy : Nat → ClassId) (h0 : Nat) (ad sa : Nat → Nat) (M : ab_M) (s : State) (H : Heap) (locs : List Loc) : Prop :=
  va_P D ab_cls (ab_pool cy ad sa M) H ∧ va_D (ab_A h0) (ab_pool cy ad sa M) ∧ va_S (ab_A h0) s.heap H locs ∧ ab_WF M
def ab_Fr (D : va_G) (cy : Nat → ClassId) (h0 : Nat) (ad sa : Nat → Nat) (M : ab_M) (s : State) (H : Heap) (locs : List Loc) (ls : Array Slot) (nL : Nat) (loc st : List ab_V) : Prop :=
  ab_In D cy h0 ad sa M s H locs ∧ ab_lh ls nL (ab_cv ad sa) loc ∧ (∀ v ∈ loc, ab_ok M v) ∧ (∀ v ∈ st, ab_ok M v)
/-- what is there keeps its address -/
def ab_Ext (n : Nat) (ad ad' : Nat → Nat) : Prop := ∀ i, i < n → ad' i = ad i
theorem ab_Ext.rf {n : Nat} {ad : Nat → Nat} : ab_Ext n ad ad := fun _ _ => rfl
theorem ab_Fr.stk {D : va_G} {cy : Nat → ClassId} {h0 : Nat} {ad sa : Nat → Nat} {M : ab_M} {s : State} {H : Heap} {locs : List Loc} {ls : Array Slot} {nL : Nat} {loc st st' : List ab_V} (F : ab_Fr D cy h0 ad sa M s H locs ls nL loc st) (h : ∀ v ∈ st', ab_ok M v) : ab_Fr D cy h0 ad sa M s H locs ls nL loc st' := ⟨F.1, F.2.1, F.2.2.1, h⟩
theorem ab_okc {M : ab_M} {v : ab_V} {st : List ab_V} (h : ab_ok M v) (hs : ∀ v ∈ st, ab_ok M v) : ∀ w ∈ v :: st, ab_ok M w := fun w hw => by
  rcases List.mem_cons.mp hw with rfl | h2
  · exact h
  · exact hs w h2
theorem ab_okt {M : ab_M} {v : ab_V} {st : List ab_V} (h : ∀ w ∈ v :: st, ab_ok M w) : ∀ w ∈ st, ab_ok M w := fun w hw => h w (List.mem_cons_of_mem _ hw)
theorem ab_okh {M : ab_M} {v : ab_V} {st : List ab_V} (h : ∀ w ∈ v :: st, ab_ok M w) : ab_ok M v := h v List.mem_cons_self
