/-! the world is made: runs of the constructors -/
def nuT (xs : Nat × (Nat → Int32)) (d i pc : Nat) (rows : List ab_Row) (loc st : List ab_V) (M : ab_M) (x : ab_X) (M' : ab_M) : Prop := ∃ f, ab_big ab_pg xs f d i pc rows loc st M x M'
section NU
variable {xs : Nat × (Nat → Int32)} {d i pc len j n : Nat} {rows rest : List ab_Row} {loc st st' av : List ab_V} {M M1 M' : ab_M} {x : ab_X} {ins : Instr} {r9 : List Nat} {z : ab_Mi}
theorem nu_nil {rows2 : List ab_Row} (h : ab_pg.2 i pc = some rows2) (hn : rows2 ≠ []) (k : nuT xs d i pc rows2 loc st M x M') : nuT xs d i pc [] loc st M x M' := by
  obtain ⟨f, hf⟩ := k
  exact ⟨f + 1, rows2, h, hn, hf⟩
theorem nu_blk (n : Nat) {vc : Prop} {pc' : Nat} {rows' : List ab_Row} {loc' st' : List ab_V} {M1 : ab_M} (h : ab_blk xs n pc rows loc st M = some (vc, pc', rows', loc', st', M1)) (hv : vc) (k : nuT xs d i pc' rows' loc' st' M1 x M') : nuT xs d i pc rows loc st M x M' := by
  obtain ⟨f, hf⟩ := k
  exact ⟨f + n, ab_blk_ok n _ _ _ _ _ _ _ _ _ _ _ h hv hf⟩
theorem nu_ret (hz : ab_pg.1 i = some z) (hr : z.2.2.2.1 = none) {r : List Nat} : nuT xs d i pc ((.return_, len, r) :: rest) loc [] M iV M := ⟨1, ⟨z, hz, hr⟩, rfl, rfl⟩
theorem nu_call (hc : ab_ctl ins = false) (hst : st = av.reverse ++ st') (hn : av.length = n) (hsz : ab_szs st' ≤ 8) (hrv : ab_rv (600 :: j :: n :: r9) av) (hz : ab_pg.1 j = some z) (hfl : (av.flatMap ab_lay1).length ≤ z.2.2.1) (hm : nuT xs d j 0 [] (ab_ent0 av z.2.2.1) [] M iV M1) (k : nuT xs (d + 1) i (pc + len) rest loc st' M1 x M') : nuT xs (d + 1) i pc ((ins, len, 600 :: j :: n :: r9) :: rest) loc st M x M' := by
  obtain ⟨f1, h1⟩ := hm
  obtain ⟨f2, h2⟩ := k
  exact ⟨f1 + f2 + 1, ab_big_call hc hst hn hsz hrv hz hfl (ab_big_up _ _ _ _ _ _ _ _ _ _ h1 (f1 + f2) d (by omega) (Nat.le_refl _)) (fun _ e9 => by subst e9; exact ab_big_up _ _ _ _ _ _ _ _ _ _ h2 (f1 + f2) (d + 1) (by omega) (Nat.le_refl _))⟩
end NU
/-! the wiring while things are being made: holes where a thing's places aren't set yet -/
def hO (Hs : List (Nat × Nat × List Nat)) (k b j : Nat) : Bool := Hs.any (fun h => h.1 == k && h.2.1 == b && !(h.2.2.contains j))
abbrev wNo : Nat → Nat → Nat → ab_V := ap_wr (fun _ _ => none)
def hR (Hs : List (Nat × Nat × List Nat)) : Nat → Nat → Nat → ab_V := fun k b j => if hO Hs k b j = true then ab_nul else wNo k b j
theorem hR_0 : hR [] = wNo := rfl
theorem hO_c {k b j k' b' : Nat} {S : List Nat} {Hs : List (Nat × Nat × List Nat)} : hO ((k', b', S) :: Hs) k b j = ((k' == k && b' == b && !(S.contains j)) || hO Hs k b j) := rfl
theorem hR_obj {Hs : List (Nat × Nat × List Nat)} {k n : Nat} : ab_rowR (hR Hs) k n (fun _ => ab_nul) = hR ((k, n, []) :: Hs) := by
  funext k' b j
  show (if k' = k ∧ b = n then (fun _ => ab_nul) else hR Hs k' b) j = if hO ((k, n, []) :: Hs) k' b j = true then ab_nul else wNo k' b j
  rw [hO_c]
  by_cases e : k' = k ∧ b = n
  · rw [if_pos e, e.1, e.2, if_pos (by simp)]
  · rw [if_neg e]
    have : (k == k' && n == b && !(([] : List Nat).contains j)) = false := by
      by_cases e1 : k = k'
      · by_cases e2 : n = b
        · exact absurd ⟨e1.symm, e2.symm⟩ e
        · simp [e2]
      · simp [e1]
    rw [this, Bool.false_or]
    rfl
theorem hR_arr {Hs : List (Nat × Nat × List Nat)} {k n : Nat} (h : ∀ j, wNo k n j = ab_nul) : ab_rowR (hR Hs) k n (fun _ => ab_nul) = hR Hs := by
  funext k' b j
  show (if k' = k ∧ b = n then (fun _ => ab_nul) else hR Hs k' b) j = hR Hs k' b j
  by_cases e : k' = k ∧ b = n
  · rw [if_pos e, e.1, e.2]
    unfold hR
    rw [h]
    split <;> rfl
  · rw [if_neg e]
theorem hR_set {Hs : List (Nat × Nat × List Nat)} {S : List Nat} {k id j : Nat} {v : ab_V} (hv : v = wNo k id j) (h0 : hO Hs k id j = false) : ab_upR (hR ((k, id, S) :: Hs)) k id j v = hR ((k, id, j :: S) :: Hs) := by
  funext k' b j'
  show (if k' = k ∧ b = id ∧ j' = j then v else hR ((k, id, S) :: Hs) k' b j') = hR ((k, id, j :: S) :: Hs) k' b j'
  unfold hR
  rw [hO_c, hO_c]
  by_cases e : k' = k ∧ b = id ∧ j' = j
  · obtain ⟨e1, e2, e3⟩ := e
    subst e1 e2 e3
    rw [if_pos ⟨rfl, rfl, rfl⟩, if_neg (by rw [h0]; simp), hv]
  · rw [if_neg e]
    have : (k == k' && id == b && !((j :: S).contains j')) = (k == k' && id == b && !(S.contains j')) := by
      by_cases e1 : k = k'
      · by_cases e2 : id = b
        · have e3 : ¬ j' = j := fun e3 => e ⟨e1.symm, e2.symm, e3⟩
          simp [e3]
        · rw [show (id == b) = false from beq_false_of_ne e2, Bool.and_false, Bool.false_and, Bool.false_and]
      · rw [show (k == k') = false from beq_false_of_ne e1, Bool.false_and, Bool.false_and, Bool.false_and]
    rw [this]
theorem hR_end {Hs : List (Nat × Nat × List Nat)} {S : List Nat} {k id : Nat} (h : ∀ j, S.contains j = false → wNo k id j = ab_nul) : hR ((k, id, S) :: Hs) = hR Hs := by
  funext k' b j
  unfold hR
  rw [hO_c]
  by_cases e : k' = k ∧ b = id
  · obtain ⟨e1, e2⟩ := e
    subst e1 e2
    cases hc : S.contains j with
    | true => simp
    | false => rw [h j hc]; simp
  · have : (k == k' && id == b && !(S.contains j)) = false := by
      by_cases e1 : k = k'
      · by_cases e2 : id = b
        · exact absurd ⟨e1.symm, e2.symm⟩ e
        · simp [e2]
      · simp [e1]
    rw [this, Bool.false_or]
theorem hR_grid {Hs : List (Nat × Nat × List Nat)} {n m id : Nat} (h : ∀ j, wNo 24 id j = ab_gr n m id j) (h0 : ∀ j, hO Hs 24 id j = false) : (fun k b j => if k = 24 ∧ b = id then (if j < n then (.inr (20, m, 0, id + 1 + j) : ab_V) else ab_nul) else if k = 20 ∧ id < b then ab_nul else hR Hs k b j) = hR Hs := by
  funext k b j
  by_cases e : k = 24 ∧ b = id
  · rw [if_pos e, e.1, e.2]
    unfold hR
    rw [if_neg (show ¬ hO Hs 24 id j = true by rw [h0]; decide), h]
    rfl
  · rw [if_neg e]
    by_cases e2 : k = 20 ∧ id < b
    · rw [if_pos e2, e2.1]
      unfold hR
      split <;> rfl
    · rw [if_neg e2]
section NV
variable {xs : Nat × (Nat → Int32)} {d c s : Nat} {I : Nat → Nat → Int32} {L : Nat → Nat → Int64} {S : Nat → Nat × Nat × Nat} {Hs : List (Nat × Nat × List Nat)}
theorem n_96 : nuT xs d 96 0 [] [.inr (9, 0, 0, 1)] [] (I, L, hR ((9, 1, []) :: [(11, 0, [])]), S, 2, c, s) iV (ab_upI (ab_rowI I 2 (fun _ => 0)) 1 6 (-1), ab_rowL L 2 (fun _ => 0), hR [(11, 0, [])], ab_upS S 2 (21, 600, 0), 3, c + 1, s + 600) := by
  refine nu_nil (rows2 := kb_96_0) rfl (List.cons_ne_nil _ _) ?_
  refine nu_blk 6 (pc' := 13) (rows' := kb_96_0.drop 6) (loc' := [.inr (9, 0, 0, 1)]) (st' := []) (M1 := (ab_rowI I 2 (fun _ => 0), ab_rowL L 2 (fun _ => 0), ab_upR (ab_rowR (hR ((9, 1, []) :: [(11, 0, [])])) 21 2 (fun _ => ab_nul)) 9 1 0 (.inr (21, 600, 0, 2)), ab_upS S 2 (21, 600, 0), 3, c + 1, s + 600)) rfl ⟨trivial, (by decide), trivial, trivial, ⟨by decide, by decide⟩, trivial, trivial⟩ ?_
  rw [hR_arr (fun j => rfl), hR_set (v := .inr (21, 600, 0, 2)) rfl rfl]
  refine nu_blk 3 (pc' := 18) (rows' := kb_96_0.drop 9) (loc' := [.inr (9, 0, 0, 1)]) (st' := []) (M1 := (ab_upI (ab_rowI I 2 (fun _ => 0)) 1 6 (-1), ab_rowL L 2 (fun _ => 0), hR ((9, 1, [0]) :: [(11, 0, [])]), ab_upS S 2 (21, 600, 0), 3, c + 1, s + 600)) rfl ⟨trivial, trivial, trivial, trivial⟩ ?_
  rw [hR_end (fun j hj => by
    rcases (show j = 0 ∨ ∃ z, j = z + 1 from by cases j with
      | zero => exact Or.inl rfl
      | succ z => exact Or.inr ⟨z, rfl⟩) with rfl | ⟨z, rfl⟩
    · cases hj
    · rfl)]
  exact nu_ret (z := km_96) rfl rfl
end NV
