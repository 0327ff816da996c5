/-! a deed is done, both sides -/
abbrev DD4 : Type := Nat × Nat × Nat × Nat
def WD (pe : Nat) (d : DD4) : Prop := (d.1 = 0 ∧ 1 ≤ d.2.1 ∧ d.2.1 ≤ 30) ∨ ((d.1 = 1 ∨ d.1 = 9) ∧ d.2.1 < pe ∧ d.2.2.1 < pe ∧ d.2.1 ≠ d.2.2.1 ∧ 1 ≤ d.2.2.2 ∧ d.2.2.2 ≤ 999) ∨ ((d.1 = 2 ∨ d.1 = 7) ∧ d.2.1 < 40 ∧ d.2.2.1 < pe) ∨ (d.1 = 3 ∧ d.2.1 < 40 ∧ 1 ≤ d.2.2.1 ∧ d.2.2.1 ≤ 999) ∨ (d.1 = 4 ∧ d.2.1 < 40 ∧ d.2.2.1 < 40 ∧ d.2.1 ≠ d.2.2.1) ∨ ((d.1 = 5 ∨ d.1 = 6 ∨ d.1 = 8) ∧ d.2.1 < 40)
/-- whether it could be done, and what is then -/
def sAct (W : WO) (d : DD4) : Bool × LG := match d.1 with
  | 0 => (true, lDay W.L (iN d.2.1))
  | 1 => (decide (W.L.2.1 < 40), sAdd W.L (iN d.2.1) (iN d.2.2.1) (iN d.2.2.2) 1)
  | 2 => if stL W.L d.2.1 = true ∧ W.L.1 1 d.2.1 ≠ iN d.2.2.1 then (true, sPass W.L d.2.1 d.2.2.1) else (false, W.L)
  | 3 => if stL W.L d.2.1 = true then (decide (iN d.2.2.1 < W.L.1 2 d.2.1) && decide (W.L.2.1 < 40), if iN d.2.2.1 < W.L.1 2 d.2.1 ∧ W.L.2.1 < 40 then sSplit W.L d.2.1 (iN d.2.2.1) else W.L) else (false, W.L)
  | 4 => if stL W.L d.2.1 = true then (jOk W.L d.2.1 d.2.2.1, if jOk W.L d.2.1 d.2.2.1 then sJoin W.L d.2.1 d.2.2.1 else W.L) else (false, W.L)
  | 5 => if stL W.L d.2.1 = true then (!decide (W.L.1 8 d.2.1 = W.L.2.2.1), if W.L.1 8 d.2.1 = W.L.2.2.1 then W.L else sTell W.L d.2.1 W.it) else (false, W.L)
  | 6 => if opn W d.2.1 = true then (true, sGone W.L d.2.1 1) else (false, W.L)
  | 7 => if stL W.L d.2.1 = true ∧ W.L.1 0 d.2.1 ≠ iN d.2.2.1 ∧ W.L.1 1 d.2.1 ≠ iN d.2.2.1 then (decide (W.L.2.1 < 40), sAdd W.L (iN d.2.2.1) (W.L.1 1 d.2.1) 1 1) else (false, W.L)
  | 8 => if stL W.L d.2.1 = true then (true, sGone W.L d.2.1 2) else (false, W.L)
  | _ => (!decide (sPay W.L (iN d.2.1) (iN d.2.2.1) d.2.2.2 = 0), payN W.L (sPay W.L (iN d.2.1) (iN d.2.2.1) d.2.2.2) d.2.2.1 40)
def sAc (b : Nat) (_ : Nat) : Prop := b = 17 ∨ (43 ≤ b ∧ b ≤ 45) ∨ b = 47 ∨ b = 51
def sAr (b : Nat) (_ : Nat) : Prop := b = 475 ∨ b = 476 ∨ b = 477 ∨ (504 ≤ b ∧ b ≤ 545)
section AC
variable {W : WO} {P : ab_P} {k n N : Nat}
theorem CW_upd {P' : ab_P} {L' : LG} (h : CW W P) (hL : CL 43 L' P') (f : fr sAc P P') : CW (L', W.2) P' := by
  refine ⟨hL, ⟨h.2.1.1, ?_, fun k hk => ?_⟩, fun p hp => ?_, ?_, ?_, ?_⟩
  · rw [f.1 _ _ (by unfold sAc; omega)]; exact h.2.1.2.1
  · rw [f.1 _ _ (by unfold sAc; omega)]; exact h.2.1.2.2 k hk
  · rw [f.1 _ _ (by unfold sAc; omega)]; exact h.2.2.1 p hp
  · rw [f.1 _ _ (by unfold sAc; omega)]; exact h.2.2.2.1
  · rw [f.1 _ _ (by unfold sAc; omega)]; exact h.2.2.2.2.1
  · rw [f.1 _ _ (by unfold sAc; omega)]; exact h.2.2.2.2.2
theorem RW_upd {P' : ab_P} {L' : LG} (h : RW W P) (ok : OK W) (hL : RL 477 L' P') (f : fr sAr P P') : RW (L', W.2) P' := by
  have h150 := ok.2.1.1
  refine ⟨hL, ?_, fun p hp => ?_, ?_, ?_, ?_⟩
  · rcases h.2.1 with ⟨h1, h2, h3⟩ | ⟨h1, h2⟩
    · refine Or.inl ⟨?_, h2, fun k hk => ⟨?_, ?_⟩⟩
      · rw [f.1 _ _ (by unfold sAr; omega)]; exact h1
      · rw [f.1 _ _ (by unfold sAr; have : k < W.w.1 := hk; omega)]; exact (h3 k hk).1
      · rw [f.1 _ _ (by unfold sAr; have : k < W.w.1 := hk; omega)]; exact (h3 k hk).2
    · refine Or.inr ⟨?_, h2⟩
      rw [f.1 _ _ (by unfold sAr; omega)]; exact h1
  · rw [f.1 _ _ (by unfold sAr; omega)]; exact h.2.2.1 p hp
  · rw [f.1 _ _ (by unfold sAr; omega)]; exact h.2.2.2.1
  · rw [f.1 _ _ (by unfold sAr; omega)]; exact h.2.2.2.2.1
  · rw [f.1 _ _ (by unfold sAr; omega)]; exact h.2.2.2.2.2
theorem sI_A : ∀ b j, sI 43 b j → sAc b j := fun b j h => by
  unfold sI at h
  unfold sAc
  omega
theorem s47_A : ∀ b j, s47 b j → sAc b j := fun b j h => by
  unfold s47 at h
  unfold sAc
  omega
theorem sE_A : ∀ b j, sE 477 b j → sAr b j := fun b j h => by
  unfold sE at h
  unfold sAr
  omega
theorem s75_A : ∀ b j, s75 b j → sAr b j := fun b j h => by
  unfold s75 at h
  unfold sAr
  omega
theorem sFw_A : ∀ b j, sFw b j → sAr b j := fun b j h => by
  unfold sFw at h
  unfold sAr
  omega
theorem sAct_WF (ok : OK W) {d : DD4} (hd : WD W.pe d) : WF W.pe (sAct W d).2 := by
  obtain ⟨w, wl, wi⟩ := ok
  obtain ⟨t, a, b, c⟩ := d
  unfold WD at hd
  dsimp only at hd
  rcases hd with ⟨rfl, h1, h2⟩ | ⟨rfl | rfl, h1, h2, h3, h4, h5⟩ | ⟨rfl | rfl, h1, h2⟩ | ⟨rfl, h1, h2, h3⟩ | ⟨rfl, h1, h2, h3⟩ | ⟨rfl | rfl | rfl, h1⟩
  · exact w
  · exact WF_add w ⟨a, h1, rfl⟩ ⟨b, h2, rfl⟩ ⟨c, h4, by omega, rfl⟩ (Or.inr rfl)
  · exact payN_WF w h2 _
  · show WF W.pe (if _ then _ else _ : Bool × LG).2
    split
    · exact WF_pass w h2
    · exact w
  · show WF W.pe (if _ then _ else _ : Bool × LG).2
    split
    · rename_i hh
      exact WF_add w ⟨b, h2, rfl⟩ (w.2 a (stL_lt hh.1)).2.1 ⟨1, by decide, by decide, rfl⟩ (Or.inr rfl)
    · exact w
  · show WF W.pe (if _ then _ else _ : Bool × LG).2
    split
    · rename_i hh
      show WF W.pe (if _ then _ else _)
      split
      · rename_i h4
        exact WF_split w (stL_lt hh) h2 (show b < 1000 by omega) h4.1
      · exact w
    · exact w
  · show WF W.pe (if _ then _ else _ : Bool × LG).2
    split
    · rename_i hh
      show WF W.pe (if _ then _ else _)
      split
      · rename_i h4
        exact WF_join w (stL_lt hh) h4
      · exact w
    · exact w
  · show WF W.pe (if _ then _ else _ : Bool × LG).2
    split
    · rename_i hh
      show WF W.pe (if _ then _ else _)
      split
      · exact w
      · exact WF_tell w (stL_lt hh)
    · exact w
  · show WF W.pe (if _ then _ else _ : Bool × LG).2
    split
    · exact WF_gone w
    · exact w
  · show WF W.pe (if _ then _ else _ : Bool × LG).2
    split
    · exact WF_gone w
    · exact w
theorem bI_n (b : Bool) : vp_nar .boolean (bI b) = bI b := bI_nar b
theorem c_nar {o : Option (Int32 × ab_P)} {b : Bool} {L' : LG} {P0 : ab_P} (h : TT o (fun q => q.1 = bI b ∧ CL 43 L' q.2 ∧ fr sAc P0 q.2)) : TT (ab_b2 o fun v P => if vp_nar .boolean v = v then some (v, P) else none) (fun q => q.1 = bI b ∧ CL 43 L' q.2 ∧ fr sAc P0 q.2) := by
  refine TT_b2 h (fun v P hv => ?_)
  have e : v = bI b := hv.1
  rw [e, if_pos (bI_n b)]
  exact TT_some ⟨rfl, hv.2⟩
theorem r_nar {o : Option (Int32 × ab_P)} {b : Bool} {L' : LG} {P0 : ab_P} (h : TT o (fun q => q.1 = bI b ∧ RL 477 L' q.2 ∧ fr sAr P0 q.2)) : TT (ab_b2 o fun v P => if vp_nar .boolean v = v then some (v, P) else none) (fun q => q.1 = bI b ∧ RL 477 L' q.2 ∧ fr sAr P0 q.2) := by
  refine TT_b2 h (fun v P hv => ?_)
  have e : v = bI b := hv.1
  rw [e, if_pos (bI_n b)]
  exact TT_some ⟨rfl, hv.2⟩
theorem c_act (h : CW W P) (ok : OK W) {d : DD4} (hd : WD W.pe d) (hN : 70000 ≤ N) : TT (f_293 N (iN d.1) (iN d.2.1) (iN d.2.2.1) (iN d.2.2.2) P) (fun q => q.1 = bI (sAct W d).1 ∧ CL 43 (sAct W d).2 q.2 ∧ fr sAc P q.2) := by
  have h40 := h.c.m40
  have h8 := ok.1.1
  obtain ⟨t, a, b, c⟩ := d
  unfold WD at hd
  dsimp only at hd ⊢
  have toA : ∀ {b : Bool} {L' : LG} {o : Option (Int32 × ab_P)}, TT o (fun q => q.1 = bI b ∧ CL 43 L' q.2 ∧ fr (sI 43) P q.2) → TT o (fun q => q.1 = bI b ∧ CL 43 L' q.2 ∧ fr sAc P q.2) := fun ht => ht.mono (fun q hq => ⟨hq.1, hq.2.1, hq.2.2.mono sI_A⟩)
  have stay : ∀ o : Option (Int32 × ab_P), o = some (0, P) → TT o (fun q => q.1 = bI false ∧ CL 43 W.L q.2 ∧ fr sAc P q.2) := fun o ho => TT_eq ho ⟨rfl, h.c, fr.rf⟩
  rcases hd with ⟨rfl, h1, h2⟩ | ⟨rfl | rfl, h1, h2, h3, h4, h5⟩ | ⟨rfl | rfl, h1, h2⟩ | ⟨rfl, h1, h2, h3⟩ | ⟨rfl, h1, h2, h3⟩ | ⟨rfl | rfl | rfl, h1⟩
  · -- a day
    unfold f_293
    rw [if_pos (show iN 0 = 0 from rfl)]
    refine TT_lt (TT_some ⟨rfl, h.c.dayU, fr.I (by unfold sAc; omega)⟩)
  · -- a slap
    unfold f_293
    rw [if_neg (by decide), if_pos (show iN 1 = 1 from rfl)]
    exact c_nar (toA (c_add h.c _ _ _ _))
  · -- pay
    unfold f_293
    rw [if_neg (by decide), if_neg (by decide), if_neg (by decide), if_neg (by decide), if_neg (by decide), if_neg (by decide), if_neg (by decide), if_neg (by decide), if_neg (by decide)]
    refine TT_b2 (c_fewestF (a := iN a) (b := iN b) h ok h4 (by omega) hN) (fun v P1 hv => ?_)
    have s51' : ∀ b j : Nat, b = 51 → sAc b j := fun b j h => by unfold sAc; omega
    have e : v = jN (sPay W.L (iN a) (iN b) c) := hv.1
    rw [e]
    have g := h.fr (hv.2.mono s51)
    have hab : iN a ≠ iN b := by rw [ne_eq, iN_eq (by omega) (by omega)]; exact h3
    exact c_nar ((c_payWith g.c (sPay_lt h40 _ _ _) (fun k hk => sPay_bits hk) hab hN).mono (fun q hq => ⟨hq.1, hq.2.1, (hv.2.mono s51').tr (hq.2.2.mono sI_A)⟩))
  · -- pass
    unfold f_293
    rw [if_neg (by decide), if_neg (by decide), if_pos (show iN 2 = 2 from rfl)]
    show TT _ (fun (q : Int32 × ab_P) => q.1 = bI (if stL W.L a = true ∧ W.L.1 1 a ≠ iN b then (true, sPass W.L a b) else (false, W.L)).1 ∧ CL 43 (if stL W.L a = true ∧ W.L.1 1 a ≠ iN b then (true, sPass W.L a b) else (false, W.L)).2 q.2 ∧ fr sAc P q.2)
    by_cases hc : stL W.L a = true ∧ W.L.1 1 a ≠ iN b
    · rw [if_pos hc]
      exact c_nar (b := true) (toA (c_give h.c hc.1 hc.2))
    · rw [if_neg hc]
      refine c_nar (b := false) (stay _ (c_giveN h.c (iN b) (by omega) ?_))
      cases hs : stL W.L a with
      | false => exact Or.inl rfl
      | true =>
        refine Or.inr ⟨rfl, ?_⟩
        by_cases hb : W.L.1 1 a = iN b
        · exact hb
        · exact absurd ⟨hs, hb⟩ hc
  · -- wrongly
    unfold f_293
    rw [if_neg (by decide), if_neg (by decide), if_neg (by decide), if_neg (by decide), if_neg (by decide), if_neg (by decide), if_neg (by decide), if_pos (show iN 7 = 7 from rfl)]
    show TT _ (fun (q : Int32 × ab_P) => q.1 = bI (if stL W.L a = true ∧ W.L.1 0 a ≠ iN b ∧ W.L.1 1 a ≠ iN b then (decide (W.L.2.1 < 40), sAdd W.L (iN b) (W.L.1 1 a) 1 1) else (false, W.L)).1 ∧ CL 43 (if stL W.L a = true ∧ W.L.1 0 a ≠ iN b ∧ W.L.1 1 a ≠ iN b then (decide (W.L.2.1 < 40), sAdd W.L (iN b) (W.L.1 1 a) 1 1) else (false, W.L)).2 q.2 ∧ fr sAc P q.2)
    refine c_nar ?_
    unfold f_340
    rw [show f_231 43 P (1 : Int32) (iN a) = _ from c_raw (f := 1) (by decide) h1, Option.bind_some, c_stand h.c (by omega), Option.bind_some]
    cases hs : stL W.L a with
    | false =>
      rw [if_pos (by rw [bI_0]), if_neg (fun e => by cases e.1)]
      exact stay _ rfl
    | true =>
      have hl := stL_lt hs
      have e1 : P.1 (43 + 1) (1 * 40 + a) = W.L.1 1 a := h.c.2.2.2.2 1 (by decide) a hl
      rw [if_neg (by rw [bI_0]; decide), c_get0 h.c hl, Option.bind_some, e1]
      by_cases h0 : W.L.1 0 a = iN b
      · rw [if_pos h0, if_neg (fun e => e.2.1 h0)]
        exact stay _ rfl
      · by_cases hb : W.L.1 1 a = iN b
        · rw [if_neg h0, if_pos hb, if_neg (fun e => e.2.2 hb)]
          exact stay _ rfl
        · rw [if_neg h0, if_neg hb, if_pos ⟨rfl, h0, hb⟩]
          refine TT_b2 (c_add h.c (iN b) (W.L.1 1 a) 1 1) (fun v P1 hv => ?_)
          have e : v = bI (decide (W.L.2.1 < 40)) := hv.1
          rw [e]
          cases hm : decide (W.L.2.1 < 40) with
          | false => rw [if_pos (show bI false = 0 from rfl)]; exact TT_some ⟨rfl, hv.2.1, hv.2.2.mono sI_A⟩
          | true => rw [if_neg (show ¬ bI true = 0 by decide)]; exact TT_some ⟨rfl, hv.2.1, hv.2.2.mono sI_A⟩
  · -- split
    unfold f_293
    rw [if_neg (by decide), if_neg (by decide), if_neg (by decide), if_pos (show iN 3 = 3 from rfl)]
    show TT _ (fun (q : Int32 × ab_P) => q.1 = bI (if stL W.L a = true then (decide (iN b < W.L.1 2 a) && decide (W.L.2.1 < 40), if iN b < W.L.1 2 a ∧ W.L.2.1 < 40 then sSplit W.L a (iN b) else W.L) else (false, W.L)).1 ∧ CL 43 (if stL W.L a = true then (decide (iN b < W.L.1 2 a) && decide (W.L.2.1 < 40), if iN b < W.L.1 2 a ∧ W.L.2.1 < 40 then sSplit W.L a (iN b) else W.L) else (false, W.L)).2 q.2 ∧ fr sAc P q.2)
    cases hs : stL W.L a with
    | true =>
      rw [if_pos rfl]
      exact c_nar (toA (c_split h.c hs (iN b) hN))
    | false =>
      rw [if_neg (by decide)]
      exact c_nar (b := false) (stay _ (c_splitN h.c hs h1 (iN b)))
  · -- join
    unfold f_293
    rw [if_neg (by decide), if_neg (by decide), if_neg (by decide), if_neg (by decide), if_pos (show iN 4 = 4 from rfl)]
    show TT _ (fun (q : Int32 × ab_P) => q.1 = bI (if stL W.L a = true then (jOk W.L a b, if jOk W.L a b then sJoin W.L a b else W.L) else (false, W.L)).1 ∧ CL 43 (if stL W.L a = true then (jOk W.L a b, if jOk W.L a b then sJoin W.L a b else W.L) else (false, W.L)).2 q.2 ∧ fr sAc P q.2)
    cases hs : stL W.L a with
    | true =>
      rw [if_pos rfl]
      exact c_nar (toA (c_join h.c hs (by omega) h3))
    | false =>
      rw [if_neg (by decide)]
      exact c_nar (b := false) (stay _ (c_joinN h.c hs (by omega) (by omega) h3))
  · -- tell
    unfold f_293
    rw [if_neg (by decide), if_neg (by decide), if_neg (by decide), if_neg (by decide), if_neg (by decide), if_pos (show iN 5 = 5 from rfl), h.it]
    show TT _ (fun (q : Int32 × ab_P) => q.1 = bI (if stL W.L a = true then (!decide (W.L.1 8 a = W.L.2.2.1), if W.L.1 8 a = W.L.2.2.1 then W.L else sTell W.L a W.it) else (false, W.L)).1 ∧ CL 43 (if stL W.L a = true then (!decide (W.L.1 8 a = W.L.2.2.1), if W.L.1 8 a = W.L.2.2.1 then W.L else sTell W.L a W.it) else (false, W.L)).2 q.2 ∧ fr sAc P q.2)
    cases hs : stL W.L a with
    | true =>
      rw [if_pos rfl]
      exact c_nar (toA (c_tell h.c ok.1 hs ok.2.2 hN))
    | false =>
      rw [if_neg (by decide)]
      exact c_nar (b := false) (stay _ (c_tellN h.c hs (by omega) (iN W.it)))
  · -- said
    unfold f_293
    rw [if_neg (by decide), if_neg (by decide), if_neg (by decide), if_neg (by decide), if_neg (by decide), if_neg (by decide), if_pos (show iN 6 = 6 from rfl)]
    show TT _ (fun (q : Int32 × ab_P) => q.1 = bI (if opn W a = true then (true, sGone W.L a 1) else (false, W.L)).1 ∧ CL 43 (if opn W a = true then (true, sGone W.L a 1) else (false, W.L)).2 q.2 ∧ fr sAc P q.2)
    refine TT_b2 (c_openG h ok (by omega) hN) (fun v P1 hv => ?_)
    have e : v = bI (opn W a) := hv.1
    have g := h.fr (hv.2.mono s47_C)
    rw [e]
    cases ho : opn W a with
    | false =>
      rw [if_pos (show bI false = 0 from rfl), if_neg (show ¬ false = true by decide)]
      exact TT_some ⟨rfl, g.c, hv.2.mono s47_A⟩
    | true =>
      rw [if_neg (show ¬ bI true = 0 by decide), if_pos (show true = true from rfl)]
      refine TT_b2 (c_gone g.c (opn_lt ho) (t := 1) (by decide) (by decide)) (fun v2 P2 hv2 => ?_)
      have e2 : v2 = 1 := hv2.1
      rw [e2, if_neg (by decide)]
      exact TT_some ⟨rfl, hv2.2.1, (hv.2.mono s47_A).tr (hv2.2.2.mono sI_A)⟩
  · -- forgive
    unfold f_293
    rw [if_neg (by decide), if_neg (by decide), if_neg (by decide), if_neg (by decide), if_neg (by decide), if_neg (by decide), if_neg (by decide), if_neg (by decide), if_pos (show iN 8 = 8 from rfl)]
    show TT _ (fun (q : Int32 × ab_P) => q.1 = bI (if stL W.L a = true then (true, sGone W.L a 2) else (false, W.L)).1 ∧ CL 43 (if stL W.L a = true then (true, sGone W.L a 2) else (false, W.L)).2 q.2 ∧ fr sAc P q.2)
    cases hs : stL W.L a with
    | true =>
      rw [if_pos rfl]
      exact c_nar (b := true) (toA (c_gone h.c hs (t := 2) (by decide) (by decide)))
    | false =>
      rw [if_neg (by decide)]
      exact c_nar (b := false) (stay _ (c_goneN h.c hs (by omega) 2))
/-- a deed as the reference holds it, at i2 -/
def RD4 (i2 : Nat) (d : DD4) (P : ab_P) : Prop := P.1 i2 0 = iN d.1 ∧ P.1 i2 1 = iN d.2.1 ∧ ((d.1 ≠ 0 ∧ d.1 ≠ 5 ∧ d.1 ≠ 6 ∧ d.1 ≠ 8) → P.1 i2 2 = iN d.2.2.1) ∧ ((d.1 = 1 ∨ d.1 = 9) → P.1 i2 3 = iN d.2.2.2)
theorem r_act (h : RW W P) (ok : OK W) {d : DD4} (hd : WD W.pe d) {i2 : Nat} (hD : RD4 i2 d P) (hN : 70000 ≤ N) : TT (f_124_366_4 477 i2 N P) (fun q => q.1 = bI (sAct W d).1 ∧ RL 477 (sAct W d).2 q.2 ∧ fr sAr P q.2) := by
  have h40 := h.r.m40
  have h8 := ok.1.1
  obtain ⟨t, a, b, c⟩ := d
  unfold WD at hd
  unfold RD4 at hD
  dsimp only at hd hD ⊢
  obtain ⟨d0, d1, d2, d3⟩ := hD
  have toA : ∀ {b : Bool} {L' : LG} {o : Option (Int32 × ab_P)}, TT o (fun q => q.1 = bI b ∧ RL 477 L' q.2 ∧ fr (sE 477) P q.2) → TT o (fun q => q.1 = bI b ∧ RL 477 L' q.2 ∧ fr sAr P q.2) := fun ht => ht.mono (fun q hq => ⟨hq.1, hq.2.1, hq.2.2.mono sE_A⟩)
  have stay : ∀ o : Option (Int32 × ab_P), o = some (0, P) → TT o (fun q => q.1 = bI false ∧ RL 477 W.L q.2 ∧ fr sAr P q.2) := fun o ho => TT_eq ho ⟨rfl, h.r, fr.rf⟩
  unfold f_124_366_4
  rcases hd with ⟨rfl, h1, h2⟩ | ⟨rfl | rfl, h1, h2, h3, h4, h5⟩ | ⟨rfl | rfl, h1, h2⟩ | ⟨rfl, h1, h2, h3⟩ | ⟨rfl, h1, h2, h3⟩ | ⟨rfl | rfl | rfl, h1⟩
  · rw [d0, if_pos (show iN 0 = 0 from rfl), d1]
    exact TT_lt (TT_some ⟨rfl, h.r.dayU, fr.I (by unfold sAr; omega)⟩)
  · rw [d0, if_neg (by decide), if_pos (show iN 1 = 1 from rfl), d1, d2 (by decide), d3 (by decide)]
    refine TT_b2 (r_add h.r _ _ _ _) (fun v P1 hv => ?_)
    have e : v = if W.L.2.1 < 40 then iN W.L.2.1 else -1 := hv.1
    show TT (if v = -1 then _ else _) (fun (q : Int32 × ab_P) => q.1 = bI (decide (W.L.2.1 < 40)) ∧ _)
    by_cases hm : W.L.2.1 < 40
    · rw [e, if_pos hm, if_neg (by rw [iN_nm1 (by omega)]; exact id), decide_eq_true hm]
      exact TT_some ⟨rfl, hv.2.1, hv.2.2.mono sE_A⟩
    · rw [e, if_neg hm, if_pos rfl, decide_eq_false hm]
      exact TT_some ⟨rfl, hv.2.1, hv.2.2.mono sE_A⟩
  · rw [d0, if_neg (by decide), if_neg (by decide), if_pos (show iN 9 = 9 from rfl), d1, d2 (by decide), d3 (by decide)]
    refine r_nar ?_
    unfold f_218_366
    refine TT_b2 (r_fewestF (a := iN a) (b := iN b) h ok (n0 := c) (by omega) hN) (fun v P1 hv => ?_)
    have e : v = jN (sPay W.L (iN a) (iN b) c) := hv.1
    rw [e]
    have g := h.fr ok (hv.2.mono sFw_R)
    exact (r_payAll g.r (sPay_lt h40 _ _ _) (fun k hk => sPay_bits hk) hN).mono (fun q hq => ⟨hq.1, hq.2.1, (hv.2.mono sFw_A).tr (hq.2.2.mono sE_A)⟩)
  · rw [d0, if_neg (by decide), if_neg (by decide), if_neg (by decide), d1, r_stand h.r (by omega), Option.bind_some]
    show TT _ (fun (q : Int32 × ab_P) => q.1 = bI (if stL W.L a = true ∧ W.L.1 1 a ≠ iN b then (true, sPass W.L a b) else (false, W.L)).1 ∧ RL 477 (if stL W.L a = true ∧ W.L.1 1 a ≠ iN b then (true, sPass W.L a b) else (false, W.L)).2 q.2 ∧ fr sAr P q.2)
    cases hs : stL W.L a with
    | false =>
      rw [if_pos (by rw [bI_0]), if_neg (fun e => by cases e.1)]
      exact stay _ rfl
    | true =>
      have hl := stL_lt hs
      rw [if_neg (by rw [bI_0]; decide), r_of1 h.r hl, Option.bind_some, if_pos (show iN 2 = 2 from rfl), d2 (by decide)]
      by_cases hb : W.L.1 1 a = iN b
      · rw [if_pos hb, if_neg (fun e => e.2 hb)]
        exact stay _ rfl
      · rw [if_neg hb, if_pos ⟨rfl, hb⟩]
        exact TT_bind (r_passes h.r hl b) (fun P1 hv => TT_some ⟨rfl, hv.1, hv.2.mono sE_A⟩)
  · rw [d0, if_neg (by decide), if_neg (by decide), if_neg (by decide), d1, r_stand h.r (by omega), Option.bind_some]
    show TT _ (fun (q : Int32 × ab_P) => q.1 = bI (if stL W.L a = true ∧ W.L.1 0 a ≠ iN b ∧ W.L.1 1 a ≠ iN b then (decide (W.L.2.1 < 40), sAdd W.L (iN b) (W.L.1 1 a) 1 1) else (false, W.L)).1 ∧ RL 477 (if stL W.L a = true ∧ W.L.1 0 a ≠ iN b ∧ W.L.1 1 a ≠ iN b then (decide (W.L.2.1 < 40), sAdd W.L (iN b) (W.L.1 1 a) 1 1) else (false, W.L)).2 q.2 ∧ fr sAr P q.2)
    cases hs : stL W.L a with
    | false =>
      rw [if_pos (by rw [bI_0]), if_neg (fun e => by cases e.1)]
      exact stay _ rfl
    | true =>
      have hl := stL_lt hs
      rw [if_neg (by rw [bI_0]; decide), r_of1 h.r hl, Option.bind_some, if_neg (by decide), if_neg (by decide), if_neg (by decide), if_neg (by decide), if_neg (by decide), if_pos (show iN 7 = 7 from rfl), d2 (by decide)]
      by_cases hb : W.L.1 1 a = iN b
      · rw [if_pos hb.symm, if_neg (fun e => e.2.2 hb)]
        exact stay _ rfl
      · rw [if_neg (fun e => hb e.symm), r_of0 h.r hl, Option.bind_some]
        by_cases h0 : W.L.1 0 a = iN b
        · rw [if_pos h0.symm, if_neg (fun e => e.2.1 h0)]
          exact stay _ rfl
        · rw [if_neg (fun e => h0 e.symm), if_pos ⟨rfl, h0, hb⟩]
          refine TT_b2 (r_add h.r (iN b) (W.L.1 1 a) 1 1) (fun v P1 hv => ?_)
          have e : v = if W.L.2.1 < 40 then iN W.L.2.1 else -1 := hv.1
          by_cases hm : W.L.2.1 < 40
          · rw [e, if_pos hm, if_neg (by rw [iN_nm1 (by omega)]; exact id), decide_eq_true hm]
            exact TT_some ⟨rfl, hv.2.1, hv.2.2.mono sE_A⟩
          · rw [e, if_neg hm, if_pos rfl, decide_eq_false hm]
            exact TT_some ⟨rfl, hv.2.1, hv.2.2.mono sE_A⟩
  · rw [d0, if_neg (by decide), if_neg (by decide), if_neg (by decide), d1, r_stand h.r (by omega), Option.bind_some]
    show TT _ (fun (q : Int32 × ab_P) => q.1 = bI (if stL W.L a = true then (decide (iN b < W.L.1 2 a) && decide (W.L.2.1 < 40), if iN b < W.L.1 2 a ∧ W.L.2.1 < 40 then sSplit W.L a (iN b) else W.L) else (false, W.L)).1 ∧ RL 477 (if stL W.L a = true then (decide (iN b < W.L.1 2 a) && decide (W.L.2.1 < 40), if iN b < W.L.1 2 a ∧ W.L.2.1 < 40 then sSplit W.L a (iN b) else W.L) else (false, W.L)).2 q.2 ∧ fr sAr P q.2)
    cases hs : stL W.L a with
    | false =>
      rw [if_pos (by rw [bI_0]), if_neg (by decide)]
      exact stay _ rfl
    | true =>
      have hl := stL_lt hs
      rw [if_neg (by rw [bI_0]; decide), r_of1 h.r hl, Option.bind_some, if_neg (by decide), if_pos (show iN 3 = 3 from rfl), d2 (by decide), if_pos rfl]
      exact r_nar (toA (r_splits h.r hl (iN b) hN))
  · rw [d0, if_neg (by decide), if_neg (by decide), if_neg (by decide), d1, r_stand h.r (by omega), Option.bind_some]
    show TT _ (fun (q : Int32 × ab_P) => q.1 = bI (if stL W.L a = true then (jOk W.L a b, if jOk W.L a b then sJoin W.L a b else W.L) else (false, W.L)).1 ∧ RL 477 (if stL W.L a = true then (jOk W.L a b, if jOk W.L a b then sJoin W.L a b else W.L) else (false, W.L)).2 q.2 ∧ fr sAr P q.2)
    cases hs : stL W.L a with
    | false =>
      rw [if_pos (by rw [bI_0]), if_neg (by decide)]
      exact stay _ rfl
    | true =>
      have hl := stL_lt hs
      rw [if_neg (by rw [bI_0]; decide), r_of1 h.r hl, Option.bind_some, if_neg (by decide), if_neg (by decide), if_pos (show iN 4 = 4 from rfl), d2 (by decide), if_pos rfl]
      exact r_nar (toA (r_joins h.r hl (by omega) h3))
  · rw [d0, if_neg (by decide), if_neg (by decide), if_neg (by decide), d1, r_stand h.r (by omega), Option.bind_some]
    show TT _ (fun (q : Int32 × ab_P) => q.1 = bI (if stL W.L a = true then (!decide (W.L.1 8 a = W.L.2.2.1), if W.L.1 8 a = W.L.2.2.1 then W.L else sTell W.L a W.it) else (false, W.L)).1 ∧ RL 477 (if stL W.L a = true then (!decide (W.L.1 8 a = W.L.2.2.1), if W.L.1 8 a = W.L.2.2.1 then W.L else sTell W.L a W.it) else (false, W.L)).2 q.2 ∧ fr sAr P q.2)
    cases hs : stL W.L a with
    | false =>
      rw [if_pos (by rw [bI_0]), if_neg (by decide)]
      exact stay _ rfl
    | true =>
      have hl := stL_lt hs
      rw [if_neg (by rw [bI_0]; decide), r_of1 h.r hl, Option.bind_some, if_neg (by decide), if_neg (by decide), if_neg (by decide), if_pos (show iN 5 = 5 from rfl), if_pos rfl]
      exact r_nar (toA (r_tell h.r ok.1 hl ok.2.2 h.it))
  · rw [d0, if_neg (by decide), if_neg (by decide), if_neg (by decide), d1, r_stand h.r (by omega), Option.bind_some]
    show TT _ (fun (q : Int32 × ab_P) => q.1 = bI (if opn W a = true then (true, sGone W.L a 1) else (false, W.L)).1 ∧ RL 477 (if opn W a = true then (true, sGone W.L a 1) else (false, W.L)).2 q.2 ∧ fr sAr P q.2)
    cases hs : stL W.L a with
    | false =>
      have ho : opn W a = false := by unfold opn; rw [hs]; rfl
      rw [if_pos (by rw [bI_0]), ho, if_neg (by decide)]
      exact stay _ rfl
    | true =>
      have hl := stL_lt hs
      rw [if_neg (by rw [bI_0]; decide), r_of1 h.r hl, Option.bind_some, if_neg (by decide), if_neg (by decide), if_neg (by decide), if_neg (by decide), if_pos (show iN 6 = 6 from rfl)]
      refine TT_b2 (r_weighG h ok hl hN) (fun v P1 hv => ?_)
      have e : v = sMeant W a := hv.1
      have g := h.fr ok (hv.2.mono s75_R)
      rw [e, g.bi]
      by_cases hc : sMeant W a < W.bi
      · have ho : opn W a = false := by unfold opn; simp [hc]
        rw [if_pos hc, ho, if_neg (by decide)]
        exact TT_some ⟨rfl, g.r, hv.2.mono s75_A⟩
      · have ho : opn W a = true := by unfold opn; simp [hs, hc]
        rw [if_neg hc, ho, if_pos rfl]
        exact TT_bind (r_gone g.r hl (t := 1) (by decide) (by decide)) (fun P2 hv2 => TT_some ⟨rfl, hv2.1, (hv.2.mono s75_A).tr (hv2.2.mono sE_A)⟩)
  · rw [d0, if_neg (by decide), if_neg (by decide), if_neg (by decide), d1, r_stand h.r (by omega), Option.bind_some]
    show TT _ (fun (q : Int32 × ab_P) => q.1 = bI (if stL W.L a = true then (true, sGone W.L a 2) else (false, W.L)).1 ∧ RL 477 (if stL W.L a = true then (true, sGone W.L a 2) else (false, W.L)).2 q.2 ∧ fr sAr P q.2)
    cases hs : stL W.L a with
    | false =>
      rw [if_pos (by rw [bI_0]), if_neg (by decide)]
      exact stay _ rfl
    | true =>
      have hl := stL_lt hs
      rw [if_neg (by rw [bI_0]; decide), r_of1 h.r hl, Option.bind_some, if_neg (by decide), if_neg (by decide), if_neg (by decide), if_neg (by decide), if_neg (by decide), if_neg (by decide), if_pos rfl]
      exact TT_bind (r_gone h.r hl (t := 2) (by decide) (by decide)) (fun P1 hv => TT_some ⟨rfl, hv.1, hv.2.mono sE_A⟩)
end AC
