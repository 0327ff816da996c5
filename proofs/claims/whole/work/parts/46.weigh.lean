/-! the world as both sides hold it: ledger, law, tempers, people, interest, bite; what is scratch -/
abbrev WO : Type := LG × LW × (Nat → Int32) × Nat × Nat × Int32
abbrev WO.L (W : WO) : LG := W.1
abbrev WO.w (W : WO) : LW := W.2.1
abbrev WO.te (W : WO) : Nat → Int32 := W.2.2.1
abbrev WO.pe (W : WO) : Nat := W.2.2.2.1
abbrev WO.it (W : WO) : Nat := W.2.2.2.2.1
abbrev WO.bi (W : WO) : Int32 := W.2.2.2.2.2
def CW (W : WO) (P : ab_P) : Prop := CL 43 W.L P ∧ CLaw 15 W.w P ∧ (∀ p, p < W.pe → P.1 4 p = W.te p) ∧ P.1 3 5 = iN W.pe ∧ P.1 3 7 = iN W.it ∧ P.1 46 5 = W.bi
def RW (W : WO) (P : ab_P) : Prop := RL 477 W.L P ∧ RLaw W.w P ∧ (∀ p, p < W.pe → P.1 78 p = W.te p) ∧ P.1 76 0 = iN W.pe ∧ P.1 76 2 = iN W.it ∧ P.1 76 3 = W.bi
def OK (W : WO) : Prop := WF W.pe W.L ∧ WFL W.w ∧ W.it ≤ 50
def scC (b j : Nat) : Prop := (9 ≤ b ∧ b ≤ 14) ∨ (b = 1 ∧ j ≠ 1 ∧ j ≠ 6) ∨ (17 ≤ b ∧ b ≤ 20) ∨ (b = 21 ∧ j ≠ 2) ∨ (24 ≤ b ∧ b ≤ 42) ∨ (47 ≤ b ∧ b ≤ 51) ∨ (b = 52 ∧ j ≠ 6) ∨ (53 ≤ b ∧ b ≤ 64) ∨ b = 570
def scR (b j : Nat) : Prop := (b = 72 ∧ (j = 2 ∨ j = 4 ∨ j = 5 ∨ j = 6 ∨ j = 7 ∨ j = 8 ∨ j = 17 ∨ j = 33 ∨ j = 38 ∨ j = 43 ∨ j = 44)) ∨ b = 75 ∨ b = 77 ∨ (80 ≤ b ∧ b ≤ 103) ∨ (265 ≤ b ∧ b ≤ 425) ∨ (435 ≤ b ∧ b ≤ 476) ∨ b = 478 ∨ (504 ≤ b ∧ b ≤ 569)
theorem CW.fr {W : WO} {P P' : ab_P} (h : CW W P) (f : fr scC P P') : CW W P' := by
  refine ⟨h.1.fr f (by unfold scC; omega) (by unfold scC; omega) (by unfold scC; omega), ⟨h.2.1.1, ?_, fun k hk => ?_⟩, fun p hp => ?_, ?_, ?_, ?_⟩
  · rw [f.1 _ _ (by unfold scC; omega)]; exact h.2.1.2.1
  · rw [f.1 _ _ (by unfold scC; omega)]; exact h.2.1.2.2 k hk
  · rw [f.1 _ _ (by unfold scC; omega)]; exact h.2.2.1 p hp
  · rw [f.1 _ _ (by unfold scC; omega)]; exact h.2.2.2.1
  · rw [f.1 _ _ (by unfold scC; omega)]; exact h.2.2.2.2.1
  · rw [f.1 _ _ (by unfold scC; omega)]; exact h.2.2.2.2.2
theorem RLaw.fr {w : LW} {P P' : ab_P} (h : RLaw w P) (hw : WFL w) (f : fr scR P P') : RLaw w P' := by
  have h150 := hw.1
  rcases h with ⟨h1, h2, h3⟩ | ⟨h1, h2⟩
  · refine Or.inl ⟨?_, h2, fun k hk => ⟨?_, ?_⟩⟩
    · rw [f.1 _ _ (by unfold scR; omega)]; exact h1
    · rw [f.1 _ _ (by unfold scR; omega)]; exact (h3 k hk).1
    · rw [f.1 _ _ (by unfold scR; omega)]; exact (h3 k hk).2
  · refine Or.inr ⟨?_, h2⟩
    rw [f.1 _ _ (by unfold scR; omega)]; exact h1
theorem RW.fr {W : WO} {P P' : ab_P} (h : RW W P) (ok : OK W) (f : fr scR P P') : RW W P' := by
  refine ⟨h.1.fr f (by unfold scR; omega), h.2.1.fr ok.2.1 f, fun p hp => ?_, ?_, ?_, ?_⟩
  · rw [f.1 _ _ (by unfold scR; omega)]; exact h.2.2.1 p hp
  · rw [f.1 _ _ (by unfold scR; omega)]; exact h.2.2.2.1
  · rw [f.1 _ _ (by unfold scR; omega)]; exact h.2.2.2.2.1
  · rw [f.1 _ _ (by unfold scR; omega)]; exact h.2.2.2.2.2
section WW
variable {W : WO} {P : ab_P} {k N : Nat} {a : Int32}
theorem CW.c (h : CW W P) : CL 43 W.L P := h.1
theorem RW.r (h : RW W P) : RL 477 W.L P := h.1
theorem CW.bi (h : CW W P) : P.1 46 5 = W.bi := h.2.2.2.2.2
theorem RW.bi (h : RW W P) : P.1 76 3 = W.bi := h.2.2.2.2.2
theorem CW.pe (h : CW W P) : P.1 3 5 = iN W.pe := h.2.2.2.1
theorem RW.pe (h : RW W P) : P.1 76 0 = iN W.pe := h.2.2.2.1
theorem CW.it (h : CW W P) : P.1 3 7 = iN W.it := h.2.2.2.2.1
theorem RW.it (h : RW W P) : P.1 76 2 = iN W.it := h.2.2.2.2.1
theorem WF.on {pe : Nat} {L : LG} (h : WF pe L) (hk : k < L.2.1) : ∃ p, p < pe ∧ p < 8 ∧ L.1 0 k = iN p := by
  obtain ⟨p, h1, h2⟩ := (h.2 k hk).1
  exact ⟨p, h1, by have := h.1; omega, h2⟩
theorem WF.by {pe : Nat} {L : LG} (h : WF pe L) (hk : k < L.2.1) : ∃ p, p < pe ∧ p < 8 ∧ L.1 1 k = iN p := by
  obtain ⟨p, h1, h2⟩ := (h.2 k hk).2.1
  exact ⟨p, h1, by have := h.1; omega, h2⟩
theorem c_temper (h : CW W P) (ok : OK W) {p : Nat} (hp : p < W.pe) : f_233 3 P (iN p) = some (W.te p) := by
  have h8 := ok.1.1
  unfold f_233
  rw [if_neg (by rw [iN_neg (by omega)]; exact id), if_pos (by rw [iN_ltl (by omega) (by decide)]; exact (by omega : p < 8)), if_pos (iN_gi (by omega) (by omega)), iN_nat (by omega)]
  rw [show P.1 (3 + 1) p = _ from h.2.2.1 p hp]
/-- what the law is told of a claim -/
def kv (W : WO) (k : Nat) (h : Int32) : Nat → Int32 := fun j => match j with
  | 0 => W.L.1 2 k
  | 1 => W.L.2.2.1 - W.L.1 3 k
  | 2 => W.te (W.L.1 0 k).toNatClampNeg
  | 3 => W.te (W.L.1 1 k).toNatClampNeg
  | 4 => W.L.1 4 k
  | 5 => W.L.1 5 k
  | 6 => W.L.2.2.1
  | _ => h
def sMean (W : WO) (k : Nat) (h : Int32) : Int32 := clamp (evK W.w.2 (kv W k h) W.w.1 0)
def sMeant (W : WO) (k : Nat) : Int32 := sMean W k (sMany W.L 1 (W.L.1 1 k))
theorem sMean_N (W : WO) (k : Nat) (h : Int32) : ∃ z, z ≤ 99 ∧ sMean W k h = iN z := clamp_N _
theorem sMeant_N (W : WO) (k : Nat) : ∃ z, z ≤ 99 ∧ sMeant W k = iN z := clamp_N _
theorem g231 {P : ab_P} {b j : Nat} {x f k : Int32} (hb : b ≠ 44) : f_231 43 (ab_pI P b j x) f k = f_231 43 P f k := by
  unfold f_231
  rw [show (ab_pI P b j x).1 (43 + 1) = P.1 (43 + 1) from uI_ne (by omega)]
theorem g233 {P : ab_P} {b j : Nat} {x f : Int32} (hb : b ≠ 4) : f_233 3 (ab_pI P b j x) f = f_233 3 P f := by
  unfold f_233
  rw [show (ab_pI P b j x).1 (3 + 1) = P.1 (3 + 1) from uI_ne (by omega)]
theorem g135 {P : ab_P} {i b j : Nat} {x f k : Int32} (hb : b ≠ i) : f_135_366 i (ab_pI P b j x) f k = f_135_366 i P f k := by
  unfold f_135_366
  rw [show (ab_pI P b j x).1 i = P.1 i from uI_ne (Ne.symm hb)]
theorem pI_ne {P : ab_P} {a i : Nat} {x : Int32} {b j : Nat} (h : b ≠ a) : (ab_pI P a i x).1 b j = P.1 b j := by
  show ab_upI P.1 a i x b j = _
  rw [uI_ne h]
theorem pI_eq {P : ab_P} {a i : Nat} {x : Int32} : (ab_pI P a i x).1 a i = x := by
  show ab_upI P.1 a i x a i = _
  rw [uI_at, if_pos ⟨rfl, rfl⟩]
theorem pI_nj {P : ab_P} {a i : Nat} {x : Int32} {j : Nat} (h : j ≠ i) : (ab_pI P a i x).1 a j = P.1 a j := by
  show ab_upI P.1 a i x a j = _
  rw [uI_at, if_neg (fun e => h e.2)]
/-- eight values told -/
def p8 (P : ab_P) (b : Nat) (v : Nat → Int32) : ab_P := ab_pI (ab_pI (ab_pI (ab_pI (ab_pI (ab_pI (ab_pI (ab_pI P b 0 (v 0)) b 1 (v 1)) b 2 (v 2)) b 3 (v 3)) b 4 (v 4)) b 5 (v 5)) b 6 (v 6)) b 7 (v 7)
theorem p8_ne {P : ab_P} {b : Nat} {v : Nat → Int32} {a j : Nat} (h : a ≠ b) : (p8 P b v).1 a j = P.1 a j := by
  unfold p8
  rw [pI_ne h, pI_ne h, pI_ne h, pI_ne h, pI_ne h, pI_ne h, pI_ne h, pI_ne h]
theorem p8_at {P : ab_P} {b : Nat} {v : Nat → Int32} {j : Nat} (h : j < 8) : (p8 P b v).1 b j = v j := by
  unfold p8
  simp only [uI_at]
  rcases (show j = 0 ∨ j = 1 ∨ j = 2 ∨ j = 3 ∨ j = 4 ∨ j = 5 ∨ j = 6 ∨ j = 7 by omega) with rfl | rfl | rfl | rfl | rfl | rfl | rfl | rfl <;> simp
theorem p8_fr {P : ab_P} {b : Nat} {v : Nat → Int32} {S : Nat → Nat → Prop} (h : ∀ j, S b j) : fr S P (p8 P b v) := ⟨fun a j hj => p8_ne (fun e => hj (by rw [e]; exact h j)), fun _ _ _ => rfl, rfl⟩
def s47 (b : Nat) (_ : Nat) : Prop := b = 17 ∨ b = 47
theorem s47_C : ∀ b j, s47 b j → scC b j := fun b j h => by
  unfold s47 at h
  unfold scC
  omega
theorem c_weighF (h : CW W P) (ok : OK W) (hk : k < W.L.2.1) (hN : 70000 ≤ N) : TT (f_296 N (iN k) a P) (fun q => q.1 = sMean W k a ∧ fr s47 P q.2) := by
  obtain ⟨p, p1, p2, p3⟩ := ok.1.on hk
  obtain ⟨q, q1, q2, q3⟩ := ok.1.by hk
  have e2 := c_temper h ok p1
  have e3 := c_temper h ok q1
  have h8 : CW W (p8 P 47 (kv W k a)) := h.fr (p8_fr (fun j => by unfold scC; omega))
  have main := c_law ok.2.1 h8.2.1 (fun j hj => p8_at hj) hN
  have n0 := h.c.day
  simp only [f_296, ab_lt, g231 (show 47 ≠ 44 by decide), g233 (show 47 ≠ 4 by decide), c_get0 h.c hk, c_get1 h.c hk, c_get2 h.c hk, c_get3 h.c hk, c_get4 h.c hk, c_get5 h.c hk, p3, q3, e2, e3, Option.bind_some, uI_ne (show 43 ≠ 47 by decide), n0]
  have n2 : W.te p = kv W k a 2 := by show _ = W.te (W.L.1 0 k).toNatClampNeg; rw [p3, iN_nat (by omega)]
  have n3 : W.te q = kv W k a 3 := by show _ = W.te (W.L.1 1 k).toNatClampNeg; rw [q3, iN_nat (by omega)]
  rw [n2, n3]
  refine TT_b2 main (fun v P1 hv => TT_some ⟨hv.1, ?_⟩)
  exact (p8_fr (fun j => by unfold s47; omega)).tr (hv.2.mono (fun b j e => by unfold s47; omega))
theorem c_weighH (h : CW W P) (ok : OK W) (hk : k < W.L.2.1) (hN : 70000 ≤ N) : TT (f_296 N (iN k) a P) (fun q => q.1 = sMean W k a ∧ fr scC P q.2) :=
  (c_weighF h ok hk hN).mono (fun _ e => ⟨e.1, e.2.mono s47_C⟩)
theorem c_weighG (h : CW W P) (ok : OK W) (hk : k < W.L.2.1) (hN : 70000 ≤ N) : TT (f_239 N (iN k) P) (fun q => q.1 = sMeant W k ∧ fr s47 P q.2) := by
  unfold f_239
  rw [c_get1 h.c hk, Option.bind_some, show (1 : Int32) = iN 1 from rfl, c_many h.c (by decide) hN, Option.bind_some]
  exact TT_b2 (c_weighF h ok hk hN) (fun v P1 hv => TT_some hv)
theorem c_weigh (h : CW W P) (ok : OK W) (hk : k < W.L.2.1) (hN : 70000 ≤ N) : TT (f_239 N (iN k) P) (fun q => q.1 = sMeant W k ∧ fr scC P q.2) :=
  (c_weighG h ok hk hN).mono (fun _ e => ⟨e.1, e.2.mono s47_C⟩)
/-- is it one of which an apology would be said -/
def opn (W : WO) (k : Nat) : Bool := stL W.L k && !decide (sMeant W k < W.bi)
theorem c_openG (h : CW W P) (ok : OK W) (hk : k < 2147483648) (hN : 70000 ≤ N) : TT (f_243 N (iN k) P) (fun q => q.1 = bI (opn W k) ∧ fr s47 P q.2) := by
  unfold f_243
  rw [c_stand h.c hk, Option.bind_some]
  by_cases hs : stL W.L k = true
  · rw [if_neg (by rw [bI_0, hs]; decide)]
    refine TT_b2 (c_weighG h ok (stL_lt hs) hN) (fun v P1 hv => ?_)
    have hb : P1.1 46 5 = W.bi := (h.fr (hv.2.mono s47_C)).bi
    rw [hb, show v = _ from hv.1]
    by_cases hc : sMeant W k < W.bi
    · rw [if_pos hc]; exact TT_some ⟨by simp [opn, hc, bI], hv.2⟩
    · rw [if_neg hc]; exact TT_some ⟨by simp [opn, hc, hs, bI], hv.2⟩
  · rw [if_pos (by rw [bI_0]; simpa using hs)]
    exact TT_some ⟨by simp [opn, hs, bI], fr.rf⟩
theorem c_open (h : CW W P) (ok : OK W) (hk : k < 2147483648) (hN : 70000 ≤ N) : TT (f_243 N (iN k) P) (fun q => q.1 = bI (opn W k) ∧ fr scC P q.2) :=
  (c_openG h ok hk hN).mono (fun _ e => ⟨e.1, e.2.mono s47_C⟩)
def s75 (b : Nat) (_ : Nat) : Prop := b = 475 ∨ b = 476
theorem s75_R : ∀ b j, s75 b j → scR b j := fun b j h => by
  unfold s75 at h
  unfold scR
  omega
theorem r_weighF (h : RW W P) (ok : OK W) (hk : k < W.L.2.1) (hN : 70000 ≤ N) : TT (f_181_366 477 N (iN k) a P) (fun q => q.1 = sMean W k a ∧ fr s75 P q.2) := by
  obtain ⟨p, p1, p2, p3⟩ := ok.1.on hk
  obtain ⟨q, q1, q2, q3⟩ := ok.1.by hk
  have e2 := h.2.2.1 p p1
  have e3 := h.2.2.1 q q1
  have h8 : RW W (p8 P 476 (kv W k a)) := h.fr ok (p8_fr (fun j => by unfold scR; omega))
  have main := r_law ok.2.1 h8.2.1 (fun j hj => p8_at hj) hN
  have n0 := h.r.day
  simp only [f_181_366, ab_lt, g135 (show 476 ≠ 477 by decide), r_of0 h.r hk, r_of1 h.r hk, r_of2 h.r hk, r_of3 h.r hk, r_of4 h.r hk, r_of5 h.r hk, p3, q3, iN_gT p2 (show 8 ≤ 2147483648 by decide), iN_gT q2 (show 8 ≤ 2147483648 by decide), iN_nat (show p < 2147483648 by omega), iN_nat (show q < 2147483648 by omega), ↓reduceIte, Option.bind_some, uI_ne (show 477 ≠ 476 by decide), uI_ne (show 78 ≠ 476 by decide), e2, e3, n0]
  have n2 : W.te p = kv W k a 2 := by show _ = W.te (W.L.1 0 k).toNatClampNeg; rw [p3, iN_nat (by omega)]
  have n3 : W.te q = kv W k a 3 := by show _ = W.te (W.L.1 1 k).toNatClampNeg; rw [q3, iN_nat (by omega)]
  rw [n2, n3]
  refine TT_b2 main (fun v P1 hv => TT_some ⟨hv.1, ?_⟩)
  exact (p8_fr (fun j => by unfold s75; omega)).tr (hv.2.mono (fun b j e => by unfold s75; omega))
theorem r_weighG (h : RW W P) (ok : OK W) (hk : k < W.L.2.1) (hN : 70000 ≤ N) : TT (f_146_366 477 N (iN k) P) (fun q => q.1 = sMeant W k ∧ fr s75 P q.2) := by
  unfold f_146_366
  rw [r_of1 h.r hk, Option.bind_some, r_held h.r hN, Option.bind_some]
  exact TT_b2 (r_weighF h ok hk hN) (fun v P1 hv => TT_some hv)
theorem r_openG (h : RW W P) (ok : OK W) (hk : k < 2147483648) (hN : 70000 ≤ N) : TT (f_150 N (iN k) P) (fun q => q.1 = bI (opn W k) ∧ fr s75 P q.2) := by
  unfold f_150
  rw [r_stand h.r hk, Option.bind_some]
  by_cases hs : stL W.L k = true
  · rw [if_neg (by rw [bI_0, hs]; decide)]
    refine TT_b2 (r_weighG h ok (stL_lt hs) hN) (fun v P1 hv => ?_)
    have hb : P1.1 76 3 = W.bi := (h.fr ok (hv.2.mono s75_R)).bi
    rw [hb, show v = _ from hv.1]
    by_cases hc : sMeant W k < W.bi
    · rw [if_pos hc]; exact TT_some ⟨by simp [opn, hc, bI], hv.2⟩
    · rw [if_neg hc]; exact TT_some ⟨by simp [opn, hc, hs, bI], hv.2⟩
  · rw [if_pos (by rw [bI_0]; simpa using hs)]
    exact TT_some ⟨by simp [opn, hs, bI], fr.rf⟩
theorem r_weighH (h : RW W P) (ok : OK W) (hk : k < W.L.2.1) (hN : 70000 ≤ N) : TT (f_181_366 477 N (iN k) a P) (fun q => q.1 = sMean W k a ∧ fr scR P q.2) :=
  (r_weighF h ok hk hN).mono (fun _ e => ⟨e.1, e.2.mono s75_R⟩)
theorem r_weigh (h : RW W P) (ok : OK W) (hk : k < W.L.2.1) (hN : 70000 ≤ N) : TT (f_146_366 477 N (iN k) P) (fun q => q.1 = sMeant W k ∧ fr scR P q.2) :=
  (r_weighG h ok hk hN).mono (fun _ e => ⟨e.1, e.2.mono s75_R⟩)
theorem r_open (h : RW W P) (ok : OK W) (hk : k < 2147483648) (hN : 70000 ≤ N) : TT (f_150 N (iN k) P) (fun q => q.1 = bI (opn W k) ∧ fr scR P q.2) :=
  (r_openG h ok hk hN).mono (fun _ e => ⟨e.1, e.2.mono s75_R⟩)
end WW
