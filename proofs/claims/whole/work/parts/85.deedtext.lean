/-! deeds as a text: both sides -/
abbrev DsT : Type := Nat × (Nat → DD4)
def dsP (D : DsT) (d : DD4) : DsT := (D.1 + 1, fun j => if j = D.1 then d else D.2 j)
def deA (T : TX) (pe k : Nat) (s : RS) : DD4 × RS :=
  if k = 0 then ((0, (numS T 1 31 s).1, 0, 0), (numS T 1 31 s).2)
  else if k = 1 ∨ k = 9 then ((k, (cl3 T pe s).1), (cl3 T pe s).2)
  else if k = 2 ∨ k = 7 then ((k, (numS T 0 40 s).1, (numS T 0 pe (numS T 0 40 s).2).1, 0), (numS T 0 pe (numS T 0 40 s).2).2)
  else if k = 3 then ((3, (numS T 0 40 s).1, (numS T 1 1000 (numS T 0 40 s).2).1, 0), (numS T 1 1000 (numS T 0 40 s).2).2)
  else if k = 4 then ((4, (numS T 0 40 s).1, (butS T 40 (numS T 0 40 s).1 (numS T 0 40 s).2).1, 0), (butS T 40 (numS T 0 40 s).1 (numS T 0 40 s).2).2)
  else ((k, (numS T 0 40 s).1, 0, 0), (numS T 0 40 s).2)
def deS (T : TX) (pe : Nat) (D : DsT) (q : Nat) : DsT × RS := match wIx (lw T q) wsD 0 with
  | none => (D, .inr (1, q))
  | some k => if D.1 = 30 then (D, .inr (3, q)) else (dsP D (deA T pe k (.inl (sk T (rn isLt T q)))).1, sgnS T 59 (deA T pe k (.inl (sk T (rn isLt T q)))).2)
def dsL (T : TX) (pe : Nat) : Nat → DsT → RS → DsT × RS
  | 0, D, s => (D, s)
  | c + 1, D, s => match s with
    | .inl q => if q < T.2 then dsL T pe c (deS T pe D q).1 (deS T pe D q).2 else (D, .inl q)
    | .inr f => (D, .inr f)
def ds0 : DsT := (0, fun _ => (0, 0, 0, 0))
def deedsS (T : TX) (pe : Nat) : DsT × RS := dsL T pe 32 ds0 (.inl (sk T 0))
def okDs (pe : Nat) (D : DsT) : Prop := D.1 ≤ 30 ∧ ∀ i, i < D.1 → WD pe (D.2 i)
theorem deA_ok {T : TX} {pe k q : Nat} {s : RS} (hk : k < 10) (e : (deA T pe k s).2 = .inl q) : WD pe (deA T pe k s).1 := by
  unfold deA at e ⊢
  unfold WD
  by_cases k0 : k = 0
  · rw [if_pos k0] at e ⊢
    obtain ⟨_, _, c1, c2⟩ := numS_l e
    exact Or.inl ⟨rfl, c1, Nat.le_of_lt_succ c2⟩
  · rw [if_neg k0] at e ⊢
    by_cases k1 : k = 1 ∨ k = 9
    · rw [if_pos k1] at e ⊢
      exact Or.inr (Or.inl ⟨k1, cl3_l e⟩)
    · rw [if_neg k1] at e ⊢
      by_cases k2 : k = 2 ∨ k = 7
      · rw [if_pos k2] at e ⊢
        obtain ⟨_, e1, _, c2⟩ := numS_l e
        obtain ⟨_, _, _, c4⟩ := numS_l e1
        exact Or.inr (Or.inr (Or.inl ⟨k2, c4, c2⟩))
      · rw [if_neg k2] at e ⊢
        by_cases k3 : k = 3
        · rw [if_pos k3] at e ⊢
          obtain ⟨_, e1, c1, c2⟩ := numS_l e
          obtain ⟨_, _, _, c4⟩ := numS_l e1
          exact Or.inr (Or.inr (Or.inr (Or.inl ⟨rfl, c4, c1, Nat.le_of_lt_succ c2⟩)))
        · rw [if_neg k3] at e ⊢
          by_cases k4 : k = 4
          · rw [if_pos k4] at e ⊢
            obtain ⟨_, e1, c1, c2⟩ := butS_l e
            obtain ⟨_, _, _, c4⟩ := numS_l e1
            exact Or.inr (Or.inr (Or.inr (Or.inr (Or.inl ⟨rfl, c4, c1, fun e9 => c2 e9.symm⟩))))
          · rw [if_neg k4] at e ⊢
            obtain ⟨_, _, _, c4⟩ := numS_l e
            exact Or.inr (Or.inr (Or.inr (Or.inr (Or.inr ⟨by show k = 5 ∨ k = 6 ∨ k = 8; omega, c4⟩))))
theorem deS_ok {T : TX} {pe q q' : Nat} {D : DsT} (h : okDs pe D) (e : (deS T pe D q).2 = .inl q') : okDs pe (deS T pe D q).1 ∧ (deS T pe D q).1.1 = D.1 + 1 ∧ D.1 < 30 := by
  unfold deS at e ⊢
  cases hw : wIx (lw T q) wsD 0 with
  | none => rw [hw] at e; cases e
  | some k =>
    have hk : k < 10 := Nat.lt_of_lt_of_le (wIx_lt hw) (by decide)
    rw [hw] at e
    dsimp only at e ⊢
    by_cases hf : D.1 = 30
    · rw [if_pos hf] at e
      cases e
    · rw [if_neg hf] at e ⊢
      have h1 := h.1
      obtain ⟨q1, e1⟩ := sgnS_l e
      refine ⟨⟨by show D.1 + 1 ≤ 30; omega, fun i hi => ?_⟩, rfl, by omega⟩
      have hi : i < D.1 + 1 := hi
      show WD pe (if i = D.1 then _ else D.2 i)
      by_cases ei : i = D.1
      · rw [if_pos ei]
        exact deA_ok hk e1
      · rw [if_neg ei]
        exact h.2 i (by omega)
theorem dsL_ok {T : TX} {pe : Nat} : ∀ {c : Nat} {D : DsT} {s : RS} {q' : Nat}, okDs pe D → (dsL T pe c D s).2 = .inl q' → okDs pe (dsL T pe c D s).1
  | 0, _, _, _, h, _ => h
  | c + 1, D, .inr f, _, h, e => by cases e
  | c + 1, D, .inl q, q', h, e => by
    unfold dsL at e ⊢
    dsimp only at e ⊢
    by_cases hq : q < T.2
    · rw [if_pos hq] at e ⊢
      cases hs : (deS T pe D q).2 with
      | inr f =>
        rw [hs] at e
        cases c with
        | zero => cases e
        | succ c => cases e
      | inl q2 =>
        rw [hs] at e
        exact dsL_ok (deS_ok h hs).1 e
    · rw [if_neg hq] at e ⊢
      exact h
theorem ds0_ok {pe : Nat} : okDs pe ds0 := ⟨by decide, fun i hi => absurd hi (Nat.not_lt_zero i)⟩
def sDp (b j : Nat) : Prop := sTp b j ∨ (b = 52 ∧ j = 5) ∨ b = 53
def sDr (b j : Nat) : Prop := sTr b j ∨ (445 ≤ b ∧ b < 475)
def CDs (T : TX) (x : DsT × RS) (P : ab_P) : Prop := CR T x.2 P ∧ ∀ q, x.2 = .inl q → CD x.1.1 x.1.2 P
def RDsT (T : TX) (x : DsT × RS) (P : ab_P) : Prop := RR T x.2 P ∧ ∀ q, x.2 = .inl q → RDs x.1.1 x.1.2 P
theorem sTp_D : ∀ b j, sTp b j → sDp b j := fun _ _ h => Or.inl h
theorem sTr_D : ∀ b j, sTr b j → sDr b j := fun _ _ h => Or.inl h
theorem CD.keep {m : Nat} {ds : Nat → DD4} {P P' : ab_P} (h : CD m ds P) (e : ∀ b j, (b = 52 ∧ j = 5) ∨ b = 53 → P'.1 b j = P.1 b j) : CD m ds P' := ⟨(e 52 5 (Or.inl ⟨rfl, rfl⟩)).trans h.1, fun i hi => by rw [e 53 _ (Or.inr rfl), e 53 _ (Or.inr rfl), e 53 _ (Or.inr rfl), e 53 _ (Or.inr rfl)]; exact h.2 i hi⟩
theorem RD4.keep {i2 : Nat} {d : DD4} {P P' : ab_P} (h : RD4 i2 d P) (e : ∀ j, P'.1 i2 j = P.1 i2 j) : RD4 i2 d P' := ⟨(e 0).trans h.1, (e 1).trans h.2.1, fun hh => (e 2).trans (h.2.2.1 hh), fun hh => (e 3).trans (h.2.2.2 hh)⟩
theorem RDs.keep {m : Nat} {ds : Nat → DD4} {P P' : ab_P} (h : RDs m ds P) (e : ∀ b j, 445 ≤ b ∧ b < 445 + m → P'.1 b j = P.1 b j) : RDs m ds P' := fun i hi => RD4.keep (h i hi) (fun j => e _ j (by omega))
section DE
variable {T : TX} {D : DsT} {P : ab_P} {N pe q k m : Nat} {s : RS} {d : DD4}
theorem c_semiD (h : CR T s P) (ok : okT T) (hd : ∀ q, s = .inl q → CD D.1 D.2 P) (hN : 70000 ≤ N) : TT (f_324 N (59 : Int32) P) (fun r => CDs T (D, sgnS T 59 s) r ∧ fr sDp P r) := by
  refine (c_sign (c := 59) (by decide) h ok hN).mono (fun r hr => ⟨⟨hr.1, fun q' e => ?_⟩, hr.2.mono sTp_D⟩)
  obtain ⟨q, e1⟩ := sgnS_l e
  exact (hd q e1).keep (fun b j hb => hr.2.1 b j (by unfold sTp; omega))
theorem c_keepD {v1 v2 v3 v4 : Int32} (h : CD D.1 D.2 P) (hm : D.1 < 30) : TT (f_331 v1 v2 v3 v4 P) (fun r => (v1 = iN d.1 ∧ v2 = iN d.2.1 ∧ v3 = iN d.2.2.1 ∧ v4 = iN d.2.2.2 → CD (dsP D d).1 (dsP D d).2 r) ∧ fr (fun b j => (b = 52 ∧ j = 5) ∨ b = 53) P r) := by
  have x4 : P.1 52 5 * (4 : Int32) = iN (4 * D.1) := by rw [h.1, iN_lit 4, iN_mul, Nat.mul_comm]
  have x1 : iN (4 * D.1) + (1 : Int32) = iN (4 * D.1 + 1) := iN_add _ _
  have x2 : iN (4 * D.1) + (2 : Int32) = iN (4 * D.1 + 2) := iN_add _ _
  have x3 : iN (4 * D.1) + (3 : Int32) = iN (4 * D.1 + 3) := iN_add _ _
  unfold f_331
  rw [x4, x1, x2, x3, if_neg (by rw [iN_neg (by omega)]; exact id), if_pos (by rw [iN_ltl (by omega) (by decide)]; exact (show 4 * D.1 + 3 < 120 by omega)), if_pos (iN_gi (by omega) (by decide)), iN_nat (by omega)]
  refine TT_lt ?_
  rw [if_pos (iN_gi (show 4 * D.1 + 1 < 120 by omega) (by decide)), iN_nat (show 4 * D.1 + 1 < 2147483648 by omega)]
  refine TT_lt ?_
  rw [if_pos (iN_gi (show 4 * D.1 + 2 < 120 by omega) (by decide)), iN_nat (show 4 * D.1 + 2 < 2147483648 by omega)]
  refine TT_lt ?_
  rw [if_pos (iN_gi (show 4 * D.1 + 3 < 120 by omega) (by decide)), iN_nat (show 4 * D.1 + 3 < 2147483648 by omega)]
  refine TT_lt (TT_lt (TT_some ⟨fun hv => ?_, (((((fr.I (Or.inr rfl)).tr (fr.I (Or.inr rfl))).tr (fr.I (Or.inr rfl))).tr (fr.I (Or.inr rfl))).tr (fr.I (Or.inl ⟨rfl, rfl⟩)))⟩))
  obtain ⟨w1, w2, w3, w4⟩ := hv
  have e53 : ∀ j, (ab_pI (ab_pI (ab_pI (ab_pI (ab_pI P 53 (4 * D.1) v1) 53 (4 * D.1 + 1) v2) 53 (4 * D.1 + 2) v3) 53 (4 * D.1 + 3) v4) 52 5 ((ab_pI (ab_pI (ab_pI (ab_pI P 53 (4 * D.1) v1) 53 (4 * D.1 + 1) v2) 53 (4 * D.1 + 2) v3) 53 (4 * D.1 + 3) v4).1 52 5 + 1)).1 53 j = (ab_pI (ab_pI (ab_pI (ab_pI P 53 (4 * D.1) v1) 53 (4 * D.1 + 1) v2) 53 (4 * D.1 + 2) v3) 53 (4 * D.1 + 3) v4).1 53 j := fun j => pI_ne (by decide)
  refine ⟨?_, fun i hi => ?_⟩
  · rw [pI_eq, pI_ne (by decide), pI_ne (by decide), pI_ne (by decide), pI_ne (by decide), h.1]
    exact iN_succ _
  · have hi : i < D.1 + 1 := hi
    rw [e53, e53, e53, e53]
    show _ = iN (if i = D.1 then d else D.2 i).1 ∧ _ = iN (if i = D.1 then d else D.2 i).2.1 ∧ _ = iN (if i = D.1 then d else D.2 i).2.2.1 ∧ _ = iN (if i = D.1 then d else D.2 i).2.2.2
    by_cases ei : i = D.1
    · rw [if_pos ei, ei]
      refine ⟨?_, ?_, ?_, ?_⟩
      · rw [pI_nj (by omega), pI_nj (by omega), pI_nj (by omega), pI_eq]; exact w1
      · rw [pI_nj (by omega), pI_nj (by omega), pI_eq]; exact w2
      · rw [pI_nj (by omega), pI_eq]; exact w3
      · rw [pI_eq]; exact w4
    · rw [if_neg ei]
      obtain ⟨z1, z2, z3, z4⟩ := h.2 i (by omega)
      refine ⟨?_, ?_, ?_, ?_⟩
      · rw [pI_nj (by omega), pI_nj (by omega), pI_nj (by omega), pI_nj (by omega)]; exact z1
      · rw [pI_nj (by omega), pI_nj (by omega), pI_nj (by omega), pI_nj (by omega)]; exact z2
      · rw [pI_nj (by omega), pI_nj (by omega), pI_nj (by omega), pI_nj (by omega)]; exact z3
      · rw [pI_nj (by omega), pI_nj (by omega), pI_nj (by omega), pI_nj (by omega)]; exact z4
/-- kept, then its sign -/
theorem c_fin {v1 v2 v3 v4 : Int32} {P0 : ab_P} (h : CR T s P) (ok : okT T) (hd : CD D.1 D.2 P) (hm : D.1 < 30) (hv : ∀ q, s = .inl q → v1 = iN d.1 ∧ v2 = iN d.2.1 ∧ v3 = iN d.2.2.1 ∧ v4 = iN d.2.2.2) (f0 : fr sTp P0 P) (hN : 70000 ≤ N) : TT (Option.bind (f_331 v1 v2 v3 v4 P) fun P7 => Option.bind (f_324 N (59 : Int32) P7) fun P8 => some P8) (fun r => CDs T (dsP D d, sgnS T 59 s) r ∧ fr sDp P0 r) := by
  refine TT_bind (c_keepD (d := d) hd hm) (fun P1 h1 => ?_)
  refine TT_bind (c_semiD (D := dsP D d) (s := s) (h.keep (P' := P1) (fun b j hb => h1.2.1 b j (by unfold kTp at hb; omega))) ok (fun q e => h1.1 (hv q e)) hN) (fun P2 h2 => TT_some ⟨h2.1, ((f0.mono sTp_D).tr (h1.2.mono (fun b j e => Or.inr e))).tr h2.2⟩)
theorem c_read0 (h : CR T s P) (ok : okT T) (hN : 70000 ≤ N) : TT (f_332 N P) (fun r => CR T (numS T 0 40 s).2 r.2 ∧ (∀ q', (numS T 0 40 s).2 = .inl q' → r.1 = iN (numS T 0 40 s).1) ∧ fr sTp P r.2) := by
  unfold f_332
  exact TT_b2 (c_num (lo := 0) (hb := 40) (by decide) (by decide) (by decide) h ok hN) (fun v P1 hv => TT_some ⟨hv.1, fun q' e => (hv.2.1 q' e).1, hv.2.2⟩)
theorem c_deed (h : CR T s P) (ok : okT T) (hd : CD D.1 D.2 P) (hm : D.1 < 30) (hpe : P.1 3 5 = iN pe) (h8 : pe ≤ 8) (hk : k < 10) (hN : 70000 ≤ N) : TT (f_292_30 N (iN k) P) (fun r => CDs T (dsP D (deA T pe k s).1, sgnS T 59 (deA T pe k s).2) r ∧ fr sDp P r) := by
  have kp : ∀ {P1 : ab_P}, fr sTp P P1 → CD D.1 D.2 P1 ∧ P1.1 3 5 = iN pe := fun f => ⟨hd.keep (fun b j hb => f.1 b j (by unfold sTp; omega)), (f.1 3 5 (by unfold sTp; omega)).trans hpe⟩
  have hpr : ∀ k, (k = 1 ∨ k = 9) → TT (f_292_167 N (iN k) P) (fun r => CDs T (dsP D (k, (cl3 T pe s).1), sgnS T 59 (cl3 T pe s).2) r ∧ fr sDp P r) := fun k _ => by
    unfold f_292_167 f_334
    rw [hpe]
    have main : TT (ab_b2 (f_323 N (0 : Int32) (iN pe - (1 : Int32)) P) fun v2 P1 => ab_b2 (f_350 N v2 (0 : Int32) ((P1.1 3 5) - (1 : Int32)) P1) fun v4 P3 => ab_b2 (f_323 N (1 : Int32) (999 : Int32) P3) fun v6 P5 => Option.bind (f_331 (iN k) v2 v4 v6 P5) fun P7 => some P7) (fun r => CR T (cl3 T pe s).2 r ∧ (∀ q, (cl3 T pe s).2 = .inl q → CD (dsP D (k, (cl3 T pe s).1)).1 (dsP D (k, (cl3 T pe s).1)).2 r) ∧ fr sDp P r) := by
      refine TT_b2 (c_num (lo := 0) (hb := pe) (by decide) (i_pe _ (by omega)) (by omega) h ok hN) (fun v1 P1 hv1 => ?_)
      obtain ⟨a1, a2, a3⟩ := hv1
      dsimp only at a1 a2 a3
      rw [(kp a3).2]
      refine TT_b2 (c_but (hb := pe) (o := (numS T 0 pe s).1) (i_pe _ (by omega)) (by omega) (numS_w (by omega)) (fun q e => (a2 q e).1) a1 ok hN) (fun v2 P2 hv2 => ?_)
      obtain ⟨b1, b2, b3⟩ := hv2
      dsimp only at b1 b2 b3
      refine TT_b2 (c_num (lo := 1) (hb := 1000) (by decide) (by decide) (by decide) b1 ok hN) (fun v3 P3 hv3 => ?_)
      obtain ⟨c1, c2, c3⟩ := hv3
      dsimp only at c1 c2 c3
      have f3 := (a3.tr b3).tr c3
      refine TT_bind (c_keepD (D := D) (d := (k, (cl3 T pe s).1)) (kp f3).1 hm) (fun P4 h4 => TT_some ⟨CR.keep (s := (cl3 T pe s).2) c1 (fun b j hb => h4.2.1 b j (by unfold kTp at hb; omega)), fun q e => h4.1 ?_, (f3.mono sTp_D).tr (h4.2.mono (fun b j e => Or.inr e))⟩)
      have y1 := c2 q e
      obtain ⟨q1, e1, _⟩ := numS_l e
      have y2 := b2 q1 e1
      obtain ⟨q2, e2, _⟩ := butS_l e1
      exact ⟨rfl, (a2 q2 e2).1, y2, y1.1⟩
    refine TT_bind main (fun P1 h1 => ?_)
    exact TT_bind (c_semiD (D := dsP D (k, (cl3 T pe s).1)) h1.1 ok h1.2.1 hN) (fun P2 h2 => TT_some ⟨h2.1, h1.2.2.tr h2.2⟩)
  have hpt : ∀ k, (k = 2 ∨ k = 7) → TT (f_292_97 N (iN k) P) (fun r => CDs T (dsP D (k, (numS T 0 40 s).1, (numS T 0 pe (numS T 0 40 s).2).1, 0), sgnS T 59 (numS T 0 pe (numS T 0 40 s).2).2) r ∧ fr sDp P r) := fun k _ => by
    unfold f_292_97
    refine TT_b2 (c_read0 h ok hN) (fun v1 P1 hv1 => ?_)
    obtain ⟨a1, a2, a3⟩ := hv1
    dsimp only at a1 a2 a3
    rw [(kp a3).2]
    refine TT_b2 (c_num (lo := 0) (hb := pe) (by decide) (i_pe _ (by omega)) (by omega) a1 ok hN) (fun v2 P2 hv2 => ?_)
    obtain ⟨b1, b2, b3⟩ := hv2
    dsimp only at b1 b2 b3
    refine c_fin b1 ok (kp (a3.tr b3)).1 hm (fun q e => ?_) (a3.tr b3) hN
    obtain ⟨q1, e1, _⟩ := numS_l e
    exact ⟨rfl, a2 q1 e1, (b2 q e).1, rfl⟩
  have hone : ∀ k, TT (f_292_153 N (iN k) P) (fun r => CDs T (dsP D (k, (numS T 0 40 s).1, 0, 0), sgnS T 59 (numS T 0 40 s).2) r ∧ fr sDp P r) := fun k => by
    unfold f_292_153
    refine TT_b2 (c_read0 h ok hN) (fun v1 P1 hv1 => ?_)
    obtain ⟨a1, a2, a3⟩ := hv1
    dsimp only at a1 a2 a3
    exact c_fin a1 ok (kp a3).1 hm (fun q e => ⟨rfl, a2 q e, rfl, rfl⟩) a3 hN
  rcases (show k = 0 ∨ k = 1 ∨ k = 2 ∨ k = 3 ∨ k = 4 ∨ k = 5 ∨ k = 6 ∨ k = 7 ∨ k = 8 ∨ k = 9 by omega) with rfl | rfl | rfl | rfl | rfl | rfl | rfl | rfl | rfl | rfl
  · show TT (f_292_80 N (iN 0) P) (fun r => CDs T (dsP D (0, (numS T 1 31 s).1, 0, 0), sgnS T 59 (numS T 1 31 s).2) r ∧ fr sDp P r)
    unfold f_292_80
    refine TT_b2 (c_num (lo := 1) (hb := 31) (by decide) (by decide) (by decide) h ok hN) (fun v1 P1 hv1 => ?_)
    obtain ⟨a1, a2, a3⟩ := hv1
    dsimp only at a1 a2 a3
    exact c_fin a1 ok (kp a3).1 hm (fun q e => ⟨rfl, (a2 q e).1, rfl, rfl⟩) a3 hN
  · exact hpr 1 (Or.inl rfl)
  · exact hpt 2 (Or.inl rfl)
  · show TT (f_292_124 N (iN 3) P) (fun r => CDs T (dsP D (3, (numS T 0 40 s).1, (numS T 1 1000 (numS T 0 40 s).2).1, 0), sgnS T 59 (numS T 1 1000 (numS T 0 40 s).2).2) r ∧ fr sDp P r)
    unfold f_292_124
    refine TT_b2 (c_read0 h ok hN) (fun v1 P1 hv1 => ?_)
    obtain ⟨a1, a2, a3⟩ := hv1
    dsimp only at a1 a2 a3
    refine TT_b2 (c_num (lo := 1) (hb := 1000) (by decide) (by decide) (by decide) a1 ok hN) (fun v2 P2 hv2 => ?_)
    obtain ⟨b1, b2, b3⟩ := hv2
    dsimp only at b1 b2 b3
    refine c_fin b1 ok (kp (a3.tr b3)).1 hm (fun q e => ?_) (a3.tr b3) hN
    obtain ⟨q1, e1, _⟩ := numS_l e
    exact ⟨rfl, a2 q1 e1, (b2 q e).1, rfl⟩
  · show TT (f_292_145 N P) (fun r => CDs T (dsP D (4, (numS T 0 40 s).1, (butS T 40 (numS T 0 40 s).1 (numS T 0 40 s).2).1, 0), sgnS T 59 (butS T 40 (numS T 0 40 s).1 (numS T 0 40 s).2).2) r ∧ fr sDp P r)
    unfold f_292_145 f_333
    have main : TT (ab_b2 (f_332 N P) fun v2 P1 => ab_b2 (f_350 N v2 (0 : Int32) (39 : Int32) P1) fun v4 P3 => Option.bind (f_331 (4 : Int32) v2 v4 (0 : Int32) P3) fun P5 => some P5) (fun r => CR T (butS T 40 (numS T 0 40 s).1 (numS T 0 40 s).2).2 r ∧ (∀ q, (butS T 40 (numS T 0 40 s).1 (numS T 0 40 s).2).2 = .inl q → CD (dsP D (4, (numS T 0 40 s).1, (butS T 40 (numS T 0 40 s).1 (numS T 0 40 s).2).1, 0)).1 (dsP D (4, (numS T 0 40 s).1, (butS T 40 (numS T 0 40 s).1 (numS T 0 40 s).2).1, 0)).2 r) ∧ fr sDp P r) := by
      refine TT_b2 (c_read0 h ok hN) (fun v1 P1 hv1 => ?_)
      obtain ⟨a1, a2, a3⟩ := hv1
      dsimp only at a1 a2 a3
      refine TT_b2 (c_but (hb := 40) (o := (numS T 0 40 s).1) (by decide) (by decide) (numS_w (by decide)) (fun q e => a2 q e) a1 ok hN) (fun v2 P2 hv2 => ?_)
      obtain ⟨b1, b2, b3⟩ := hv2
      dsimp only at b1 b2 b3
      refine TT_bind (c_keepD (D := D) (d := (4, (numS T 0 40 s).1, (butS T 40 (numS T 0 40 s).1 (numS T 0 40 s).2).1, 0)) (kp (a3.tr b3)).1 hm) (fun P4 h4 => TT_some ⟨CR.keep b1 (fun b j hb => h4.2.1 b j (by unfold kTp at hb; omega)), fun q e => h4.1 ?_, ((a3.tr b3).mono sTp_D).tr (h4.2.mono (fun b j e => Or.inr e))⟩)
      obtain ⟨q1, e1, _⟩ := butS_l e
      exact ⟨rfl, a2 q1 e1, b2 q e, rfl⟩
    refine TT_bind main (fun P1 h1 => ?_)
    exact TT_bind (c_semiD (D := dsP D (4, (numS T 0 40 s).1, (butS T 40 (numS T 0 40 s).1 (numS T 0 40 s).2).1, 0)) h1.1 ok h1.2.1 hN) (fun P2 h2 => TT_some ⟨h2.1, h1.2.2.tr h2.2⟩)
  · exact hone 5
  · exact hone 6
  · exact hpt 7 (Or.inr rfl)
  · exact hone 8
  · exact hpr 9 (Or.inr rfl)
theorem c_deedS (h : CR T (.inl q) P) (ok : okT T) (hd : CD D.1 D.2 P) (hm : D.1 ≤ 30) (hpe : P.1 3 5 = iN pe) (h8 : pe ≤ 8) (hN : 70000 ≤ N) : TT (f_292 N (iN D.1) P) (fun r => CDs T (deS T pe D q) r ∧ fr sDp P r) := by
  unfold f_292
  refine TT_b2 (c_word2 h ok hN) (fun v P1 hv => ?_)
  obtain ⟨b1, b2, b3, b4⟩ := hv
  dsimp only at b1 b2 b3 b4
  have e4 := b3 q rfl
  have d1 : CD D.1 D.2 P1 := hd.keep (fun b j hb => b4.1 b j (by unfold sTp; omega))
  have i30 : (iN D.1 < (30 : Int32)) = (D.1 < 30) := iN_ltl (by omega) (by decide)
  rw [e4]
  unfold f_292_22
  cases hw : wIx (lw T q) wsD 0 with
  | none =>
    have ec : deS T pe D q = (D, .inr (1, q)) := by unfold deS; rw [hw]
    rw [ec]
    rw [wdS_none hw] at b1 b2
    dsimp only at b1 b2
    have fin : TT (some P1) (fun r => CDs T (D, .inr (1, q)) r ∧ fr sDp P r) := TT_some ⟨⟨b2, fun q' e => by cases e⟩, b4.mono sTp_D⟩
    rw [c_isF b2, Option.bind_some, if_neg (show ¬ bI (isF (.inr (1, q))) = 0 from (by decide : ¬ bI true = 0)), c_blamed b2, Option.bind_some, c_isF b2, Option.bind_some, if_neg (show ¬ bI (isF (.inr (1, q))) = 0 from (by decide : ¬ bI true = 0))]
    split <;> exact fin
  | some k =>
    have hk : k < 10 := Nat.lt_of_lt_of_le (wIx_lt hw) (by decide)
    have ec : deS T pe D q = if D.1 = 30 then (D, .inr (3, q)) else (dsP D (deA T pe k (.inl (sk T (rn isLt T q)))).1, sgnS T 59 (deA T pe k (.inl (sk T (rn isLt T q)))).2) := by unfold deS; rw [hw]
    rw [wdS_some hw] at b1 b2
    dsimp only at b1 b2
    rw [b1, oN_some, ec]
    by_cases h30 : D.1 = 30
    · rw [if_pos h30, if_neg (by rw [i30]; omega)]
      refine TT_bind (c_blame b2 (k := 3) (p := q) (by decide) (by decide)) (fun P2 h2 => ?_)
      rw [c_isF h2.1, Option.bind_some, if_neg (show ¬ bI (isF (.inr (3, q))) = 0 from (by decide : ¬ bI true = 0))]
      exact TT_some ⟨⟨h2.1, fun q' e => by cases e⟩, (b4.tr h2.2).mono sTp_D⟩
    · rw [if_neg h30, if_pos (by rw [i30]; omega), c_isF b2, Option.bind_some, if_pos (by rfl)]
      exact (c_deed b2 ok d1 (by omega) ((b4.1 3 5 (by unfold sTp; omega)).trans hpe) h8 hk hN).mono (fun r hr => ⟨hr.1, (b4.mono sTp_D).tr hr.2⟩)
theorem c_deedsL (ok : okT T) (h8 : pe ≤ 8) (hN : 70000 ≤ N) : ∀ (c i : Nat) (D : DsT) (s : RS) (P : ab_P) (n : Nat), i + c = 32 → c < n → (∀ q, s = .inl q → D.1 = i ∧ i ≤ 30) → CDs T (D, s) P → P.1 3 5 = iN pe → (∀ q, s = .inl q → okDs pe D) → TT (f_214_7 N n (iN i) P) (fun r => CDs T (dsL T pe c D s) r ∧ fr sDp P r) := by
  intro c
  induction c with
  | zero =>
    intro i D s P n hi hn hDi h hpe okd
    obtain ⟨n, rfl⟩ : ∃ z, n = z + 1 := ⟨n - 1, by omega⟩
    unfold f_214_7
    rw [if_pos (by rw [iN_lll (by omega) (by decide)]; exact (show 30 < i by omega))]
    exact TT_some ⟨h, fr.rf⟩
  | succ c ih =>
    intro i D s P n hi hn hDi h hpe okd
    obtain ⟨n, rfl⟩ : ∃ z, n = z + 1 := ⟨n - 1, by omega⟩
    unfold f_214_7
    cases s with
    | inr f =>
      have e9 : dsL T pe (c + 1) D (.inr f) = (D, .inr f) := rfl
      rw [e9, c_more0 h.1, b2_some, if_pos rfl]
      split <;> exact TT_some ⟨h, fr.rf⟩
    | inl q =>
      obtain ⟨hDi1, hi30⟩ := hDi q rfl
      have okd1 := okd q rfl
      have f1 : fr sDp P (ab_pI P 1 3 (iN q)) := fr.I (Or.inl (by unfold sTp; omega))
      rw [if_neg (by rw [iN_lll (by omega) (by decide)]; exact (show ¬ 30 < i by omega)), c_more1 h.1 ok hN, b2_some]
      have e9 : dsL T pe (c + 1) D (.inl q) = if q < T.2 then dsL T pe c (deS T pe D q).1 (deS T pe D q).2 else (D, .inl q) := rfl
      rw [e9]
      have g := CR.at' h.1
      have gd : CD D.1 D.2 (ab_pI P 1 3 (iN q)) := (h.2 q rfl).keep (fun b j hb => pI_ne (by omega))
      have gp : (ab_pI P 1 3 (iN q)).1 3 5 = iN pe := by rw [pI_ne (by decide)]; exact hpe
      by_cases hq : q < T.2
      · rw [if_neg (by rw [bI_0]; simp [hq]), if_pos hq, iN_succ, ← hDi1]
        refine TT_bind (c_deedS g ok gd okd1.1 gp h8 hN) (fun P2 h2 => ?_)
        rw [hDi1]
        refine (ih (i + 1) (deS T pe D q).1 (deS T pe D q).2 P2 n (by omega) (by omega) (fun q2 e => ?_) h2.1 ((h2.2.1 3 5 (by unfold sDp sTp; omega)).trans gp) (fun q2 e => (deS_ok okd1 e).1)).mono (fun r hr => ⟨hr.1, (f1.tr h2.2).tr hr.2⟩)
        have := deS_ok okd1 e
        omega
      · rw [if_pos (by rw [bI_0]; simp [hq]), if_neg hq]
        exact TT_some ⟨⟨g, fun _ _ => gd⟩, f1⟩
theorem c_deedsR (h : CR T (.inl (sk T 0)) P) (ok : okT T) (hpe : P.1 3 5 = iN pe) (h8 : pe ≤ 8) (hN : 70000 ≤ N) : TT (f_214 N P) (fun r => CDs T (deedsS T pe) r ∧ fr sDp P r) := by
  unfold f_214
  refine TT_lt ?_
  refine (c_deedsL (pe := pe) ok h8 hN 32 0 ds0 (.inl (sk T 0)) _ N (by decide) (by omega) (fun q e => ⟨rfl, by decide⟩) ⟨h.keep (fun b j hb => ?_), fun q e => ⟨pI_eq, fun i hi => absurd hi (Nat.not_lt_zero i)⟩⟩ (by rw [pI_ne (by decide)]; exact hpe) (fun q e => ds0_ok)).mono (fun r hr => ⟨hr.1, (fr.I (by unfold sDp; omega)).tr hr.2⟩)
  unfold kTp at hb
  rw [pI_ne (by omega)]
end DE
