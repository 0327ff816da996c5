/-! deeds as a text: the reference -/
theorem vD_0 : f_287 P00 4 1 25 0 0 0 0 0 = some (jN (gL [100, 97, 121])) := by decide +kernel
theorem vD_1 : f_287 P00 19 12 1 16 0 0 0 0 = some (jN (gL [115, 108, 97, 112])) := by decide +kernel
theorem vD_2 : f_287 P00 16 1 19 19 0 0 0 0 = some (jN (gL [112, 97, 115, 115])) := by decide +kernel
theorem vD_3 : f_287 P00 19 16 12 9 20 0 0 0 = some (jN (gL [115, 112, 108, 105, 116])) := by decide +kernel
theorem vD_4 : f_287 P00 10 15 9 14 0 0 0 0 = some (jN (gL [106, 111, 105, 110])) := by decide +kernel
theorem vD_5 : f_287 P00 20 5 12 12 0 0 0 0 = some (jN (gL [116, 101, 108, 108])) := by decide +kernel
theorem vD_6 : f_287 P00 19 15 18 18 25 0 0 0 = some (jN (gL [115, 111, 114, 114, 121])) := by decide +kernel
theorem vD_7 : f_287 P00 23 18 15 14 7 12 25 0 = some (jN (gL [119, 114, 111, 110, 103, 108, 121])) := by decide +kernel
theorem vD_8 : f_287 P00 6 15 18 7 9 22 5 0 = some (jN (gL [102, 111, 114, 103, 105, 118, 101])) := by decide +kernel
theorem vD_9 : f_287 P00 16 1 25 0 0 0 0 0 = some (jN (gL [112, 97, 121])) := by decide +kernel
section DR
variable {T : TX} {D : DsT} {P : ab_P} {N pe q k m : Nat} {s : RS} {d : DD4}
theorem r_deedW (g : RR T (.inl q) P) (ok : okT T) (hN : 70000 ≤ N) : f_217 N P = some (oN (wIx (lw T q) wsD 0), ab_pI P 72 4 (iN q)) := by
  have g1 := g.at'
  have hp : (ab_pI P 72 4 (iN q)).1 72 4 = iN q := pI_eq
  have e0 := r_isW g ok hN vD_0 (by decide)
  have e1 := r_isWp g1 hp ok hN vD_1 (by decide)
  have e2 := r_isWp g1 hp ok hN vD_2 (by decide)
  have e3 := r_isWp g1 hp ok hN vD_3 (by decide)
  have e4 := r_isWp g1 hp ok hN vD_4 (by decide)
  have e5 := r_isWp g1 hp ok hN vD_5 (by decide)
  have e6 := r_isWp g1 hp ok hN vD_6 (by decide)
  have e7 := r_isWp g1 hp ok hN vD_7 (by decide)
  have e8 := r_isWp g1 hp ok hN vD_8 (by decide)
  have e9 := r_isWp g1 hp ok hN vD_9 (by decide)
  unfold f_217 wsD
  simp only [wIx]
  rw [e0, b2_some]
  by_cases h0 : lw T q = [100, 97, 121]
  · rw [if_pos h0, if_neg (by rw [bI_0]; simp [h0])]
    rfl
  · rw [if_neg h0, if_pos (by rw [bI_0]; simp [h0])]
    rw [e1, b2_some]
    by_cases h1 : lw T q = [115, 108, 97, 112]
    · rw [if_pos h1, if_neg (by rw [bI_0]; simp [h1])]
      rfl
    · rw [if_neg h1, if_pos (by rw [bI_0]; simp [h1])]
      rw [e2, b2_some]
      by_cases h2 : lw T q = [112, 97, 115, 115]
      · rw [if_pos h2, if_neg (by rw [bI_0]; simp [h2])]
        rfl
      · rw [if_neg h2, if_pos (by rw [bI_0]; simp [h2])]
        rw [e3, b2_some]
        by_cases h3 : lw T q = [115, 112, 108, 105, 116]
        · rw [if_pos h3, if_neg (by rw [bI_0]; simp [h3])]
          rfl
        · rw [if_neg h3, if_pos (by rw [bI_0]; simp [h3])]
          rw [e4, b2_some]
          by_cases h4 : lw T q = [106, 111, 105, 110]
          · rw [if_pos h4, if_neg (by rw [bI_0]; simp [h4])]
            rfl
          · rw [if_neg h4, if_pos (by rw [bI_0]; simp [h4])]
            rw [e5, b2_some]
            by_cases h5 : lw T q = [116, 101, 108, 108]
            · rw [if_pos h5, if_neg (by rw [bI_0]; simp [h5])]
              rfl
            · rw [if_neg h5, if_pos (by rw [bI_0]; simp [h5])]
              rw [e6, b2_some]
              by_cases h6 : lw T q = [115, 111, 114, 114, 121]
              · rw [if_pos h6, if_neg (by rw [bI_0]; simp [h6])]
                rfl
              · rw [if_neg h6, if_pos (by rw [bI_0]; simp [h6])]
                rw [e7, b2_some]
                by_cases h7 : lw T q = [119, 114, 111, 110, 103, 108, 121]
                · rw [if_pos h7, if_neg (by rw [bI_0]; simp [h7])]
                  rfl
                · rw [if_neg h7, if_pos (by rw [bI_0]; simp [h7])]
                  rw [e8, b2_some]
                  by_cases h8 : lw T q = [102, 111, 114, 103, 105, 118, 101]
                  · rw [if_pos h8, if_neg (by rw [bI_0]; simp [h8])]
                    rfl
                  · rw [if_neg h8, if_pos (by rw [bI_0]; simp [h8])]
                    rw [e9, b2_some]
                    by_cases h9 : lw T q = [112, 97, 121]
                    · rw [if_pos h9, if_neg (by rw [bI_0]; simp [h9])]
                      rfl
                    · rw [if_neg h9, if_pos (by rw [bI_0]; simp [h9])]
                      rfl
theorem RDs.push {P' : ab_P} (h : RDs D.1 D.2 P) (e : ∀ b j, 445 ≤ b ∧ b < 445 + D.1 → P'.1 b j = P.1 b j) (hd : RD4 (444 + 1 + D.1) d P') : RDs (dsP D d).1 (dsP D d).2 P' := fun i hi => by
  have hi : i < D.1 + 1 := hi
  show RD4 (444 + 1 + i) (if i = D.1 then d else D.2 i) P'
  by_cases ei : i = D.1
  · rw [if_pos ei, ei]
    exact hd
  · rw [if_neg ei]
    exact RD4.keep (h i (by omega)) (fun j => e _ j (by omega))
/-- its sign, at the end -/
theorem r_semiD (h : RR T s P) (ok : okT T) (hd : ∀ q, s = .inl q → RDs D.1 D.2 P) (hm : D.1 ≤ 30) (hN : 70000 ≤ N) : TT (f_129 N (59 : Int32) P) (fun r => RDsT T (D, sgnS T 59 s) r ∧ fr sDr P r) := by
  refine (r_sign (c := 59) (by decide) h ok hN).mono (fun r hr => ⟨⟨hr.1, fun q' e => ?_⟩, hr.2.mono sTr_D⟩)
  obtain ⟨q, e1⟩ := sgnS_l e
  exact (hd q e1).keep (fun b j hb => hr.2.1 b j (by unfold sTr; omega))
/-- what only this row has seen -/
def sRow (m : Nat) (b j : Nat) : Prop := sTr b j ∨ b = 445 + m
theorem sTr_w {m : Nat} : ∀ b j, sTr b j → sRow m b j := fun _ _ h => Or.inl h
theorem sRow_D {m : Nat} (hm : m < 30) : ∀ b j, sRow m b j → sDr b j := fun b j h => by
  unfold sRow at h
  unfold sDr
  rcases h with h | h
  · exact Or.inl h
  · omega
theorem r_fin {P0 : ab_P} (h : RR T s P) (ok : okT T) (hd : RDs D.1 D.2 P0) (hm : D.1 < 30) (f : fr (sRow D.1) P0 P) (hr : ∀ q, s = .inl q → RD4 (444 + 1 + D.1) d P) (hN : 70000 ≤ N) : TT (Option.bind (f_129 N (59 : Int32) P) fun P8 => some P8) (fun r => RDsT T (dsP D d, sgnS T 59 s) r ∧ fr sDr P0 r) := by
  refine TT_bind (r_semiD (D := dsP D d) (s := s) h ok (fun q e => RDs.push hd (fun b j hb => f.1 b j (by unfold sRow sTr; omega)) (hr q e)) (by show D.1 + 1 ≤ 30; omega) hN) (fun P2 h2 => TT_some ⟨h2.1, (f.mono (sRow_D hm)).tr h2.2⟩)
theorem r_191 {P0 : ab_P} {v : Int32} (h : RR T s P) (ok : okT T) (hd : RDs D.1 D.2 P0) (hm : D.1 < 30) (f : fr (sRow D.1) P0 P) (hr : ∀ q, s = .inl q → P.1 (444 + 1 + D.1) 0 = iN d.1 ∧ P.1 (444 + 1 + D.1) 1 = iN d.2.1 ∧ ((d.1 ≠ 0 ∧ d.1 ≠ 5 ∧ d.1 ≠ 6 ∧ d.1 ≠ 8) → v = iN d.2.2.1)) (h19 : ¬ (d.1 = 1 ∨ d.1 = 9)) (hN : 70000 ≤ N) : TT (f_122_191 N (444 + 1 + D.1) v 2 P) (fun r => RDsT T (dsP D d, sgnS T 59 s) r ∧ fr sDr P0 r) := by
  unfold f_122_191
  rw [if_pos (by decide), show (2 : Int32).toNatClampNeg = 2 by decide]
  refine TT_lt ?_
  refine r_fin (d := d) (h.keep (P' := ab_pI P (444 + 1 + D.1) 2 v) (fun b j hb => by unfold kTr at hb; rw [pI_ne (by omega)])) ok hd hm (f.tr (fr.I (by unfold sRow; omega))) (fun q e => ?_) hN
  obtain ⟨a1, a2, a3⟩ := hr q e
  refine ⟨?_, ?_, fun hh => ?_, fun hh => absurd hh h19⟩
  · rw [pI_nj (by decide)]; exact a1
  · rw [pI_nj (by decide)]; exact a2
  · rw [pI_eq]; exact a3 hh
theorem r_pers (h : RR T s P) (ok : okT T) (hpe : P.1 76 0 = iN pe) (h8 : pe ≤ 8) (hN : 70000 ≤ N) : TT (f_126 N P) (fun r => RR T (numS T 0 pe s).2 r.2 ∧ (∀ q', (numS T 0 pe s).2 = .inl q' → r.1 = iN (numS T 0 pe s).1) ∧ fr sTr P r.2) := by
  unfold f_126
  rw [hpe]
  exact TT_b2 (r_num (lo := 0) (hb := pe) (by decide) (i_pe _ (by omega)) (by omega) h ok hN) (fun v P1 hv => TT_some hv)
theorem r_deed (h : RR T (.inl q) P) (hp : P.1 72 4 = iN q) (ok : okT T) (hd : RDs D.1 D.2 P) (hm : D.1 < 30) (hpe : P.1 76 0 = iN pe) (h8 : pe ≤ 8) (hk : k < 10) (hN : 70000 ≤ N) : TT (f_122_45 N (iN D.1) (iN k) P) (fun r => RDsT T (dsP D (deA T pe k (.inl (sk T (rn isLt T q)))).1, sgnS T 59 (deA T pe k (.inl (sk T (rn isLt T q)))).2) r ∧ fr sDr P r) := by
  obtain ⟨w1, w2⟩ := r_skipQ h hp ok hN
  unfold f_122_45
  rw [w1, Option.bind_some, if_pos (iN_gi hm (by decide)), iN_nat (by omega)]
  refine TT_lt ?_
  have g0 : RR T (.inl (sk T (rn isLt T q))) (ab_pI (ab_pI P 72 4 (iN (rn isLt T q))) (444 + 1 + D.1) 0 (iN k)) := w2.keep (fun b j hb => by unfold kTr at hb; rw [pI_ne (by omega)])
  have f0 : fr (sRow D.1) P (ab_pI (ab_pI P 72 4 (iN (rn isLt T q))) (444 + 1 + D.1) 0 (iN k)) := (fr.I (Or.inl (by unfold sTr; omega))).tr (fr.I (by unfold sRow; omega))
  have r0 : (ab_pI (ab_pI P 72 4 (iN (rn isLt T q))) (444 + 1 + D.1) 0 (iN k)).1 (444 + 1 + D.1) 0 = iN k := pI_eq
  generalize ab_pI (ab_pI P 72 4 (iN (rn isLt T q))) (444 + 1 + D.1) 0 (iN k) = P1 at g0 f0 r0 ⊢
  generalize sk T (rn isLt T q) = q1 at g0 ⊢
  have hpe1 : ∀ {P2 : ab_P}, fr (sRow D.1) P P2 → P2.1 76 0 = iN pe := fun f => (f.1 76 0 (by unfold sRow sTr; omega)).trans hpe
  have rw_ : ∀ {P2 P3 : ab_P} (j : Nat), fr sTr P2 P3 → P3.1 (444 + 1 + D.1) j = P2.1 (444 + 1 + D.1) j := fun j f => f.1 _ j (by unfold sTr; omega)
  have hpr : ∀ k, (k = 1 ∨ k = 9) → P1.1 (444 + 1 + D.1) 0 = iN k → TT (f_122_88 N (444 + 1 + D.1) P1) (fun r => RDsT T (dsP D (k, (cl3 T pe (.inl q1)).1), sgnS T 59 (cl3 T pe (.inl q1)).2) r ∧ fr sDr P r) := fun k hk19 r0 => by
    unfold f_122_88
    refine TT_b2 (r_pers g0 ok (hpe1 f0) h8 hN) (fun v1 P2 hv1 => ?_)
    obtain ⟨a1, a2, a3⟩ := hv1
    dsimp only at a1 a2 a3
    refine TT_lt ?_
    have fA := (f0.tr (a3.mono sTr_w)).tr (fr.I (S := sRow D.1) (P := P2) (a := 444 + 1 + D.1) (i := 1) (x := v1) (by unfold sRow; omega))
    rw [hpe1 fA, show (ab_pI P2 (444 + 1 + D.1) 1 v1).1 (444 + 1 + D.1) 1 = v1 from pI_eq]
    refine TT_b2 (r_but (hb := pe) (o := (numS T 0 pe (.inl q1)).1) (i_pe _ (by omega)) (by omega) (numS_w (by omega)) (fun q e => a2 q e) (a1.keep (P' := ab_pI P2 (444 + 1 + D.1) 1 v1) (fun b j hb => by unfold kTr at hb; rw [pI_ne (by omega)])) ok hN) (fun v2 P3 hv2 => ?_)
    obtain ⟨b1, b2, b3⟩ := hv2
    dsimp only at b1 b2 b3
    refine TT_lt ?_
    refine TT_b2 (r_num (lo := 1) (hb := 1000) (by decide) (by decide) (by decide) (b1.keep (P' := ab_pI P3 (444 + 1 + D.1) 2 v2) (fun b j hb => by unfold kTr at hb; rw [pI_ne (by omega)])) ok hN) (fun v3 P4 hv3 => ?_)
    obtain ⟨c1, c2, c3⟩ := hv3
    dsimp only at c1 c2 c3
    refine TT_lt ?_
    refine r_fin (s := (cl3 T pe (.inl q1)).2) (d := (k, (cl3 T pe (.inl q1)).1)) (RR.keep (s := (cl3 T pe (.inl q1)).2) c1 (P' := ab_pI P4 (444 + 1 + D.1) 3 v3) (fun b j hb => by unfold kTr at hb; rw [pI_ne (by omega)])) ok hd hm ((((fA.tr (b3.mono sTr_w)).tr (fr.I (by unfold sRow; omega))).tr (c3.mono sTr_w)).tr (fr.I (by unfold sRow; omega))) (fun q e => ?_) hN
    have y1 := c2 q e
    obtain ⟨q2, e2, _⟩ := numS_l e
    have y2 := b2 q2 e2
    obtain ⟨q3, e3, _⟩ := butS_l e2
    have y3 := a2 q3 e3
    refine ⟨?_, ?_, fun _ => ?_, fun _ => ?_⟩
    · rw [pI_nj (by decide), rw_ 0 c3, pI_nj (by decide), rw_ 0 b3, pI_nj (by decide), rw_ 0 a3]; exact r0
    · rw [pI_nj (by decide), rw_ 1 c3, pI_nj (by decide), rw_ 1 b3, pI_eq]; exact y3
    · rw [pI_nj (by decide), rw_ 2 c3, pI_eq]; exact y2
    · rw [pI_eq]; exact y1
  have hot : ∀ k, ¬ (k = 0 ∨ k = 1 ∨ k = 9) → k < 10 → P1.1 (444 + 1 + D.1) 0 = iN k → TT (f_122_127 N (444 + 1 + D.1) (iN k) P1) (fun r => RDsT T (dsP D (deA T pe k (.inl q1)).1, sgnS T 59 (deA T pe k (.inl q1)).2) r ∧ fr sDr P r) := fun k hk0 hk r0 => by
    unfold f_122_127
    refine TT_b2 (r_num (lo := 0) (hb := 40) (by decide) (by decide) (by decide) g0 ok hN) (fun v1 P2 hv1 => ?_)
    obtain ⟨a1, a2, a3⟩ := hv1
    dsimp only at a1 a2 a3
    refine TT_lt ?_
    have fA := (f0.tr (a3.mono sTr_w)).tr (fr.I (S := sRow D.1) (P := P2) (a := 444 + 1 + D.1) (i := 1) (x := v1) (by unfold sRow; omega))
    have gA : RR T (numS T 0 40 (.inl q1)).2 (ab_pI P2 (444 + 1 + D.1) 1 v1) := a1.keep (fun b j hb => by unfold kTr at hb; rw [pI_ne (by omega)])
    have rA0 : (ab_pI P2 (444 + 1 + D.1) 1 v1).1 (444 + 1 + D.1) 0 = iN k := by rw [pI_nj (by decide), rw_ 0 a3]; exact r0
    have rA1 : (ab_pI P2 (444 + 1 + D.1) 1 v1).1 (444 + 1 + D.1) 1 = v1 := pI_eq
    generalize ab_pI P2 (444 + 1 + D.1) 1 v1 = PA at fA gA rA0 rA1 ⊢
    have k2 : (iN k = (2 : Int32)) = (k = 2) := iN_eql (by omega) (by decide)
    have k7 : (iN k = (7 : Int32)) = (k = 7) := iN_eql (by omega) (by decide)
    have k3 : (iN k = (3 : Int32)) = (k = 3) := iN_eql (by omega) (by decide)
    have k4 : (iN k = (4 : Int32)) = (k = 4) := iN_eql (by omega) (by decide)
    have two : (k = 2 ∨ k = 7) → TT (ab_b2 (f_126 N PA) fun v26 P25 => f_122_191 N (444 + 1 + D.1) v26 (2 : Int32) P25) (fun r => RDsT T (dsP D (deA T pe k (.inl q1)).1, sgnS T 59 (deA T pe k (.inl q1)).2) r ∧ fr sDr P r) := fun hk27 => by
      have ed : deA T pe k (.inl q1) = ((k, (numS T 0 40 (.inl q1)).1, (numS T 0 pe (numS T 0 40 (.inl q1)).2).1, 0), (numS T 0 pe (numS T 0 40 (.inl q1)).2).2) := by
        unfold deA
        rw [if_neg (by omega), if_neg (by omega), if_pos hk27]
      rw [ed]
      refine TT_b2 (r_pers gA ok (hpe1 fA) h8 hN) (fun v2 P3 hv2 => ?_)
      obtain ⟨b1, b2, b3⟩ := hv2
      dsimp only at b1 b2 b3
      refine r_191 (d := (k, (numS T 0 40 (.inl q1)).1, (numS T 0 pe (numS T 0 40 (.inl q1)).2).1, 0)) b1 ok hd hm (fA.tr (b3.mono sTr_w)) (fun q e => ?_) (by dsimp only; omega) hN
      obtain ⟨q2, e2, _⟩ := numS_l e
      exact ⟨(rw_ 0 b3).trans rA0, (rw_ 1 b3).trans (rA1.trans (a2 q2 e2)), fun _ => b2 q e⟩
    simp only [k2, k7]
    by_cases h2 : k = 2
    · rw [if_pos h2]
      exact two (Or.inl h2)
    · rw [if_neg h2]
      by_cases h7 : k = 7
      · rw [if_pos h7]
        exact two (Or.inr h7)
      · rw [if_neg h7]
        unfold f_122_157
        simp only [k3]
        by_cases h3 : k = 3
        · rw [if_pos h3]
          subst h3
          refine TT_b2 (r_num (lo := 1) (hb := 1000) (by decide) (by decide) (by decide) gA ok hN) (fun v2 P3 hv2 => ?_)
          obtain ⟨b1, b2, b3⟩ := hv2
          dsimp only at b1 b2 b3
          refine r_191 (d := (3, (numS T 0 40 (.inl q1)).1, (numS T 1 1000 (numS T 0 40 (.inl q1)).2).1, 0)) b1 ok hd hm (fA.tr (b3.mono sTr_w)) (fun q e => ?_) (by dsimp only; omega) hN
          obtain ⟨q2, e2, _⟩ := numS_l e
          exact ⟨(rw_ 0 b3).trans rA0, (rw_ 1 b3).trans (rA1.trans (a2 q2 e2)), fun _ => b2 q e⟩
        · rw [if_neg h3]
          unfold f_122_173
          simp only [k4]
          by_cases h4 : k = 4
          · rw [if_pos h4, rA1]
            subst h4
            refine TT_b2 (r_but (hb := 40) (o := (numS T 0 40 (.inl q1)).1) (by decide) (by decide) (numS_w (by decide)) (fun q e => a2 q e) gA ok hN) (fun v2 P3 hv2 => ?_)
            obtain ⟨b1, b2, b3⟩ := hv2
            dsimp only at b1 b2 b3
            refine r_191 (d := (4, (numS T 0 40 (.inl q1)).1, (butS T 40 (numS T 0 40 (.inl q1)).1 (numS T 0 40 (.inl q1)).2).1, 0)) b1 ok hd hm (fA.tr (b3.mono sTr_w)) (fun q e => ?_) (by dsimp only; omega) hN
            obtain ⟨q2, e2, _⟩ := butS_l e
            exact ⟨(rw_ 0 b3).trans rA0, (rw_ 1 b3).trans (rA1.trans (a2 q2 e2)), fun _ => b2 q e⟩
          · rw [if_neg h4]
            have ed : deA T pe k (.inl q1) = ((k, (numS T 0 40 (.inl q1)).1, 0, 0), (numS T 0 40 (.inl q1)).2) := by
              unfold deA
              rw [if_neg (by omega), if_neg (by omega), if_neg (by omega), if_neg h3, if_neg h4]
            rw [ed]
            exact r_191 (d := (k, (numS T 0 40 (.inl q1)).1, 0, 0)) gA ok hd hm fA (fun q e => ⟨rA0, rA1.trans (a2 q e), fun hh => by dsimp only at hh; omega⟩) (by dsimp only; omega) hN
  rcases (show k = 0 ∨ k = 1 ∨ k = 9 ∨ ¬ (k = 0 ∨ k = 1 ∨ k = 9) by omega) with rfl | rfl | rfl | hk0
  · rw [if_pos (show iN 0 = (0 : Int32) from rfl)]
    refine TT_b2 (r_num (lo := 1) (hb := 31) (by decide) (by decide) (by decide) g0 ok hN) (fun v1 P2 hv1 => ?_)
    obtain ⟨a1, a2, a3⟩ := hv1
    dsimp only at a1 a2 a3
    refine TT_lt ?_
    refine r_fin (d := (0, (numS T 1 31 (.inl q1)).1, 0, 0)) (a1.keep (P' := ab_pI P2 (444 + 1 + D.1) 1 v1) (fun b j hb => by unfold kTr at hb; rw [pI_ne (by omega)])) ok hd hm ((f0.tr (a3.mono sTr_w)).tr (fr.I (by unfold sRow; omega))) (fun q e => ⟨?_, ?_, fun hh => absurd rfl hh.1, fun hh => by dsimp only at hh; omega⟩) hN
    · rw [pI_nj (by decide), rw_ 0 a3]; exact r0
    · rw [pI_eq]; exact a2 q e
  · rw [if_neg (show ¬ iN 1 = (0 : Int32) by decide), if_pos (show iN 1 = (1 : Int32) from rfl)]
    exact hpr 1 (Or.inl rfl) r0
  · rw [if_neg (show ¬ iN 9 = (0 : Int32) by decide), if_neg (show ¬ iN 9 = (1 : Int32) by decide), if_pos (show iN 9 = (9 : Int32) from rfl)]
    exact hpr 9 (Or.inr rfl) r0
  · rw [if_neg (show ¬ iN k = (0 : Int32) by rw [show (0 : Int32) = iN 0 from rfl, iN_eq (by omega) (by decide)]; omega), if_neg (show ¬ iN k = (1 : Int32) by rw [show (1 : Int32) = iN 1 from rfl, iN_eq (by omega) (by decide)]; omega), if_neg (show ¬ iN k = (9 : Int32) by rw [show (9 : Int32) = iN 9 from rfl, iN_eq (by omega) (by decide)]; omega)]
    exact hot k hk0 hk r0
theorem r_deedS (h : RR T (.inl q) P) (ok : okT T) (hd : RDs D.1 D.2 P) (hm : D.1 ≤ 30) (hpe : P.1 76 0 = iN pe) (h8 : pe ≤ 8) (hN : 70000 ≤ N) : TT (f_122 N (iN D.1) P) (fun r => RDsT T (deS T pe D q) r ∧ fr sDr P r) := by
  unfold f_122
  rw [r_deedW h ok hN, b2_some]
  have g := h.at'
  have f1 : fr sDr P (ab_pI P 72 4 (iN q)) := fr.I (Or.inl (by unfold sTr; omega))
  have hp : (ab_pI P 72 4 (iN q)).1 72 4 = iN q := pI_eq
  have hpe1 : (ab_pI P 72 4 (iN q)).1 76 0 = iN pe := by rw [pI_ne (by decide)]; exact hpe
  have hd1 : RDs D.1 D.2 (ab_pI P 72 4 (iN q)) := hd.keep (fun b j hb => by rw [pI_ne (by omega)])
  generalize ab_pI P 72 4 (iN q) = P1 at g f1 hp hpe1 hd1 ⊢
  rw [hp]
  cases hw : wIx (lw T q) wsD 0 with
  | none =>
    have ec : deS T pe D q = (D, .inr (1, q)) := by unfold deS; rw [hw]
    rw [ec, oN_none, if_pos rfl]
    refine TT_bind (r_wrong g (k := 1) (p := q) (by decide) (by decide)) (fun P2 h2 => ?_)
    rw [if_neg h2.1.no]
    exact TT_some ⟨⟨h2.1, fun q' e => (by cases e)⟩, f1.tr (h2.2.mono sTr_D)⟩
  | some k =>
    have hk : k < 10 := Nat.lt_of_lt_of_le (wIx_lt hw) (by decide)
    have ec : deS T pe D q = if D.1 = 30 then (D, .inr (3, q)) else (dsP D (deA T pe k (.inl (sk T (rn isLt T q)))).1, sgnS T 59 (deA T pe k (.inl (sk T (rn isLt T q)))).2) := by unfold deS; rw [hw]
    rw [ec, oN_some, if_neg (by rw [iN_nm1 (by omega)]; exact id)]
    have i30 : (iN D.1 = (30 : Int32)) = (D.1 = 30) := iN_eql (by omega) (by decide)
    simp only [i30]
    by_cases h30 : D.1 = 30
    · rw [if_pos h30, if_pos h30]
      refine TT_bind (r_wrong g (k := 3) (p := q) (by decide) (by decide)) (fun P2 h2 => ?_)
      rw [if_neg h2.1.no]
      exact TT_some ⟨⟨h2.1, fun q' e => (by cases e)⟩, f1.tr (h2.2.mono sTr_D)⟩
    · rw [if_neg h30, if_neg h30, if_pos g.ok]
      exact (r_deed g hp ok hd1 (by omega) hpe1 h8 hk hN).mono (fun r hr => ⟨hr.1, f1.tr hr.2⟩)
theorem r_deedsL {Q : Int32 × ab_P → Prop} (ok : okT T) (h8 : pe ≤ 8) (hN : 70000 ≤ N) : ∀ (c i : Nat) (D : DsT) (s : RS) (P : ab_P) (n : Nat), i + c = 32 → c < n → (∀ q, s = .inl q → D.1 = i ∧ i ≤ 30 ∧ P.1 72 4 = iN q) → RDsT T (D, s) P → P.1 76 0 = iN pe → (∀ q, s = .inl q → okDs pe D) → (∀ r x2, RDsT T (dsL T pe c D s) r → (∀ q, (dsL T pe c D s).2 = .inl q → x2 = iN (dsL T pe c D s).1.1) → fr sDr P r → TT (f_11_102 N x2 r) Q) → TT (f_11_69 N n (iN i) P) Q := by
  intro c
  induction c with
  | zero =>
    intro i D s P n hi hn hDi h hpe okd hQ
    obtain ⟨n, rfl⟩ : ∃ z, n = z + 1 := ⟨n - 1, by omega⟩
    unfold f_11_69
    cases s with
    | inr f =>
      rw [if_neg (RR.no (f := f) h.1)]
      exact hQ P _ h (fun q e => by cases e) fr.rf
    | inl q =>
      have := hDi q rfl
      omega
  | succ c ih =>
    intro i D s P n hi hn hDi h hpe okd hQ
    obtain ⟨n, rfl⟩ : ∃ z, n = z + 1 := ⟨n - 1, by omega⟩
    unfold f_11_69
    cases s with
    | inr f =>
      rw [if_neg (RR.no (f := f) h.1)]
      exact hQ P _ h (fun q e => by cases e) fr.rf
    | inl q =>
      obtain ⟨hDi1, hi30, hp⟩ := hDi q rfl
      have okd1 := okd q rfl
      have hq := (RR.qq (q := q) h.1).1
      have h6 := ok.1
      rw [if_pos (RR.ok (q := q) h.1), hp, h.1.1.1]
      have e9 : dsL T pe (c + 1) D (.inl q) = if q < T.2 then dsL T pe c (deS T pe D q).1 (deS T pe D q).2 else (D, .inl q) := rfl
      rw [e9] at hQ
      by_cases hl : q < T.2
      · rw [if_pos (by rw [iN_lt (by omega) (by omega)]; exact hl)]
        rw [if_pos hl] at hQ
        rw [← hDi1]
        refine TT_bind (r_deedS h.1 ok (h.2 q rfl) okd1.1 hpe h8 hN) (fun P2 h2 => ?_)
        obtain ⟨a1, a2⟩ := h2
        have hpe2 : P2.1 76 0 = iN pe := (a2.1 76 0 (by unfold sDr sTr; omega)).trans hpe
        rw [hDi1, iN_succ]
        cases hs : (deS T pe D q).2 with
        | inr f =>
          have a11 := a1.1
          rw [hs] at a11
          refine TT_bind (r_blankF a11 ok hN) (fun P3 h3 => ?_)
          refine ih (i + 1) (deS T pe D q).1 (deS T pe D q).2 P3 n (by omega) (by omega) (fun q3 e => by rw [hs] at e; cases e) ⟨by rw [hs]; exact h3.1, fun q3 e => by rw [hs] at e; cases e⟩ ((h3.2.1 76 0 (by unfold sTr; omega)).trans hpe2) (fun q3 e => by rw [hs] at e; cases e) (fun r x2 hr hx hf => hQ r x2 hr hx ((a2.tr (h3.2.mono sTr_D)).tr hf))
        | inl q2 =>
          have a11 := a1.1
          rw [hs] at a11
          have hok2 := deS_ok okd1 hs
          rw [r_blank a11 ok hN, Option.bind_some]
          refine ih (i + 1) (deS T pe D q).1 (deS T pe D q).2 (ab_pI P2 72 4 (iN q2)) n (by omega) (by omega) (fun q3 e => ?_) ?_ (by rw [pI_ne (by decide)]; exact hpe2) (fun q3 e => hok2.1) (fun r x2 hr hx hf => hQ r x2 hr hx ((a2.tr (fr.I (Or.inl (by unfold sTr; omega)))).tr hf))
          · rw [hs] at e
            cases e
            exact ⟨by omega, by omega, pI_eq⟩
          · rw [hs]
            exact ⟨a11.at', fun q3 e => (a1.2 q2 hs).keep (fun b j hb => by rw [pI_ne (by omega)])⟩
      · rw [if_neg (by rw [iN_lt (by omega) (by omega)]; exact hl)]
        rw [if_neg hl] at hQ
        exact hQ P _ h (fun q e => by rw [hDi1]) fr.rf
end DR
