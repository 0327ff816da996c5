/-! calls: the questions, second part -/
section GR
variable {g g' : GS} {P : ab_P} {N K n : Nat}
theorem isRg1_nat {m : Nat} {a : Int32} (hm : m < 2147483647) (h : isRg 1 (iN m) a) : ∃ k, 1 ≤ k ∧ k ≤ m ∧ a = iN k := by
  have h0 : ¬ a < 0 := fun e => h.1 (by
    rw [Int32.lt_iff_toInt_lt] at e ⊢
    exact Int.lt_trans e (by decide))
  obtain ⟨k, hk, rfl⟩ := isRg_nat hm ⟨h0, h.2⟩
  have h1 := h.1
  rw [show (1 : Int32) = iN 1 from rfl, iN_lt (by omega) (by decide)] at h1
  exact ⟨k, by omega, hk, rfl⟩
theorem c_b2L {v : Int64} {o : Option (Int64 × ab_P)} {P0 : ab_P} (h : TT o (fun q => q.1 = v ∧ fr scC P0 q.2)) : TT (ab_b2 o fun v P => (some (.inl v, P) : Option ((Int64 ⊕ Fin 3) × ab_P))) (fun q => q.1 = .inl v ∧ fr scC P0 q.2) := TT_b2 h (fun _ _ hv => TT_some ⟨congrArg Sum.inl hv.1, hv.2⟩)
theorem c2_yes {β : Type} {F : Unit → ab_P → Option ((β ⊕ Fin 3) × ab_P)} : ab_x2 (f_258 (1 : Int32) P) F (fun q => q) = F () P := rfl
theorem c2_no {β : Type} {F : Unit → ab_P → Option ((β ⊕ Fin 3) × ab_P)} : ab_x2 (f_258 (0 : Int32) P) F (fun q => q) = some (.inr 2, noC 2 P) := rfl
theorem st16 {L : LG} (h40 : L.2.1 ≤ 40) : ((16 : Int32) < sStanding L) = ¬ mS L ≤ 16 := by
  have : mS L ≤ 40 := Nat.le_trans (cntN_le _ _) h40
  rw [standing_N, show (16 : Int32) = iN 16 from rfl, iN_lt (by decide) (by omega)]
  exact propext ⟨fun e => by omega, fun e => by omega⟩
theorem s16_yes {α : Type} {L : LG} {A B : α} (h40 : L.2.1 ≤ 40) (h : mS L ≤ 16) : (if (16 : Int32) < sStanding L then A else B) = B := if_neg (by rw [st16 h40]; exact fun e => e h)
theorem s16_no {α : Type} {L : LG} {A B : α} (h40 : L.2.1 ≤ 40) (h : ¬ mS L ≤ 16) : (if (16 : Int32) < sStanding L then A else B) = A := if_pos (by rw [st16 h40]; exact h)
theorem c_liesEnd {W : WO} {B : BK} {x : Int32} (hm : mS W.L ≤ 16) (h : FD W (bLies W.L B) P) : (Option.bind (f_260 21 P) fun v5 => if v5 = (0 : Int32) then (some (.inl (-1 : Int64), P) : Option ((Int64 ⊕ Fin 3) × ab_P)) else if x = (0 : Int32) then some (.inl ((P.1 21 12)).toInt64, P) else some (.inl (P.2.1 21 13), P)) = some (.inl (sLies W B x), P) := by
  obtain ⟨h1, h2⟩ := h
  unfold f_260
  rw [h1, h2]
  unfold sLies
  cases hb : bLies W.L B with
  | none => rfl
  | some b =>
    have : cS W.L b ≤ 16 := Nat.le_trans (cntN_le _ _) hm
    rw [if_neg (by rw [show (16 : Int32) = iN 16 from rfl, iN_lt (by decide) (by show cS W.L b < _; omega)]; show ¬ 16 < cS W.L b; omega), Option.bind_some, if_neg (by decide)]
    by_cases hx : x = 0
    · simp only [if_pos hx]; rfl
    · simp only [if_neg hx]; rfl
theorem c_said (h : MT g.W P) {k : Nat} (hk : k < g.W.pe) (h8 : g.W.pe ≤ 8) : f_257 P (iN k) = some (sSaid g.W k) := by
  unfold f_257
  rw [if_neg (by rw [iN_neg (by omega)]; exact id), if_pos (by rw [iN_ltl (by omega) (by decide)]; exact (show k < 8 by omega)), if_pos (iN_gi (by omega) (by decide)), iN_nat (by omega)]
  exact congrArg some (h.2 k hk)
theorem c248 {W : WO} (ok : OK W) (h : CG W P) : f_248 P = some (iN (pc (uS W))) := by
  unfold f_248
  rw [h.1, c_bits _ (uS_lt ok), Option.bind_some]
theorem r548 {W : WO} (ok : OK W) (h : TR W (2 ^ W.pe) P) : P.1 548 (uS W) = iN (gU W) := by
  rw [(h.2 _ uS_pe).2 (Nat.and_self _)]
  unfold eR
  rw [if_pos (show wS W (uS W) = 0 from (lf_p ok 0 (Nat.zero_le _)).2.2.1)]
  rfl
theorem r38 {W : WO} {α : Type} {A B : α} (ok : OK W) (h : TR W (2 ^ W.pe) P) : (if ab_gi (P.1 72 38) 256 then A else B) = A := by
  rw [h.1, if_pos (iN_gi (uS_lt ok) (by decide))]
theorem r548' {W : WO} (ok : OK W) (h : TR W (2 ^ W.pe) P) : P.1 548 ((P.1 72 38)).toNatClampNeg = iN (gU W) := by
  rw [h.1, iN_nat (by have := uS_lt ok; omega)]
  exact r548 ok h
theorem d1_0 : (1 : Int32) - (0 : Int32) = bI true := by decide
theorem d1_1 : (1 : Int32) - (1 : Int32) = bI false := by decide

theorem k_pays (h : CREL g P) (ok : GOK g) (a b c : Int32) (hN : 70000 ≤ N) : CallL g P (f_36_1 N a b c P) (f_37 N a b c) := by
  unfold f_36_1 f_37
  by_cases ha : isP g.W.pe a
  · by_cases hb : isP g.W.pe b
    · by_cases hab : ¬ a = b
      · by_cases hc : isRg (1) (999) c
        · obtain ⟨n0, hn1, hn9, rfl⟩ := isRg1_nat (m := 999) (by decide) hc
          refine kL_scr h ok (v := (jN (sPay g.W.L a b n0))) ?_ (fun P1 h1 h0 => ?_)
          · skip
            unfold f_151
            rw [cP_yes h ha]
            rw [cP_yes h hb]
            rw [if_neg hab]
            rw [cc_yes hc]
            unfold f_151_32
            rw [c1_yes]
            exact c_b2L (c_fewest h.2.2.2.1 ok.2.2.1 hn1 (by omega) hN)
          · skip
            rw [rP_yes h1 ok ha]
            rw [rP_yes h1 ok hb]
            unfold f_37_27
            rw [r_goon h0]
            rw [if_neg hab]
            rw [rr_yes hc]
            unfold f_37_57
            rw [r_goon h0]
            exact r_b2 (r_fewest h1.2.2.2.1 ok.2.2.1 (by omega) hN)
        · refine kL_bad (E := 1) (a := 2) (x := 1) h ok ?_ (fun P1 => rfl) (by decide) (by decide) (by decide) (fun P1 h1 h0 => ?_)
          · unfold f_151
            rw [cP_yes h ha]
            rw [cP_yes h hb]
            rw [if_neg hab]
            rw [cc_no hc]
            unfold f_151_32
            exact c1_no
          · rw [rP_yes h1 ok ha]
            rw [rP_yes h1 ok hb]
            unfold f_37_27
            rw [r_goon h0]
            rw [if_neg hab]
            rw [rr_no hc]
            unfold f_37_57
            exact r_stop (a := 2) (x := 1) h1 ok h0 (by decide) (by decide) (by decide)
      · refine kL_bad (E := 1) (a := 2) (x := 1) h ok ?_ (fun P1 => rfl) (by decide) (by decide) (by decide) (fun P1 h1 h0 => ?_)
        · unfold f_151
          rw [cP_yes h ha]
          rw [cP_yes h hb]
          rw [if_pos (Decidable.not_not.mp hab)]
          unfold f_151_32
          exact c1_no
        · rw [rP_yes h1 ok ha]
          rw [rP_yes h1 ok hb]
          unfold f_37_27
          rw [r_goon h0]
          rw [if_pos (Decidable.not_not.mp hab)]
          unfold f_37_57
          exact r_stop (a := 2) (x := 1) h1 ok h0 (by decide) (by decide) (by decide)
    · refine kL_bad (E := 0) (a := 1) (x := 0) h ok ?_ (fun P1 => rfl) (by decide) (by decide) (by decide) (fun P1 h1 h0 => ?_)
      · unfold f_151
        rw [cP_yes h ha]
        rw [cP_no h hb]
      · rw [rP_yes h1 ok ha]
        rw [rP_no h1 ok hb]
        unfold f_37_27
        exact r_stop (a := 1) (x := 0) h1 ok h0 (by decide) (by decide) (by decide)
  · refine kL_bad (E := 0) (a := 1) (x := 0) h ok ?_ (fun P1 => rfl) (by decide) (by decide) (by decide) (fun P1 h1 h0 => ?_)
    · unfold f_151
      rw [cP_no h ha]
    · rw [rP_no h1 ok ha]
      unfold f_37_27
      exact r_stop (a := 1) (x := 0) h1 ok h0 (by decide) (by decide) (by decide)
theorem k_cover (h : CREL g P) (ok : GOK g) (a b : Int32) (hN : 70000 ≤ N) : CallI g P (f_38_1 N a b P) (f_39 N a b) := by
  unfold f_38_1 f_39
  by_cases ha : isP g.W.pe a
  · by_cases hb : isRg (0) (9999) b
    · obtain ⟨k, hk, rfl⟩ := isRg_nat (n := 9999) (by decide) hb
      obtain ⟨qc, ec, hc1, hc2⟩ := c_cover (p := a) h.2.2.2.1 ok.2.2.1 hk hN
      refine kI_scr h ok (v := qc.1) ?_ (fun P1 h1 h0 => ?_)
      · skip
        unfold f_153
        rw [cP_yes h ha]
        rw [cb_yes hb]
        exact c_b2 (TT_eq ec ⟨rfl, hc2⟩)
      · skip
        rw [rP_yes h1 ok ha]
        unfold f_39_19
        rw [r_goon h0]
        rw [rr_yes hb]
        unfold f_39_44
        rw [r_goon h0]
        exact TT_bind (r_sums (p := a) h1.2.2.2.1 ok.2.2.1 hN) (fun P2 h2 => (r_cover h1.2.2.2.1.r.1 ok.2.2.1 h2.1 hk hN).mono (fun q hq => ⟨LF_one hq.1 hc1, by rw [hq.2]; exact h2.2⟩))
    · refine kI_bad (E := 1) (a := 2) (x := 1) h ok ?_ (fun P1 => rfl) (by decide) (by decide) (by decide) (fun P1 h1 h0 => ?_)
      · unfold f_153
        rw [cP_yes h ha]
        rw [cb_no hb]
      · rw [rP_yes h1 ok ha]
        unfold f_39_19
        rw [r_goon h0]
        rw [rr_no hb]
        unfold f_39_44
        exact r_stop (a := 2) (x := 1) h1 ok h0 (by decide) (by decide) (by decide)
  · refine kI_bad (E := 0) (a := 1) (x := 0) h ok ?_ (fun P1 => rfl) (by decide) (by decide) (by decide) (fun P1 h1 h0 => ?_)
    · unfold f_153
      rw [cP_no h ha]
    · rw [rP_no h1 ok ha]
      unfold f_39_19
      exact r_stop (a := 1) (x := 0) h1 ok h0 (by decide) (by decide) (by decide)
theorem k_lacking (h : CREL g P) (ok : GOK g) (a b : Int32) (hN : 70000 ≤ N) : CallI g P (f_74_1 N a b P) (f_75 N a b) := by
  unfold f_74_1 f_75
  by_cases ha : isP g.W.pe a
  · by_cases hb : isRg (0) (9999) b
    · obtain ⟨k, hk, rfl⟩ := isRg_nat (n := 9999) (by decide) hb
      obtain ⟨qc, ec, ⟨m, hm, em⟩, hc2⟩ := c_lack (p := a) h.2.2.2.1 ok.2.2.1 hk hN
      refine kI_scr h ok (v := (iN k - iN m)) ?_ (fun P1 h1 h0 => ?_)
      · skip
        unfold f_183
        rw [cP_yes h ha]
        rw [cb_yes hb]
        exact TT_b2 (Q1 := fun q => q.1 = qc.1 ∧ q.2 = qc.2) (TT_eq ec ⟨rfl, rfl⟩) (fun v1 P2 hv => TT_some ⟨congrArg (fun x => (Sum.inl (iN k - x) : Int32 ⊕ Fin 3)) (hv.1.trans em), by rw [show P2 = qc.2 from hv.2]; exact hc2⟩)
      · skip
        rw [rP_yes h1 ok ha]
        unfold f_75_19
        rw [r_goon h0]
        rw [rr_yes hb]
        unfold f_75_44
        rw [r_goon h0]
        exact TT_bind (r_sums (p := a) h1.2.2.2.1 ok.2.2.1 hN) (fun P2 h2 => (r_lack h2.1 hk hN).mono (fun q hq => ⟨by obtain ⟨m2, hm2, e2⟩ := hq.1; rw [e2, MB_one hm2 hm], by rw [hq.2]; exact h2.2⟩))
    · refine kI_bad (E := 1) (a := 2) (x := 1) h ok ?_ (fun P1 => rfl) (by decide) (by decide) (by decide) (fun P1 h1 h0 => ?_)
      · unfold f_183
        rw [cP_yes h ha]
        rw [cb_no hb]
      · rw [rP_yes h1 ok ha]
        unfold f_75_19
        rw [r_goon h0]
        rw [rr_no hb]
        unfold f_75_44
        exact r_stop (a := 2) (x := 1) h1 ok h0 (by decide) (by decide) (by decide)
  · refine kI_bad (E := 0) (a := 1) (x := 0) h ok ?_ (fun P1 => rfl) (by decide) (by decide) (by decide) (fun P1 h1 h0 => ?_)
    · unfold f_183
      rw [cP_no h ha]
    · rw [rP_no h1 ok ha]
      unfold f_75_19
      exact r_stop (a := 1) (x := 0) h1 ok h0 (by decide) (by decide) (by decide)
theorem k_says (h : CREL g P) (ok : GOK g) (a : Int32) (hN : 70000 ≤ N) : CallI g P (f_48_1 N a P) (f_49 N a) := by
  unfold f_48_1 f_49
  by_cases ha : isP g.W.pe a
  · obtain ⟨k, hk, rfl⟩ := isP_nat (by have := ok.2.2.1.1.1; omega) ha
    refine kI_scr h ok (v := (sSaid g.W k)) ?_ (fun P1 h1 h0 => ?_)
    · skip
      unfold f_164
      rw [cP_yes h ha]
      exact TT_bind (c_meet h.2.2.2.1 ok.2.2.1 hN) (fun P2 h2 => TT_bind (Q1 := fun x => x = sSaid g.W k) (TT_eq (c_said h2.1 hk ok.2.2.1.1.1) rfl) (fun v3 hv => TT_some ⟨congrArg Sum.inl hv, h2.2⟩))
    · skip
      rw [rP_yes h1 ok ha]
      unfold f_49_19
      rw [r_goon h0]
      exact TT_bind (r_meet h1.2.2.2.1 ok.2.2.1 hN) (fun P2 h2 => TT_eq (r_says (h1.2.2.2.1.fr ok.2.2.1 h2.2) ok.2.2.1 h2.1 hk hN) ⟨rfl, h2.2⟩)
  · refine kI_bad (E := 0) (a := 1) (x := 0) h ok ?_ (fun P1 => rfl) (by decide) (by decide) (by decide) (fun P1 h1 h0 => ?_)
    · unfold f_164
      rw [cP_no h ha]
    · rw [rP_no h1 ok ha]
      unfold f_49_19
      exact r_stop (a := 1) (x := 0) h1 ok h0 (by decide) (by decide) (by decide)
theorem k_even (h : CREL g P) (ok : GOK g) (a : Int32) (hN : 70000 ≤ N) : CallI g P (f_42_1 N a P) (f_43 N a) := by
  unfold f_42_1 f_43
  by_cases ha : isRg 0 1 a
  · rcases rg01 ha with rfl | rfl
    · refine kI_scr h ok (v := iN (pc (uS g.W)) - iN (gU g.W)) ?_ (fun P1 h1 h0 => ?_)
      · skip
        unfold f_156
        rw [sw_yes ha]
        unfold f_156_15
        rw [c1_yes]
        refine TT_bind (c_settle h.2.2.2.1 ok.2.2.1 hN) (fun P2 h2 => ?_)
        rw [if_neg (by decide), c248 ok.2.2.1 h2.1, Option.bind_some, h2.1.2.1]
        exact TT_some ⟨rfl, h2.2⟩
      · skip
        rw [rr_yes ha]
        unfold f_43_20
        rw [r_goon h0]
        unfold f_43_30
        refine TT_bind (r_settle h1.2.2.2.1 ok.2.2.1 hN) (fun P2 h2 => ?_)
        rw [if_neg (by decide), h2.1.1, r_bits _ (uS_lt ok.2.2.1) hN, Option.bind_some, if_pos (iN_gi (uS_lt ok.2.2.1) (by decide)), iN_nat (by have := uS_lt ok.2.2.1; omega), r548 ok.2.2.1 h2.1]
        exact TT_some ⟨rfl, h2.2⟩
    · refine kI_scr h ok (v := iN (gU g.W)) ?_ (fun P1 h1 h0 => ?_)
      · skip
        unfold f_156
        rw [sw_yes ha]
        unfold f_156_15
        rw [c1_yes]
        refine TT_bind (c_settle h.2.2.2.1 ok.2.2.1 hN) (fun P2 h2 => ?_)
        rw [if_pos (by decide), h2.1.2.1]
        exact TT_some ⟨rfl, h2.2⟩
      · skip
        rw [rr_yes ha]
        unfold f_43_20
        rw [r_goon h0]
        unfold f_43_30
        refine TT_bind (r_settle h1.2.2.2.1 ok.2.2.1 hN) (fun P2 h2 => ?_)
        rw [if_pos (by decide), h2.1.1, if_pos (iN_gi (uS_lt ok.2.2.1) (by decide)), iN_nat (by have := uS_lt ok.2.2.1; omega), r548 ok.2.2.1 h2.1]
        exact TT_some ⟨rfl, h2.2⟩
  · refine kI_bad (E := 1) (a := 1) (x := 1) h ok ?_ (fun P1 => rfl) (by decide) (by decide) (by decide) (fun P1 h1 h0 => ?_)
    · unfold f_156
      rw [sw_no ha]
      unfold f_156_15
      exact c1_no
    · rw [rr_no ha]
      unfold f_43_20
      exact r_stop (a := 1) (x := 1) h1 ok h0 (by decide) (by decide) (by decide)
theorem k_aged (h : CREL g P) (ok : GOK g) (a : Int32) (hN : 70000 ≤ N) : CallL g P (f_80_1 N a P) (f_81 N a) := by
  unfold f_80_1 f_81
  by_cases ha : isRg (0) (9999) a
  · refine kL_scr h ok (v := (sAged g.W.L a)) ?_ (fun P1 h1 h0 => ?_)
    · skip
      unfold f_187
      rw [cb_yes ha]
      exact TT_bind (Q1 := fun x => x = sAged g.W.L a) (TT_eq (c_aged h.2.2.2.1.c a hN) rfl) (fun v3 hv => TT_some ⟨congrArg Sum.inl hv, fr.rf⟩)
    · skip
      rw [rr_yes ha]
      unfold f_81_22
      rw [r_goon h0]
      exact TT_eq (r_aged h1.2.2.2.1.r a hN) ⟨rfl, fr.rf⟩
  · refine kL_bad (E := 1) (a := 1) (x := 1) h ok ?_ (fun P1 => rfl) (by decide) (by decide) (by decide) (fun P1 h1 h0 => ?_)
    · unfold f_187
      rw [cb_no ha]
    · rw [rr_no ha]
      unfold f_81_22
      exact r_stop (a := 1) (x := 1) h1 ok h0 (by decide) (by decide) (by decide)
theorem k_errors (h : CREL g P) (ok : GOK g) (a b : Int32) (hN : 70000 ≤ N) : CallI g P (f_54_1 N a b P) (f_55 N a b) := by
  unfold f_54_1 f_55
  by_cases ha : isRg (0) (100) a
  · by_cases hb : isRg 0 1 b
    · rcases rg01 hb with rfl | rfl
      · refine kI_scr h ok (v := iN (nEr g.W a true)) ?_ (fun P1 h1 h0 => ?_)
        · skip
          unfold f_168
          rw [cc_yes ha]
          rw [sw_yes hb]
          unfold f_168_25
          rw [c1_yes]
          refine TT_bind (c_weights h.2.2.2.1 ok.2.2.1 hN) (fun P2 h2 => ?_)
          rw [d1_0, c_errs (h.2.2.2.1.fr h2.2).c h2.1 a true hN, Option.bind_some]
          exact TT_some ⟨rfl, h2.2⟩
        · skip
          rw [rr_yes ha]
          rw [rr_yes hb]
          unfold f_55_30
          rw [r_goon h0]
          exact r_b2 (r_errs h1.2.2.2.1 ok.2.2.1 a true hN)
      · refine kI_scr h ok (v := iN (nEr g.W a false)) ?_ (fun P1 h1 h0 => ?_)
        · skip
          unfold f_168
          rw [cc_yes ha]
          rw [sw_yes hb]
          unfold f_168_25
          rw [c1_yes]
          refine TT_bind (c_weights h.2.2.2.1 ok.2.2.1 hN) (fun P2 h2 => ?_)
          rw [d1_1, c_errs (h.2.2.2.1.fr h2.2).c h2.1 a false hN, Option.bind_some]
          exact TT_some ⟨rfl, h2.2⟩
        · skip
          rw [rr_yes ha]
          rw [rr_yes hb]
          unfold f_55_30
          rw [r_goon h0]
          exact r_b2 (r_errs h1.2.2.2.1 ok.2.2.1 a false hN)
    · refine kI_bad (E := 1) (a := 1) (x := 1) h ok ?_ (fun P1 => rfl) (by decide) (by decide) (by decide) (fun P1 h1 h0 => ?_)
      · unfold f_168
        rw [cc_yes ha]
        rw [sw_no hb]
        unfold f_168_25
        exact c1_no
      · rw [rr_yes ha]
        rw [rr_no hb]
        unfold f_55_30
        exact r_stop (a := 1) (x := 1) h1 ok h0 (by decide) (by decide) (by decide)
  · refine kI_bad (E := 1) (a := 1) (x := 1) h ok ?_ (fun P1 => rfl) (by decide) (by decide) (by decide) (fun P1 h1 h0 => ?_)
    · unfold f_168
      rw [cc_no ha]
      unfold f_168_25
      exact c1_no
    · rw [rr_no ha]
      unfold f_55_30
      exact r_stop (a := 1) (x := 1) h1 ok h0 (by decide) (by decide) (by decide)
theorem k_lies (h : CREL g P) (ok : GOK g) (a : Int32) (hK : 20 ≤ K) (hN : 70000 ≤ N) : CallL g P (f_50_1 K N a P) (f_51 N a) := by
  unfold f_50_1 f_51
  by_cases ha : isRg 0 1 a
  · by_cases hm : mS g.W.L ≤ 16
    · refine kL_scr h ok (v := (sLies g.W g.K a)) ?_ (fun P1 h1 h0 => ?_)
      · skip
        unfold f_165
        rw [sw_yes ha]
        unfold f_165_15
        rw [c1_yes]
        rw [c_standing h.2.2.2.1.c hN, Option.bind_some, s16_yes h.2.2.2.1.c.1 hm]
        unfold f_165_36
        rw [c2_yes]
        exact TT_bind (c_lies h.2.2.2.1 ok.2.2.1 h.2.2.2.2.2.1 ok.2.2.2.2 hm hK hN) (fun P2 h2 => TT_eq (c_liesEnd hm h2.1) ⟨rfl, h2.2⟩)
      · skip
        rw [rr_yes ha]
        unfold f_51_20
        rw [r_goon h0]
        rw [r_standing h1.2.2.2.1.r hN, Option.bind_some, s16_yes h1.2.2.2.1.r.1 hm]
        unfold f_51_47
        rw [r_goon h0]
        exact r_lies h1.2.2.2.1 ok.2.2.1 h1.2.2.2.2.2.1 ok.2.2.2.2 hm a hN
    · refine kL_bad (E := 2) (a := 2) (x := 2) h ok ?_ (fun P1 => rfl) (by decide) (by decide) (by decide) (fun P1 h1 h0 => ?_)
      · unfold f_165
        rw [sw_yes ha]
        unfold f_165_15
        rw [c1_yes]
        rw [c_standing h.2.2.2.1.c hN, Option.bind_some, s16_no h.2.2.2.1.c.1 hm]
        unfold f_165_36
        exact c2_no
      · rw [rr_yes ha]
        unfold f_51_20
        rw [r_goon h0]
        rw [r_standing h1.2.2.2.1.r hN, Option.bind_some, s16_no h1.2.2.2.1.r.1 hm]
        unfold f_51_47
        exact r_stop (a := 2) (x := 2) h1 ok h0 (by decide) (by decide) (by decide)
  · refine kL_bad (E := 1) (a := 1) (x := 1) h ok ?_ (fun P1 => rfl) (by decide) (by decide) (by decide) (fun P1 h1 h0 => ?_)
    · unfold f_165
      rw [sw_no ha]
      unfold f_165_15
      exact c1_no
    · rw [rr_no ha]
      unfold f_51_20
      exact r_stop (a := 1) (x := 1) h1 ok h0 (by decide) (by decide) (by decide)
end GR
