/-! calls: deeds, book -/
def gDeeds (g : GS) (D : DsT) : GS := (g.1, 0, -1, ((seqD g.W D.2 D.1).1, g.W.2), hPush g.H g.W.L, g.K, iN (D.1 - (seqD g.W D.2 D.1).2), g.rf)
def gBook (g : GS) (B : BK) : GS := (g.1, 0, -1, g.W, g.H, B, g.rd, g.rf)
theorem okH_push {pe : Nat} {H : HS} {L : LG} (h : okH pe H) (hn : H.1.1 < 20) (hL : WF pe L) : okH pe (hPush H L) := by
  obtain ⟨h1, h2, h3, h4⟩ := h
  refine ⟨by show H.1.1 + 1 ≤ 20; omega, h2, fun j hj => ?_, h4⟩
  have hj : j < H.1.1 + 1 := hj
  show WF pe (if j = H.1.1 then L else H.1.2 j)
  split
  · exact hL
  · exact h3 j (by omega)
theorem gDeeds_ok {g : GS} {D : DsT} (ok : GOK g) (hD : okDs g.W.pe D) (hn : g.H.1.1 < 20) : GOK (gDeeds g D) := ⟨ok.1, Nat.zero_le _, seqD_OK ok.2.2.1 (fun i hi => hD.2 i hi) D.1 (Nat.le_refl _), okH_push ok.2.2.2.1 hn ok.2.2.1.1, ok.2.2.2.2⟩
theorem gBook_ok {g : GS} {B : BK} (ok : GOK g) (hB : okB g.W.pe B) : GOK (gBook g B) := ⟨ok.1, Nat.zero_le _, ok.2.2.1, ok.2.2.2.1, hB⟩
theorem deedsS_ok {T : TX} {pe q : Nat} (e : (deedsS T pe).2 = .inl q) : okDs pe (deedsS T pe).1 := dsL_ok ds0_ok e
theorem bookS_ok {T : TX} {pe q : Nat} (e : (bookS T pe).2 = .inl q) : okB pe (bookS T pe).1 := bkL_ok bk0_ok e
section DB
variable {g g' : GS} {P : ab_P} {N K n : Nat} {v : Int32}
theorem c_deedDo {D : DsT} (h : CREL g P) (ok : GOK g) (hD : okDs g.W.pe D) (hn : g.H.1.1 < 20) (h11 : P.1 1 1 = 0) (h16 : P.1 1 6 = -1) (hC : CD D.1 D.2 P) (hN : 70000 ≤ N) : TT (Option.bind (f_215 43 P) fun P5 => ab_b2 (f_216 N P5) fun v7 P6 => (some (.inl v7, P6) : Option ((Int32 ⊕ Fin 3) × ab_P))) (fun q => q.1 = .inl (iN (seqD g.W D.2 D.1).2) ∧ CREL (gDeeds g D) q.2 ∧ frI sCC P q.2 ∧ rmC P q.2) := by
  obtain ⟨q1, q2, q3, q4, q5, q6, q7, q8⟩ := h
  obtain ⟨o1, o2, o3, o4, o5⟩ := ok
  refine TT_bind (c_push q5 o4 q4.c hn) (fun P1 h1 => ?_)
  obtain ⟨a1, a2, a3, a4⟩ := h1
  have e1 : ∀ b j, ¬ (571 ≤ b ∨ b = 65 ∨ b = 69 ∨ b = 70) → P1.1 b j = P.1 b j := fun b j hb => a3.1 b j (by unfold sH; exact hb)
  have w1 : CW g.W P1 := CW_keep q4 (fun b j hb => e1 b j (by unfold kpW at hb; omega))
  have d1 : CD D.1 D.2 P1 := hC.keep (fun b j hb => e1 b j (by omega))
  refine TT_b2 (c_perform w1 o3 hD.1 (fun i hi => hD.2 i hi) d1 hN) (fun v1 P2 hv => ?_)
  obtain ⟨b1, b2, b3, b4⟩ := hv
  dsimp only at b1 b2 b3 b4
  have e2 : ∀ b j, ¬ sPc b j → P2.1 b j = P1.1 b j := fun b j hb => b4.1 b j hb
  have e3 : ∀ b j, ¬ sPc b j → ¬ (571 ≤ b ∨ b = 65 ∨ b = 69 ∨ b = 70) → P2.1 b j = P.1 b j := fun b j h1 h2 => (e2 b j h1).trans (e1 b j h2)
  refine TT_some ⟨congrArg Sum.inl b1, ⟨?_, fun j hj => ?_, ?_, b2, a1.low b4.2.2 (fun b j hb => e2 b j (by unfold sPc sAc; omega)), q6.keep (fun b j hb => e3 b j (by unfold sPc sAc; omega) (by omega)), b3, fun j hj => ?_⟩, ?_, ?_⟩
  · exact (e3 1 1 (by unfold sPc sAc; omega) (by omega)).trans h11
  · rw [e3 2 j (by unfold sPc sAc; omega) (by omega)]
    exact q2 j hj
  · exact (e3 1 6 (by unfold sPc sAc; omega) (by omega)).trans h16
  · exact (e3 71 j (by unfold sPc sAc; omega) (by omega)).trans (q8 j hj)
  · exact (a3.mono (fun b j e => by unfold sH at e; unfold sCC; omega)).tr (b4.I2.mono (fun b j e => by unfold sPc sAc at e; unfold sCC; omega))
  · have r2 := rmG.tr a4 (rmG.of b4.2.2)
    exact rmC.gg r2 (by decide)
theorem c_deeds1 (h : CREL g P) (ok : GOK g) {a : Int32} (hb : ¬ isBad a 200 g.F) (hn : a = iN n) (hn6 : n ≤ 200) (hN : 70000 ≤ N) : TT (f_121 N a P) (fun r => (if g.H.1.1 < 20 then (match deedsS (g.B, n) g.W.pe with
    | (D, .inl _) => r.1 = .inl (iN (seqD g.W D.2 D.1).2) ∧ CREL (gDeeds g D) r.2
    | (_, .inr f) => r.1 = .inl (iN f.1 - 10) ∧ CREL (gFail g (iN f.2)) r.2) else r.1 = .inl (-20) ∧ CREL (gFail g (-1)) r.2) ∧ frI sCC P r.2 ∧ rmC P r.2) := by
  have okT : okT (g.B, n) := ⟨by show n ≤ 600; omega, ok.1⟩
  have h8 := ok.2.2.1.1.1
  have hH := ok.2.2.2.1.1
  unfold f_121
  rw [show f_198 a 200 P = _ from c_need h a 200, if_neg (show ¬ (a < 0 ∨ iN 200 < a ∨ iN g.F < a) from hb), x2_some, h.2.2.2.2.1.2.1]
  by_cases h20 : g.H.1.1 < 20
  · rw [if_pos (by rw [iN_ltl (by omega) (by decide)]; exact h20), hn]
    simp only [h20, ↓reduceIte]
    refine TT_bind (c_start h ok (by omega)) (fun P1 h1 => ?_)
    have hpe1 : P1.1 3 5 = iN g.W.pe := (h1.2.2.1 3 5 (by omega)).trans h.2.2.2.1.pe
    refine TT_bind (c_deedsR h1.1 okT hpe1 h8 hN) (fun P2 h2 => ?_)
    have hf : fr (fun b j => b = 1 ∨ (b = 52 ∧ j = 5) ∨ b = 53) P P2 := (h1.2.2.mono (fun b j e => Or.inl e)).tr (h2.2.mono (fun b j e => by unfold sDp sTp at e; omega))
    have e11 : P2.1 1 1 = 0 := (h2.2.1 1 1 (by unfold sDp sTp; omega)).trans h1.2.1
    have hk : ∀ b j, kCR b j → b ≠ 1 → P2.1 b j = P.1 b j := fun b j hb h1 => hf.1 b j (by
      have := kCR_sc hb
      unfold scC at this
      omega)
    have hc := h2.1.1
    have hT := h2.1.2
    have hl := fun (q : Nat) (e : (deedsS (g.B, n) g.W.pe).2 = .inl q) => deedsS_ok e
    rw [c_isF hc, Option.bind_some]
    cases hx : deedsS (g.B, n) g.W.pe with
    | mk D s =>
      rw [hx] at hc hT hl
      dsimp only at hc hT hl ⊢
      have hfC : fr sCC P P2 := hf.mono (fun b j e => by unfold sCC; omega)
      cases s with
      | inr f =>
        rw [if_neg (show ¬ bI (isF (.inr f)) = 0 from (by decide : ¬ bI true = 0))]
        exact TT_some ⟨⟨by rw [hc.2.1], h.text hf.2.2 hk e11 hc.2.2.2.2⟩, hfC.I2, rmC.of hfC.2.2⟩
      | inl q =>
        rw [if_pos (show bI (isF (.inl q)) = 0 from rfl)]
        have hk1 := h.text (F' := 0) (pl' := -1) hf.2.2 hk e11 hc.2.2.1
        refine (c_deedDo hk1 (gFail_ok (p := -1) ok) (hl q rfl) h20 e11 hc.2.2.1 (hT q rfl) hN).mono (fun r hr => ⟨⟨hr.1, hr.2.1⟩, hfC.I2.tr hr.2.2.1, ?_⟩)
        have := hr.2.2.2
        unfold rmC ccP ssP at this ⊢
        rw [hfC.2.2] at this
        exact this
  · rw [if_neg (by rw [iN_ltl (by omega) (by decide)]; exact h20)]
    simp only [h20, ↓reduceIte]
    refine TT_bind (c_start (n := 0) h ok (by decide)) (fun P1 h1 => ?_)
    have hfC : fr sCC P P1 := h1.2.2.mono (fun b j e => by unfold sCC; omega)
    exact TT_some ⟨⟨rfl, h.text (F' := 0) (pl' := -1) h1.2.2.2.2 (fun b j hb h9 => h1.2.2.1 b j h9) h1.2.1 h1.1.2.2.1⟩, hfC.I2, rmC.of hfC.2.2⟩
theorem RHI_push {H : HS} {L : LG} {P' : ab_P} {pe : Nat} (h : RHI H P) (ok : okH pe H) (hn : H.1.1 < 20) (e30 : P'.1 72 30 = iN (H.1.1 + 1)) (er : RLf (P'.1 (480 + H.1.1)) L) (e : ∀ b j, (b = 72 ∧ j = 32) ∨ (480 ≤ b ∧ b < 504 ∧ b ≠ 480 + H.1.1) → P'.1 b j = P.1 b j) : RHI (hPush H L) P' := by
  obtain ⟨h1, h2, h3, h4⟩ := h
  obtain ⟨o1, o2, o3, o4⟩ := ok
  refine ⟨e30, (e 72 32 (Or.inl ⟨rfl, rfl⟩)).trans h2, fun j hj => ?_, fun m hm => ?_⟩
  · have hj : j < H.1.1 + 1 := hj
    show RLf (P'.1 (480 + j)) (if j = H.1.1 then L else H.1.2 j)
    by_cases ej : j = H.1.1
    · rw [if_pos ej, ej]
      exact er
    · rw [if_neg ej]
      exact RLf_ext (h3 j (by omega)) (fun i _ => e _ i (by omega))
  · have hm : m < H.2.1 := hm
    obtain ⟨a1, a2, a3, a4⟩ := h4 m hm
    have z : ∀ j, P'.1 (501 + m) j = P.1 (501 + m) j := fun j => e _ j (by omega)
    exact ⟨(z 0).trans a1, (z 1).trans a2, RLf_ext a3 (fun i _ => z _), fun r hr => RLf_ext (a4 r hr) (fun i _ => z _)⟩
def endD (g : GS) (D : DsT) (s : RS) (r : Int32 × ab_P) : Prop := match s with
  | .inl _ => r.1 = iN (seqD g.W D.2 D.1).2 ∧ RREL (gDeeds g D) r.2
  | .inr f => r.1 = iN f.1 - 10 ∧ RREL (gFail g (iN f.2)) r.2
theorem r_deedDo {D : DsT} {x2 : Int32} (h : RREL g P) (ok : GOK g) (h0 : P.1 72 0 = 0) {P3 : ab_P} (hf : fr (fun b j => (b = 72 ∧ (j = 1 ∨ j = 2 ∨ j = 4 ∨ j = 5 ∨ j = 6 ∨ j = 7 ∨ j = 8)) ∨ (445 ≤ b ∧ b < 475)) P P3) (e1 : P3.1 72 1 = 0) (hn : g.H.1.1 < 20) {s : RS} {T : TX} (g3 : RDsT T (D, s) P3) (hx2 : ∀ q, s = .inl q → x2 = iN D.1) (hD : ∀ q, s = .inl q → okDs g.W.pe D) (hN : 70000 ≤ N) : TT (f_11_102 N x2 P3) (fun r => endD g D s r ∧ r.2.1 72 0 = 0 ∧ fr sRR P r.2) := by
  have e0 : P3.1 72 0 = 0 := (hf.1 72 0 (by omega)).trans h0
  have hk : ∀ b j, kRR b j → ¬ (b = 72 ∧ (j = 1 ∨ j = 3)) → P3.1 b j = P.1 b j := fun b j hb h1 => hf.1 b j (by
    have := kRR_sc hb
    unfold scR at this
    omega)
  have fR : fr sRR P P3 := hf.mono (fun b j e => by unfold sRR; omega)
  unfold f_11_102 f_117
  cases s with
  | inr f =>
    rw [if_neg (RR.no (f := f) g3.1)]
    refine TT_b2 (Q1 := fun q => q.1 = iN f.1 - 10 ∧ q.2 = ab_pI P3 72 3 (iN f.2)) (TT_lt (TT_some ⟨?_, ?_⟩)) (fun v P4 hv => ?_)
    · show (ab_pI P3 72 3 (P3.1 72 6)).1 72 5 - 10 = _
      rw [pI_nj (by decide), g3.1.2.1]
    · show ab_pI P3 72 3 (P3.1 72 6) = _
      rw [g3.1.2.2.2.2.1]
    · obtain ⟨v1, v2⟩ := hv
      dsimp only at v1 v2
      subst v2
      exact TT_some ⟨⟨v1, h.text ok (fun b j hb h9 => by rw [pI_at, if_neg (by omega)]; exact hk b j hb h9) (by rw [pI_nj (by decide)]; exact e1) pI_eq⟩, by rw [pI_nj (by decide)]; exact e0, fR.tr (fr.I (by unfold sRR; omega))⟩
  | inl q =>
    have hD := hD q rfl
    rw [if_pos (RR.ok (q := q) g3.1), hx2 q rfl]
    unfold f_11_114
    refine TT_lt ?_
    obtain ⟨z1, z2, z3, z4, z5, z6, z7, z8⟩ := h
    obtain ⟨o1, o2, o3, o4, o5⟩ := ok
    have e30 : (ab_pI P3 72 3 (-1)).1 72 30 = iN g.H.1.1 := by
      rw [pI_nj (by decide), hf.1 72 30 (by omega)]
      exact z5.1
    rw [e30, if_pos (iN_gi hn (by decide)), iN_nat (by omega)]
    refine TT_bind (r_copy (i := 477) (i2 := 479 + 1 + g.H.1.1) (by omega) hN) (fun P4 h4 => ?_)
    obtain ⟨a1, a2⟩ := h4
    refine TT_lt ?_
    have e304 : P4.1 72 30 = iN g.H.1.1 := (a2.1 72 30 (by unfold sE; omega)).trans e30
    rw [e304, show iN g.H.1.1 + (1 : Int32) = iN (g.H.1.1 + 1) from iN_succ _]
    have hX : ∀ b j, ¬ (b = 72 ∧ (j = 3 ∨ j = 30)) → b ≠ 480 + g.H.1.1 → (ab_pI P4 72 30 (iN (g.H.1.1 + 1))).1 b j = P3.1 b j := fun b j h1 h2 => by
      rw [pI_at, if_neg (by omega), a2.1 b j (by unfold sE; omega), pI_at, if_neg (by omega)]
    have xr : ∀ j, j < 366 → (ab_pI P4 72 30 (iN (g.H.1.1 + 1))).1 (480 + g.H.1.1) j = P.1 477 j := fun j hj => by
      rw [pI_ne (by omega), show 480 + g.H.1.1 = 479 + 1 + g.H.1.1 by omega, a1 j hj, pI_ne (by decide)]
      exact hf.1 477 j (by omega)
    have x30 : (ab_pI P4 72 30 (iN (g.H.1.1 + 1))).1 72 30 = iN (g.H.1.1 + 1) := pI_eq
    have x3 : (ab_pI P4 72 30 (iN (g.H.1.1 + 1))).1 72 3 = -1 := by rw [pI_nj (by decide), a2.1 72 3 (by unfold sE; omega), pI_eq]
    have fX : fr sRR P3 (ab_pI P4 72 30 (iN (g.H.1.1 + 1))) := ((fr.I (by unfold sRR; omega)).tr (a2.mono (fun b j e => by unfold sE at e; unfold sRR; omega))).tr (fr.I (by unfold sRR; omega))
    generalize ab_pI P4 72 30 (iN (g.H.1.1 + 1)) = X at hX xr x30 x3 fX ⊢
    have hXP : ∀ b j, kRR b j → ¬ (b = 72 ∧ (j = 1 ∨ j = 3 ∨ j = 30)) → b ≠ 480 + g.H.1.1 → X.1 b j = P.1 b j := fun b j h1 h2 h3 => (hX b j (by omega) h3).trans (hk b j h1 (by omega))
    have wX : RW g.W X := RW_keep z4 o3.2.1 (fun b j hb => hXP b j (kq_RR hb) (by unfold kqW at hb; omega) (by unfold kqW at hb; omega))
    have hdX : RDs D.1 D.2 X := RDs.keep (m := D.1) (ds := D.2) (g3.2 q rfl) (fun b j hb => hX b j (by have := hD.1; omega) (by have := hD.1; omega))
    refine (r_perform wX o3 hD.1 (fun i hi => hD.2 i hi) hdX hN).mono (fun r hr => ?_)
    obtain ⟨r1, r2, r3, r4⟩ := hr
    have hY : ∀ b j, ¬ (sAr b j ∨ (b = 72 ∧ j = 31)) → r.2.1 b j = X.1 b j := fun b j h1 => r4.1 b j h1
    have hZ : ∀ b j, kRR b j → ¬ (b = 72 ∧ (j = 1 ∨ j = 3 ∨ j = 30 ∨ j = 31)) → b ≠ 480 + g.H.1.1 → b ≠ 477 → r.2.1 b j = P.1 b j := fun b j h1 h2 h3 h4 => (hY b j (by
      unfold kRR at h1
      unfold sAr
      omega)).trans (hXP b j h1 (by omega) h3)
    refine ⟨⟨r1, ⟨?_, fun j hj => ?_, ?_, r2, ?_, z6.keep o5.1 (fun b j hb => hZ b j (by unfold kRR; rcases hb with ⟨rfl, rfl⟩ | hb <;> omega) (by omega) (by have := o4.1; omega) (by omega)), r3, fun j hj => ?_⟩⟩, ?_, (fR.tr fX).tr (r4.mono (fun b j e => by unfold sAr at e; unfold sRR; omega))⟩
    · exact ((hY 72 1 (by unfold sAr; omega)).trans (hX 72 1 (by omega) (by omega))).trans e1
    · exact (hZ 73 j (by unfold kRR; omega) (by omega) (by omega) (by omega)).trans (z2 j hj)
    · exact (hY 72 3 (by unfold sAr; omega)).trans x3
    · refine RHI_push z5 o4 hn ((hY 72 30 (by unfold sAr; omega)).trans x30) ?_ (fun b j hb => hZ b j (by unfold kRR; rcases hb with ⟨rfl, rfl⟩ | hb <;> omega) (by omega) (by omega) (by omega))
      exact RLf_ext (show RLf (P.1 477) g.W.L from z4.r) (fun j hj => (hY _ j (by unfold sAr; omega)).trans (xr j hj))
    · exact (hZ 74 j (by unfold kRR; omega) (by omega) (by omega) (by omega)).trans (z8 j hj)
    · exact ((hY 72 0 (by unfold sAr; omega)).trans (hX 72 0 (by omega) (by omega))).trans e0
theorem r_deeds1 (h : RREL g P) (ok : GOK g) (h0 : P.1 72 0 = 0) {a : Int32} (hn : a = iN n) (hn6 : n ≤ 200) (hN : 70000 ≤ N) : TT (f_11_40 N a P) (fun r => (if g.H.1.1 < 20 then (match deedsS (g.B, n) g.W.pe with
    | (D, .inl _) => r.1 = iN (seqD g.W D.2 D.1).2 ∧ RREL (gDeeds g D) r.2
    | (_, .inr f) => r.1 = iN f.1 - 10 ∧ RREL (gFail g (iN f.2)) r.2) else r.1 = -20 ∧ RREL (gFail g (-1)) r.2) ∧ r.2.1 72 0 = 0 ∧ fr sRR P r.2) := by
  have okT : okT (g.B, n) := ⟨by show n ≤ 600; omega, ok.1⟩
  have h8 := ok.2.2.1.1.1
  have hH := ok.2.2.2.1.1
  unfold f_11_40
  rw [h.2.2.2.2.1.1]
  by_cases h20 : g.H.1.1 < 20
  · rw [if_neg (show ¬ iN g.H.1.1 = (20 : Int32) by rw [show (20 : Int32) = iN 20 from rfl, iN_eq (by omega) (by decide)]; omega), hn]
    simp only [h20, ↓reduceIte]
    refine TT_bind (r_start h ok (by omega) hN) (fun P1 h1 => ?_)
    obtain ⟨s1, s2, s3, s4, s5, s6⟩ := h1
    have hpe1 : P1.1 76 0 = iN g.W.pe := (s6.1 76 0 (by omega)).trans h.2.2.2.1.pe
    refine r_deedsL (pe := g.W.pe) okT h8 hN 32 0 ds0 (.inl (sk (g.B, n) 0)) P1 N (by decide) (by omega) (fun q e => by cases e; exact ⟨rfl, by decide, s2⟩) ⟨s1, fun q e i hi => absurd hi (Nat.not_lt_zero i)⟩ hpe1 (fun q e => ds0_ok) (fun P3 x2 h3 hx2 h4 => ?_)
    have hl := fun (q : Nat) (e : (deedsS (g.B, n) g.W.pe).2 = .inl q) => deedsS_ok e
    rw [show dsL (g.B, n) g.W.pe 32 ds0 (.inl (sk (g.B, n) 0)) = deedsS (g.B, n) g.W.pe from rfl] at h3 hx2
    have hf : fr (fun b j => (b = 72 ∧ (j = 1 ∨ j = 2 ∨ j = 4 ∨ j = 5 ∨ j = 6 ∨ j = 7 ∨ j = 8)) ∨ (445 ≤ b ∧ b < 475)) P P3 := (s6.mono (fun b j e => Or.inl e)).tr (h4.mono (fun b j e => by unfold sDr sTr at e; omega))
    have e1 : P3.1 72 1 = 0 := (h4.1 72 1 (by unfold sDr sTr; omega)).trans s3
    cases hx : deedsS (g.B, n) g.W.pe with
    | mk D s =>
      rw [hx] at h3 hx2 hl
      have := r_deedDo (x2 := x2) h ok h0 hf e1 h20 h3 hx2 hl hN
      cases s with
      | inl q => exact this
      | inr f => exact this
  · rw [if_pos (show iN g.H.1.1 = (20 : Int32) by rw [show g.H.1.1 = 20 by omega]; rfl)]
    simp only [h20, ↓reduceIte]
    refine TT_lt (TT_lt (TT_some ⟨⟨rfl, h.text ok (fun b j hb h9 => by rw [pI_at, if_neg (by omega), pI_at, if_neg (by omega)]) (by rw [pI_nj (by decide), pI_eq]; rfl) pI_eq⟩, by rw [pI_nj (by decide), pI_nj (by decide)]; exact h0, (fr.I (by unfold sRR; omega)).tr (fr.I (by unfold sRR; omega))⟩))
theorem k_deeds (h : CREL g P) (ok : GOK g) (a : Int32) (hN : 70000 ≤ N) : CallI g P (f_10_1 N a P) (f_11 N a) := by
  unfold CallI f_10_1 f_11
  by_cases hb : isBad a 200 g.F
  · refine ⟨1, 0, gRf g 1, by decide, gRf_ok ok, h2_thr (E := 1) (c_badT (m := 200) h hb rfl) (fun P1 => rfl) (by decide), fun P1 h1 => ?_⟩
    obtain ⟨t1, t2, t3⟩ := r_t0 h1 ok
    refine TT_lt ?_
    rw [r_need t1, Option.bind_some]
    have fin : TT (f_11_30 N a 1 (ab_pI P1 72 0 0)) (RA (gRf g 1) P1 1 0) := by
      unfold f_11_30
      refine TT_b2 (r_badT (a := 1) (x := 1) (by decide) (by decide) (by decide) t1 ok t2) (fun v1 P2 hv => ?_)
      obtain ⟨b1, b2, b3, b4⟩ := hv
      dsimp only at b1 b2 b3 b4
      rw [b1, if_neg (by decide)]
      exact TT_some ⟨fun e => absurd e (by decide), b2, b3, t3.tr b4⟩
    by_cases h2 : a < 0 ∨ iN g.F < a
    · rw [if_pos (bI_nd h2)]
      exact fin
    · have h3 : iN 200 < a := by
        rcases (bad_lt a).mp hb with e | e
        · exact absurd e h2
        · exact e
      rw [if_neg (bI_nn h2), if_pos (show (200 : Int32) < a from h3)]
      exact fin
  · obtain ⟨n, hn6, hnF, hn⟩ := need_of ok.2.1 (by decide) hb
    have hc := c_deeds1 h ok hb hn hn6 hN
    have hr : ∀ P1, RREL g P1 → TT (ab_lt (ab_pI P1 72 0 (0 : Int32)) fun P1 => Option.bind (f_112 P1 a (0 : Int32) (P1.1 72 1)) fun v2 => if v2 = (0 : Int32) then f_11_30 N a (1 : Int32) P1 else if (200 : Int32) < a then f_11_30 N a (1 : Int32) P1 else f_11_30 N a (0 : Int32) P1) (fun r => (if g.H.1.1 < 20 then (match deedsS (g.B, n) g.W.pe with
        | (D, .inl _) => r.1 = iN (seqD g.W D.2 D.1).2 ∧ RREL (gDeeds g D) r.2
        | (_, .inr f) => r.1 = iN f.1 - 10 ∧ RREL (gFail g (iN f.2)) r.2) else r.1 = -20 ∧ RREL (gFail g (-1)) r.2) ∧ r.2.1 72 0 = 0 ∧ fr sRR P1 r.2) := fun P1 h1 => by
      obtain ⟨t1, t2, t3⟩ := r_t0 h1 ok
      refine TT_lt ?_
      rw [r_need t1, Option.bind_some, if_neg (bI_nn (fun e => hb ((bad_lt a).mpr (Or.inl e)))), if_neg (show ¬ (200 : Int32) < a from fun e => hb ((bad_lt a).mpr (Or.inr e)))]
      unfold f_11_30
      rw [r_bad0 _ _ _ t2, b2_some, if_pos rfl]
      exact (r_deeds1 t1 ok t2 hn hn6 hN).mono (fun r hr => ⟨hr.1, hr.2.1, t3.tr hr.2.2⟩)
    by_cases h20 : g.H.1.1 < 20
    · simp only [h20, ↓reduceIte] at hc hr
      have hl := fun (q : Nat) (e : (deedsS (g.B, n) g.W.pe).2 = .inl q) => deedsS_ok e
      cases hx : deedsS (g.B, n) g.W.pe with
      | mk D s =>
        rw [hx] at hc hr hl
        cases s with
        | inl q => exact ⟨0, _, gDeeds g D, by decide, gDeeds_ok ok (hl q rfl) h20, h2_put (hc.mono (fun r hr => ⟨hr.1.1, hr.1.2, hr.2.1, hr.2.2⟩)), fun P1 h1 => (hr P1 h1).mono (fun r hr => ⟨fun _ => congrArg Int32.toInt64 hr.1.1, hr.2.1, hr.1.2, hr.2.2⟩)⟩
        | inr f => exact ⟨0, _, gFail g (iN f.2), by decide, gFail_ok ok, h2_put (hc.mono (fun r hr => ⟨hr.1.1, hr.1.2, hr.2.1, hr.2.2⟩)), fun P1 h1 => (hr P1 h1).mono (fun r hr => ⟨fun _ => congrArg Int32.toInt64 hr.1.1, hr.2.1, hr.1.2, hr.2.2⟩)⟩
    · simp only [h20, ↓reduceIte] at hc hr
      exact ⟨0, _, gFail g (-1), by decide, gFail_ok ok, h2_put (hc.mono (fun r hr => ⟨hr.1.1, hr.1.2, hr.2.1, hr.2.2⟩)), fun P1 h1 => (hr P1 h1).mono (fun r hr => ⟨fun _ => congrArg Int32.toInt64 hr.1.1, hr.2.1, hr.1.2, hr.2.2⟩)⟩
end DB
