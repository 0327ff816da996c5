/-! calls: what turns back, what is kept; plain answers -/
def setW (W : WO) (L : LG) (b : Int32) : WO := (L, W.2.1, W.2.2.1, W.2.2.2.1, W.2.2.2.2.1, b)
def gSet (g : GS) (L : LG) (b : Int32) (H : HS) (r : Int32) : GS := (g.1, g.2.1, g.2.2.1, setW g.W L b, H, g.K, r, g.rf)
theorem gSet_ok {g : GS} {L : LG} {b : Int32} {H : HS} {r : Int32} (ok : GOK g) (hL : WF g.W.pe L) (hH : okH g.W.pe H) : GOK (gSet g L b H r) := ⟨ok.1, ok.2.1, ⟨hL, ok.2.2.1.2⟩, hH, ok.2.2.2.2⟩
theorem hPop_ok {pe : Nat} {H : HS} (h : okH pe H) : okH pe (hPop H) := ⟨by have := h.1; show H.1.1 - 1 ≤ 20; omega, h.2.1, fun j hj => h.2.2.1 j (by have : j < H.1.1 - 1 := hj; omega), h.2.2.2⟩
theorem hBack_ok {pe : Nat} {H : HS} (h : okH pe H) (h0 : 0 < H.2.1) : okH pe (hBack H) := ⟨(h.2.2.2 (H.2.1 - 1) (by omega)).1, by have := h.2.1; show H.2.1 - 1 ≤ 3; omega, fun j hj => (h.2.2.2 (H.2.1 - 1) (by omega)).2.2 j hj, fun m hm => h.2.2.2 m (by have : m < H.2.1 - 1 := hm; omega)⟩
theorem hImage_ok {pe : Nat} {H : HS} {b : Int32} {L : LG} (h : okH pe H) (hL : WF pe L) (h3 : H.2.1 < 3) : okH pe (hImage H b L) := by
  refine ⟨h.1, by show H.2.1 + 1 ≤ 3; omega, h.2.2.1, fun m hm => ?_⟩
  have hm : m < H.2.1 + 1 := hm
  show (if m = H.2.1 then (b, H.1.1, L, H.1.2) else H.2.2 m).2.1 ≤ 20 ∧ WF pe (if m = H.2.1 then (b, H.1.1, L, H.1.2) else H.2.2 m).2.2.1 ∧ ∀ j, j < (if m = H.2.1 then (b, H.1.1, L, H.1.2) else H.2.2 m).2.1 → WF pe ((if m = H.2.1 then (b, H.1.1, L, H.1.2) else H.2.2 m).2.2.2 j)
  by_cases e : m = H.2.1
  · rw [if_pos e]
    exact ⟨h.1, hL, h.2.2.1⟩
  · rw [if_neg e]
    exact h.2.2.2 m (by omega)
section GT3
variable {g g' : GS} {P P' : ab_P} {N K n : Nat} {L : LG} {bi r : Int32} {H : HS}
theorem CREL.set (h : CREL g P) (hl : CL 43 L P') (hb : P'.1 46 5 = bi) (hH : CHI H P') (hr : P'.1 52 6 = r) (e : ∀ b j, (b = 1 ∧ (j = 1 ∨ j = 6)) ∨ b = 2 ∨ (b = 3 ∧ (j = 5 ∨ j = 7)) ∨ b = 4 ∨ (b = 15 ∧ j = 1) ∨ b = 16 ∨ (b = 21 ∧ j = 2) ∨ b = 22 ∨ b = 23 ∨ b = 71 → P'.1 b j = P.1 b j) : CREL (gSet g L bi H r) P' := by
  obtain ⟨h1, h2, h3, ⟨w1, w2, w3, w4, w5, w6⟩, h5, h6, h7, h8⟩ := h
  exact ⟨(e 1 1 (by omega)).trans h1, fun j hj => (by rw [e 2 j (by omega)]; exact h2 j hj : P'.1 2 j &&& (255 : Int32) = iN (g.B j)), (e 1 6 (by omega)).trans h3, ⟨hl, ⟨w2.1, (e 15 1 (by omega)).trans w2.2.1, fun k hk => (e 16 k (by omega)).trans (w2.2.2 k hk)⟩, fun p hp => (e 4 p (by omega)).trans (w3 p hp), (e 3 5 (by omega)).trans w4, (e 3 7 (by omega)).trans w5, hb⟩, hH, h6.keep (fun b j hb => e b j (by omega)), hr, fun j hj => (e 71 j (by omega)).trans (h8 j hj)⟩
theorem RREL.set (h : RREL g P) (ok : GOK g) (hl : RL 477 L P') (hb : P'.1 76 3 = bi) (hH : RHI H P') (hr : P'.1 72 31 = r) (e : ∀ b j, (b = 72 ∧ (j = 1 ∨ j = 3 ∨ j = 16 ∨ j = 29)) ∨ b = 73 ∨ b = 74 ∨ (105 ≤ b ∧ b ≤ 254) ∨ (b = 76 ∧ (j = 0 ∨ j = 2)) ∨ b = 78 ∨ (427 ≤ b ∧ b < 435) → P'.1 b j = P.1 b j) : RREL (gSet g L bi H r) P' := by
  obtain ⟨h1, h2, h3, ⟨w1, w2, w3, w4, w5, w6⟩, h5, h6, h7, h8⟩ := h
  obtain ⟨o1, o2, o3, o4, o5⟩ := ok
  exact ⟨(e 72 1 (by omega)).trans h1, fun j hj => (e 73 j (by omega)).trans (h2 j hj), (e 72 3 (by omega)).trans h3, ⟨hl, RLaw_keep w2 o3.2.1 (fun b j hb => e b j (by omega)), fun p hp => (e 78 p (by omega)).trans (w3 p hp), (e 76 0 (by omega)).trans w4, (e 76 2 (by omega)).trans w5, hb⟩, hH, h6.keep o5.1 (fun b j hb => e b j (by omega)), hr, fun j hj => (e 74 j (by omega)).trans (h8 j hj)⟩
theorem RHI_pop (h : RHI H P) (ok : okH n H) (e30 : P'.1 72 30 = iN (H.1.1 - 1)) (e : ∀ b j, (b = 72 ∧ j = 32) ∨ (480 ≤ b ∧ b < 504) → P'.1 b j = P.1 b j) : RHI (hPop H) P' := by
  obtain ⟨h1, h2, h3, h4⟩ := h
  obtain ⟨o1, o2, o3, o4⟩ := ok
  refine ⟨e30, (e 72 32 (by omega)).trans h2, fun j hj => ?_, fun m hm => ?_⟩
  · have hj : j < H.1.1 - 1 := hj
    exact RLf_ext (h3 j (by omega)) (fun i _ => e _ i (by omega))
  · have hm : m < H.2.1 := hm
    obtain ⟨a1, a2, a3, a4⟩ := h4 m hm
    have z : ∀ j, P'.1 (501 + m) j = P.1 (501 + m) j := fun j => e _ j (by omega)
    exact ⟨(z 0).trans a1, (z 1).trans a2, RLf_ext a3 (fun i _ => z _), fun r hr => RLf_ext (a4 r hr) (fun i _ => z _)⟩
theorem i_nz {k : Nat} (hk : k < 2147483648) (h0 : ¬ k = 0) : ¬ iN k = 0 := by
  rw [show (0 : Int32) = iN 0 from rfl, iN_eq hk (by decide)]
  exact h0
theorem k_undo (h : CREL g P) (ok : GOK g) (hN : 70000 ≤ N) : CallD g P (f_16 P) (f_17 N) := by
  have o4 := ok.2.2.2.1
  have o20 := o4.1
  have hc := h.2.2.2.2.1
  unfold CallD f_16 f_17
  rw [hc.2.1]
  by_cases h0 : g.H.1.1 = 0
  · refine ⟨-1, g, ok, ?_, fun P1 h1 => ?_⟩
    · rw [if_pos (by rw [h0]; rfl)]
      exact TT_some ⟨rfl, h, frI.rf, rmC.of rfl⟩
    · obtain ⟨t1, t2, t3⟩ := r_t0 h1 ok
      refine TT_lt ?_
      rw [t1.2.2.2.2.1.1, if_pos (by rw [h0]; rfl)]
      exact TT_some ⟨rfl, t1, t3⟩
  · refine ⟨iN (g.H.1.1 - 1), gSet g (g.H.1.2 (g.H.1.1 - 1)) g.W.bi (hPop g.H) 0, gSet_ok ok (o4.2.2.1 _ (by omega)) (hPop_ok o4), ?_, fun P1 h1 => ?_⟩
    · rw [if_neg (i_nz (by omega) h0)]
      refine TT_bind (c_pop hc o4 (by omega)) (fun P2 h2 => TT_lt (TT_some ?_))
      obtain ⟨a1, a2, a3⟩ := h2
      have e : ∀ b j, ¬ (sI 43 b j ∨ (b = 65 ∧ j = 1)) → b ≠ 52 → (ab_pI P2 52 6 0).1 b j = P.1 b j := fun b j h1 h2 => (pI_ne h2).trans (a3.1 b j h1)
      have c1 : CHI (hPop g.H) (ab_pI P2 52 6 0) := a1.low rfl (fun b j hb => pI_ne (by omega))
      refine ⟨c1.2.1, h.set (CL_keep a2 (pI_ne (by decide)) (pI_ne (by decide)) (fun j => pI_ne (by decide)) (fun j => pI_ne (by decide))) ((e 46 5 (by unfold sI; omega) (by decide)).trans h.2.2.2.1.bi) c1 pI_eq (fun b j hb => e b j (by unfold sI; omega) (by omega)), ?_, ?_⟩
      · exact (a3.I2.mono (fun b j hb => by unfold sI at hb; unfold sCC; omega)).tr (fr.I (by unfold sCC; omega)).I2
      · exact rmC.of a3.2.2
    · obtain ⟨t1, t2, t3⟩ := r_t0 h1 ok
      have hr := t1.2.2.2.2.1
      refine TT_lt ?_
      rw [hr.1, if_neg (i_nz (by omega) h0)]
      refine TT_lt ?_
      have e30 : (ab_pI (ab_pI P1 72 0 0) 72 30 (iN g.H.1.1 - 1)).1 72 30 = iN (g.H.1.1 - 1) := by
        rw [pI_eq]
        exact iN_sub (b := 1) (by omega)
      have hX : ∀ b j, ¬ (b = 72 ∧ j = 30) → (ab_pI (ab_pI P1 72 0 0) 72 30 (iN g.H.1.1 - 1)).1 b j = (ab_pI P1 72 0 0).1 b j := fun b j hb => by rw [pI_at, if_neg hb]
      have fX : fr sRR (ab_pI P1 72 0 0) (ab_pI (ab_pI P1 72 0 0) 72 30 (iN g.H.1.1 - 1)) := fr.I (by unfold sRR; omega)
      rw [e30, if_pos (iN_gi (by omega) (by decide)), iN_nat (by omega)]
      generalize ab_pI (ab_pI P1 72 0 0) 72 30 (iN g.H.1.1 - 1) = X at e30 hX fX ⊢
      refine TT_bind (r_copy (i := 479 + 1 + (g.H.1.1 - 1)) (i2 := 477) (by omega) hN) (fun P4 h4 => TT_lt (TT_some ?_))
      obtain ⟨a1, a2⟩ := h4
      have hZ : ∀ b j, b ≠ 477 → ¬ (b = 72 ∧ (j = 30 ∨ j = 31)) → (ab_pI P4 72 31 0).1 b j = (ab_pI P1 72 0 0).1 b j := fun b j h1 h2 => by
        rw [pI_at, if_neg (by omega), a2.1 b j (by unfold sE; omega)]
        exact hX b j (by omega)
      have z30 : (ab_pI P4 72 31 0).1 72 30 = iN (g.H.1.1 - 1) := by
        rw [pI_nj (by decide), a2.1 72 30 (by unfold sE; omega)]
        exact e30
      refine ⟨z30, t1.set ok ?_ ((hZ 76 3 (by decide) (by omega)).trans t1.2.2.2.1.bi) (RHI_pop hr o4 z30 (fun b j hb => hZ b j (by omega) (by omega))) pI_eq (fun b j hb => hZ b j (by omega) (by omega)), ?_⟩
      · exact (RLf_ext (hr.2.2.1 (g.H.1.1 - 1) (by omega)) (fun j hj => by
          rw [pI_ne (by decide), a1 j hj, show 479 + 1 + (g.H.1.1 - 1) = 480 + (g.H.1.1 - 1) by omega]
          exact hX _ j (by omega)) : RLf ((ab_pI P4 72 31 0).1 477) _)
      · exact ((t3.tr fX).tr (a2.mono (fun b j e => by unfold sE at e; unfold sRR; omega))).tr (fr.I (by unfold sRR; omega))
theorem k_image (h : CREL g P) (ok : GOK g) (hN : 70000 ≤ N) : CallD g P (f_88 N P) (f_89 N) := by
  have o4 := ok.2.2.2.1
  have o3 := o4.2.1
  have hc := h.2.2.2.2.1
  unfold CallD f_88 f_89
  rw [hc.2.2.1]
  by_cases h3 : g.H.2.1 < 3
  · refine ⟨iN (g.H.2.1 + 1), gSet g g.W.L g.W.bi (hImage g.H g.W.bi g.W.L) g.rd, gSet_ok ok ok.2.2.1.1 (hImage_ok o4 ok.2.2.1.1 h3), ?_, fun P1 h1 => ?_⟩
    · rw [if_pos (by rw [iN_ltl (by omega) (by decide)]; exact h3), h.2.2.2.1.bi]
      refine TT_bind (c_image hc o4 h.2.2.2.1.c g.W.bi h3 hN) (fun P2 h2 => TT_some ?_)
      obtain ⟨a1, a2, a3⟩ := h2
      have e : ∀ b j, ¬ sH b j → P2.1 b j = P.1 b j := a2.1
      exact ⟨a1.2.2.1, h.set (CL_keep h.2.2.2.1.c (e _ _ (by unfold sH; omega)) (e _ _ (by unfold sH; omega)) (fun j => e _ _ (by unfold sH; omega)) (fun j => e _ _ (by unfold sH; omega))) ((e 46 5 (by unfold sH; omega)).trans h.2.2.2.1.bi) a1 ((e 52 6 (by unfold sH; omega)).trans h.2.2.2.2.2.2.1) (fun b j hb => e b j (by unfold sH; omega)), a2.mono (fun b j hb => by unfold sH at hb; unfold sCC; omega), rmC.gg a3 (by decide)⟩
    · obtain ⟨t1, t2, t3⟩ := r_t0 h1 ok
      have hr := t1.2.2.2.2.1
      refine TT_lt ?_
      rw [hr.2.1, if_neg (by rw [show (3 : Int32) = iN 3 from rfl, iN_eq (by omega) (by decide)]; omega), if_pos (iN_gi h3 (by decide)), iN_nat (by omega)]
      refine TT_bind (r_image hr o4 t1.2.2.2.1.r t1.2.2.2.1.bi h3 hN) (fun P3 hq => ?_)
      obtain ⟨a1, a2⟩ := hq
      have e32 : P3.1 72 32 = iN g.H.2.1 := (a2.1 72 32 (by omega)).trans hr.2.1
      rw [e32, show iN g.H.2.1 + (1 : Int32) = iN (g.H.2.1 + 1) from iN_succ _]
      have hZ : ∀ b j, b ≠ 501 + g.H.2.1 → ¬ (b = 72 ∧ (j = 32 ∨ j = 33)) → (ab_pI P3 72 32 (iN (g.H.2.1 + 1))).1 b j = (ab_pI P1 72 0 0).1 b j := fun b j h1 h2 => by
        rw [pI_at, if_neg (by omega)]
        exact a2.1 b j (by omega)
      refine TT_lt (TT_some ⟨(pI_eq : (ab_pI P3 72 32 (iN (g.H.2.1 + 1))).1 72 32 = iN (g.H.2.1 + 1)), t1.set ok (RL_keep t1.2.2.2.1.r (fun j => hZ _ j (by omega) (by omega))) ((hZ 76 3 (by omega) (by omega)).trans t1.2.2.2.1.bi) a1 ((hZ 72 31 (by omega) (by omega)).trans t1.2.2.2.2.2.2.1) (fun b j hb => hZ b j (by omega) (by omega)), ?_⟩)
      exact (t3.tr (a2.mono (fun b j e => by unfold sRR; omega))).tr (fr.I (by unfold sRR; omega))
  · refine ⟨-1, g, ok, ?_, fun P1 h1 => ?_⟩
    · rw [if_neg (by rw [iN_ltl (by omega) (by decide)]; exact h3)]
      exact TT_some ⟨rfl, h, frI.rf, rmC.of rfl⟩
    · obtain ⟨t1, t2, t3⟩ := r_t0 h1 ok
      refine TT_lt ?_
      rw [t1.2.2.2.2.1.2.1, if_pos (by rw [show g.H.2.1 = 3 by omega]; rfl)]
      exact TT_some ⟨rfl, t1, t3⟩
theorem k_restore (h : CREL g P) (ok : GOK g) (hN : 70000 ≤ N) : CallD g P (f_90 N P) (f_91 N) := by
  have o4 := ok.2.2.2.1
  have o3 := o4.2.1
  have hc := h.2.2.2.2.1
  unfold CallD f_90 f_91
  rw [hc.2.2.1]
  by_cases h0 : g.H.2.1 = 0
  · refine ⟨-1, g, ok, ?_, fun P1 h1 => ?_⟩
    · rw [if_pos (by rw [h0]; rfl)]
      exact TT_some ⟨rfl, h, frI.rf, rmC.of rfl⟩
    · obtain ⟨t1, t2, t3⟩ := r_t0 h1 ok
      refine TT_lt ?_
      rw [t1.2.2.2.2.1.2.1, if_pos (by rw [h0]; rfl)]
      exact TT_some ⟨rfl, t1, t3⟩
  · refine ⟨iN (g.H.2.1 - 1), gSet g (g.H.2.2 (g.H.2.1 - 1)).2.2.1 (g.H.2.2 (g.H.2.1 - 1)).1 (hBack g.H) 0, gSet_ok ok (o4.2.2.2 (g.H.2.1 - 1) (by omega)).2.1 (hBack_ok o4 (by omega)), ?_, fun P1 h1 => ?_⟩
    · rw [if_neg (i_nz (by omega) h0)]
      refine TT_b2 (c_restore hc o4 (by omega) hN) (fun v2 P2 h2 => TT_lt (TT_lt (TT_some ?_)))
      obtain ⟨a0, a1, a2, a3, a4⟩ := h2
      dsimp only at a0 a1 a2 a3 a4
      have hk : ∀ b j, b ≠ 46 → b ≠ 52 → (ab_pI (ab_pI P2 46 5 v2) 52 6 0).1 b j = P2.1 b j := fun b j h1 h2 => (pI_ne h2).trans (pI_ne h1)
      have e : ∀ b j, ¬ sHI b j → b ≠ 46 → b ≠ 52 → (ab_pI (ab_pI P2 46 5 v2) 52 6 0).1 b j = P.1 b j := fun b j h1 h2 h3 => (hk b j h2 h3).trans (a3.1 b j h1)
      have c1 : CHI (hBack g.H) (ab_pI (ab_pI P2 46 5 v2) 52 6 0) := a1.low rfl (fun b j hb => hk b j (by omega) (by omega))
      refine ⟨c1.2.2.1, h.set (CL_keep a2 (hk _ _ (by decide) (by decide)) (hk _ _ (by decide) (by decide)) (fun j => hk _ _ (by decide) (by decide)) (fun j => hk _ _ (by decide) (by decide))) (by rw [pI_ne (by decide), pI_eq]; exact a0) c1 pI_eq (fun b j hb => e b j (by unfold sHI sI sH; omega) (by omega) (by omega)), ?_, ?_⟩
      · exact ((a3.mono (fun b j hb => by unfold sHI sI sH at hb; unfold sCC; omega)).tr (fr.I (by unfold sCC; omega)).I2).tr (fr.I (by unfold sCC; omega)).I2
      · exact rmC.gg (P' := P2) a4 (by decide)
    · obtain ⟨t1, t2, t3⟩ := r_t0 h1 ok
      have hr := t1.2.2.2.2.1
      refine TT_lt ?_
      rw [hr.2.1, if_neg (i_nz (by omega) h0), show iN g.H.2.1 - (1 : Int32) = iN (g.H.2.1 - 1) from iN_sub (b := 1) (by omega)]
      refine TT_lt ?_
      have e32 : (ab_pI (ab_pI P1 72 0 0) 72 32 (iN (g.H.2.1 - 1))).1 72 32 = iN (g.H.2.1 - 1) := pI_eq
      rw [e32, if_pos (iN_gi (by omega) (by decide)), iN_nat (by omega)]
      refine TT_bind (r_restore hr o4 (by omega) hN) (fun P4 h4 => TT_lt (TT_some ?_))
      obtain ⟨a1, a2, a3, a4⟩ := h4
      have hk : ∀ b j, ¬ (b = 72 ∧ j = 31) → (ab_pI P4 72 31 0).1 b j = P4.1 b j := fun b j h1 => by rw [pI_at, if_neg h1]
      have c1 : RHI (hBack g.H) (ab_pI P4 72 31 0) := RHI_keep a1 ⟨(hBack_ok o4 (by omega)).1, (hBack_ok o4 (by omega)).2.1⟩ (fun b j hb => hk b j (by omega))
      refine ⟨c1.2.1, t1.set ok (RL_keep a2 (fun j => hk _ j (by omega))) ((hk 76 3 (by omega)).trans a3) c1 pI_eq (fun b j hb => (hk b j (by omega)).trans (a4.1 b j (by omega))), ?_⟩
      exact (t3.tr (a4.mono (fun b j e => by unfold sRR; omega))).tr (fr.I (by unfold sRR; omega))
theorem k_bite (h : CREL g P) (ok : GOK g) (a : Int32) : CallI g P (f_58_1 a P) (f_59 a) := by
  unfold f_58_1 f_59
  by_cases ha : isRg 0 100 a
  · refine kI_ans (g' := gSet g g.W.L a g.H g.rd) (v := g.W.bi) ok (gSet_ok ok ok.2.2.1.1 ok.2.2.2.1) ?_ (fun P1 h1 h0 => ?_)
    · unfold f_171
      rw [cb_yes ha]
      have e : ∀ b j, b ≠ 46 → (ab_pI P 46 5 a).1 b j = P.1 b j := fun b j hb => pI_ne hb
      refine TT_lt (TT_some ⟨congrArg Sum.inl h.2.2.2.1.bi, h.set (CL_keep h.2.2.2.1.c (e _ _ (by decide)) (e _ _ (by decide)) (fun j => e _ _ (by decide)) (fun j => e _ _ (by decide))) pI_eq (h.2.2.2.2.1.low rfl (fun b j hb => e b j (by omega))) ((e 52 6 (by decide)).trans h.2.2.2.2.2.2.1) (fun b j hb => e b j (by omega)), (fr.I (by unfold sCC; omega)).I2, rmC.of rfl⟩)
    · rw [rr_yes ha]
      unfold f_59_21
      rw [r_goon h0]
      have e : ∀ b j, ¬ (b = 76 ∧ j = 3) → (ab_pI P1 76 3 a).1 b j = P1.1 b j := fun b j hb => by rw [pI_at, if_neg hb]
      refine TT_lt (TT_some ⟨h1.2.2.2.1.bi, (e 72 0 (by omega)).trans h0, h1.set ok (RL_keep h1.2.2.2.1.r (fun j => e _ j (by omega))) pI_eq (RHI_keep h1.2.2.2.2.1 ⟨ok.2.2.2.1.1, ok.2.2.2.1.2.1⟩ (fun b j hb => e b j (by omega))) ((e 72 31 (by omega)).trans h1.2.2.2.2.2.2.1) (fun b j hb => e b j (by omega)), fr.I (by unfold sRR; omega)⟩)
  · refine kI_bad (E := 1) (a := 1) (x := 1) h ok ?_ (fun P1 => rfl) (by decide) (by decide) (by decide) (fun P1 h1 h0 => ?_)
    · unfold f_171
      rw [cb_no ha]
    · rw [rr_no ha]
      unfold f_59_21
      exact r_stop (a := 1) (x := 1) h1 ok h0 (by decide) (by decide) (by decide)
/-! plain answers -/
def CallP (g : GS) (oc : Option Int32) (orr : ab_P → Option (Int32 × ab_P)) : Prop := ∃ v : Int32, oc = some v ∧ ∀ P1, RREL g P1 → TT (orr P1) (fun q => q.1 = v ∧ RREL g q.2 ∧ fr sRR P1 q.2)
def CallE (g : GS) (P : ab_P) (oc : Option (Int64 × ab_P)) (orr : ab_P → Option (Int64 × ab_P)) : Prop := ∃ (v : Int64) (g' : GS), GOK g' ∧ TT oc (fun q => q.1 = v ∧ CREL g' q.2 ∧ frI sCC P q.2 ∧ rmC P q.2) ∧ ∀ P1, RREL g P1 → TT (orr P1) (fun q => q.1 = v ∧ RREL g' q.2 ∧ fr sRR P1 q.2)
theorem kPl {oc : Option Int32} {R : ab_P → Option (Int32 × ab_P)} {v : Int32} (ok : GOK g) (hc : oc = some v) (hr : ∀ P1, RREL g P1 → P1.1 72 0 = 0 → TT (R P1) (fun q => q.1 = v ∧ fr scR P1 q.2)) : CallP g oc (fun P => ab_lt (ab_pI P 72 0 (0 : Int32)) fun P1 => R P1) := by
  refine ⟨v, hc, fun P1 h1 => ?_⟩
  obtain ⟨t1, t2, t3⟩ := r_t0 h1 ok
  exact TT_lt ((hr _ t1 t2).mono (fun q hq => ⟨hq.1, t1.scr ok hq.2, t3.tr (hq.2.mono scR_R)⟩))
theorem kDi {oc : Option (Int32 × ab_P)} {R : ab_P → Option (Int32 × ab_P)} {v : Int32} (h : CREL g P) (ok : GOK g) (hc : TT oc (fun q => q.1 = v ∧ fr scC P q.2)) (hr : ∀ P1, RREL g P1 → P1.1 72 0 = 0 → TT (R P1) (fun q => q.1 = v ∧ fr scR P1 q.2)) : CallD g P oc (fun P => ab_lt (ab_pI P 72 0 (0 : Int32)) fun P1 => R P1) := by
  refine ⟨v, g, ok, hc.mono (fun q hq => ⟨hq.1, h.scr hq.2, hq.2.I2.mono scC_C, rmC.of hq.2.2.2⟩), fun P1 h1 => ?_⟩
  obtain ⟨t1, t2, t3⟩ := r_t0 h1 ok
  exact TT_lt ((hr _ t1 t2).mono (fun q hq => ⟨hq.1, t1.scr ok hq.2, t3.tr (hq.2.mono scR_R)⟩))
theorem kEx {oc : Option (Int64 × ab_P)} {R : ab_P → Option (Int64 × ab_P)} {v : Int64} (h : CREL g P) (ok : GOK g) (hc : TT oc (fun q => q.1 = v ∧ fr scC P q.2)) (hr : ∀ P1, RREL g P1 → P1.1 72 0 = 0 → TT (R P1) (fun q => q.1 = v ∧ fr scR P1 q.2)) : CallE g P oc (fun P => ab_lt (ab_pI P 72 0 (0 : Int32)) fun P1 => R P1) := by
  refine ⟨v, g, ok, hc.mono (fun q hq => ⟨hq.1, h.scr hq.2, hq.2.I2.mono scC_C, rmC.of hq.2.2.2⟩), fun P1 h1 => ?_⟩
  obtain ⟨t1, t2, t3⟩ := r_t0 h1 ok
  exact TT_lt ((hr _ t1 t2).mono (fun q hq => ⟨hq.1, t1.scr ok hq.2, t3.tr (hq.2.mono scR_R)⟩))
theorem k_fault (h : CREL g P) (ok : GOK g) : CallP g (f_14 P) f_15 := by
  unfold f_14 f_15
  exact kPl ok (congrArg some h.2.2.1) (fun P1 h1 h0 => TT_some ⟨h1.2.2.1, fr.rf⟩)
theorem k_status (h : CREL g P) (ok : GOK g) (a : Int32) : CallP g (f_92 P a) (f_93 a) := by
  unfold f_92 f_93
  by_cases ha : isRg 0 2 a
  · obtain ⟨k, hk, rfl⟩ := isRg_nat (n := 2) (by decide) ha
    refine kPl (v := g.rf k) ok ?_ (fun P1 h1 h0 => ?_)
    · rw [if_neg ha.1, if_pos (by rw [iN_ltl (by omega) (by decide)]; exact (show k < 3 by omega)), if_pos (iN_gi (by omega) (by decide)), iN_nat (by omega)]
      exact congrArg some (h.2.2.2.2.2.2.2 k (by omega))
    · rw [rr_yes ha, if_pos (iN_gi (by omega) (by decide)), iN_nat (by omega)]
      exact TT_some ⟨h1.2.2.2.2.2.2.2 k (by omega), fr.rf⟩
  · refine kPl (v := -1) ok ?_ (fun P1 h1 h0 => ?_)
    · by_cases h1 : a < 0
      · rw [if_pos h1]
      · rw [if_neg h1]
        by_cases h2 : a < 3
        · refine absurd ⟨h1, fun h3 => ?_⟩ ha
          obtain ⟨k, hk, rfl⟩ := iN_of h1 (show 3 < 2147483648 by decide) h2
          rw [show (2 : Int32) = iN 2 from rfl, iN_lt (by decide) (by omega)] at h3
          omega
        · rw [if_neg h2]
    · rw [rr_no ha]
      exact TT_some ⟨rfl, fr.rf⟩
theorem k_count (h : CREL g P) (ok : GOK g) (a : Int32) : CallP g (f_94 P a) (f_95 a) := by
  unfold f_94 f_95
  by_cases h0 : a = 0
  · simp only [if_pos h0]
    exact kPl ok (congrArg some h.2.2.2.2.1.2.2.1) (fun P1 h1 _ => TT_some ⟨h1.2.2.2.2.1.2.1, fr.rf⟩)
  · simp only [if_neg h0]
    by_cases h1 : a = 1
    · simp only [if_pos h1]
      exact kPl ok (congrArg some h.1) (fun P1 h1 _ => TT_some ⟨h1.1, fr.rf⟩)
    · simp only [if_neg h1]
      by_cases h2 : a = 2
      · simp only [if_pos h2]
        exact kPl ok (congrArg some h.2.2.2.2.1.2.1) (fun P1 h1 _ => TT_some ⟨h1.2.2.2.2.1.1, fr.rf⟩)
      · simp only [if_neg h2]
        exact kPl ok rfl (fun P1 h1 _ => TT_some ⟨rfl, fr.rf⟩)
theorem k_open (h : CREL g P) (ok : GOK g) (hN : 70000 ≤ N) : CallE g P (f_34 N P) (f_35 N) := by
  unfold f_34 f_35
  exact kEx h ok (r_b2 (c_opens h.2.2.2.1 ok.2.2.1 hN)) (fun P1 h1 h0 => r_opens h1.2.2.2.1 ok.2.2.1 hN)
theorem k_best (h : CREL g P) (ok : GOK g) (hN : 70000 ≤ N) : CallD g P (f_56 N P) (f_57 N) := by
  unfold f_56 f_57
  exact kDi h ok (r_b2 (c_best rfl h.2.2.2.1 ok.2.2.1 hN)) (fun P1 h1 h0 => r_best rfl h1.2.2.2.1 ok.2.2.1 hN)
theorem k_burst (h : CREL g P) (ok : GOK g) (a : Int32) (hN : 70000 ≤ N) : CallP g (f_62 N P a) (f_63 N a) := by
  unfold f_63
  exact kPl ok (c_burst h.2.2.2.1.c ok.2.2.1.1 h.2.2.2.1.it ok.2.2.1.2.2 a hN) (fun P1 h1 h0 => TT_eq (r_burst h1.2.2.2.1.r ok.2.2.1.1 h1.2.2.2.1.it ok.2.2.1.2.2 a hN) ⟨rfl, fr.rf⟩)
theorem k_square (h : CREL g P) (ok : GOK g) (hN : 70000 ≤ N) : CallP g (f_78 N P) (f_79 N) := by
  unfold f_79
  exact kPl ok (c_square h.2.2.2.1.c ok.2.2.1.1.1 h.2.2.2.1.pe hN) (fun P1 h1 h0 => TT_eq (r_square h1.2.2.2.1.r ok.2.2.1.1 h1.2.2.2.1.pe hN) ⟨rfl, fr.rf⟩)
theorem k_group (h : CREL g P) (ok : GOK g) (a : Int32) (hN : 70000 ≤ N) : CallD g P (f_44 N a P) (f_45 N a) := by
  unfold f_44 f_45
  refine kDi (v := sGroup g.W a) h ok (TT_bind (c_settle h.2.2.2.1 ok.2.2.1 hN) (fun P2 h2 => ?_)) (fun P1 h1 h0 => TT_bind (r_settle h1.2.2.2.1 ok.2.2.1 hN) (fun P2 h2 => ?_))
  · rw [c_group ok.2.2.1 h2.1 a, Option.bind_some]
    exact TT_some ⟨rfl, h2.2⟩
  · by_cases ha : a < 0
    · rw [if_pos ha]
      exact TT_some ⟨by unfold sGroup; rw [if_pos ha], h2.2⟩
    · rw [if_neg ha]
      exact (r_group ok.2.2.1 h2.1 ha hN).mono (fun q hq => ⟨hq.1, by rw [hq.2]; exact h2.2⟩)
theorem k_oneDay (h : CREL g P) (ok : GOK g) (hN : 70000 ≤ N) : CallD g P (f_46 N P) (f_47 N) := by
  unfold f_46 f_47
  refine kDi (v := iN (DD g.W g.W.pe 0)) h ok (TT_bind (c_meet h.2.2.2.1 ok.2.2.1 hN) (fun P2 h2 => ?_)) (fun P1 h1 h0 => TT_bind (r_meet h1.2.2.2.1 ok.2.2.1 hN) (fun P2 h2 => ?_))
  · unfold f_162
    exact TT_some ⟨h2.1.1, h2.2⟩
  · exact TT_some ⟨r_one ok.2.2.1 h2.1, h2.2⟩
end GT3
