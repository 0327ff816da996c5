/-! a law is told: both sides -/
def gLaw (g : GS) (w : LW) : GS := (g.1, 0, -1, (g.W.1, w, g.W.2.2), g.2.2.2.2)
theorem gLaw_ok {g : GS} {w : LW} (ok : GOK g) (hw : WFL w) : GOK (gLaw g w) := ⟨ok.1, Nat.zero_le _, ⟨ok.2.2.1.1, hw, ok.2.2.1.2.2⟩, ok.2.2.2⟩
theorem lawS_ok {T : TX} {K q : Nat} (hK : 7 ≤ K) (h150 : T.2 ≤ 150) (e : (lawS T K).2 = .inl q) : WFL (lawS T K).1 ∧ (lawS T K).1.1 ≠ 0 := by
  have l := suS_RI (T := T) K 0 (by decide) (by omega) 0 0 0 (lw00 T) (Nat.le_refl _) lw00_I
  unfold lawS at e ⊢
  generalize suS T K 0 (lw00 T) = x at l e ⊢
  obtain ⟨w, s⟩ := x
  cases s with
  | inr f => cases e
  | inl q2 =>
    by_cases hq : q2 < T.2
    · rw [show endL T (w, .inl q2) = (w, .inr (1, q2)) from if_pos hq] at e
      cases e
    · rw [show endL T (w, .inl q2) = (w, .inl q2) from if_neg hq] at e ⊢
      obtain ⟨l1, l2, l3, l4, l5⟩ := l q2 rfl
      dsimp only at l3 l4 l5 ⊢
      refine ⟨⟨by omega, by rw [l4]; omega, l5⟩, fun e0 => ?_⟩
      rw [e0] at l4
      have l9 : (0 : Nat) = 1 := l4
      omega
theorem sLr_R {b j : Nat} (h : sLr b j) : scR b j := by
  unfold sLr sTr at h
  unfold scR
  omega
section LT
variable {g : GS} {T : TX} {P : ab_P} {N K n m : Nat} {s : RS} {w : LW}
theorem c_law1 (hK : 7 ≤ K) (h : CREL g P) (ok : GOK g) {a : Int32} (hb : ¬ isBad a 150 g.F) (hn : a = iN n) (hn6 : n ≤ 150) (hN : 70000 ≤ N) : TT (f_118 K N a P) (fun r => (match lawS (g.B, n) K with
    | (w, .inl _) => r.1 = .inl 1 ∧ CREL (gLaw g w) r.2
    | (_, .inr f) => r.1 = .inl (iN f.1 - 10) ∧ CREL (gFail g (iN f.2)) r.2) ∧ fr sCC P r.2) := by
  have okT : okT (g.B, n) := ⟨by show n ≤ 600; omega, ok.1⟩
  unfold f_118
  rw [show f_198 a 150 P = _ from c_need h a 150, if_neg (show ¬ (a < 0 ∨ iN 150 < a ∨ iN g.F < a) from hb), x2_some, hn]
  refine TT_bind (c_start h ok (by omega)) (fun P1 h1 => ?_)
  refine TT_bind (c_lawR hK okT hn6 h1.1 hN) (fun P2 h2 => ?_)
  have hf : fr (fun b _ => b = 1 ∨ b = 18 ∨ b = 19) P P2 := (h1.2.2.mono (fun b j e => Or.inl e)).tr (h2.2.mono (fun b j e => by unfold sLp sTp at e; omega))
  have e11 : P2.1 1 1 = 0 := (h2.2.1 1 1 (by unfold sLp sTp; omega)).trans h1.2.1
  have hk : ∀ b j, kCR b j → b ≠ 1 → P2.1 b j = P.1 b j := fun b j hb h1 => hf.1 b j (by
    have := kCR_sc hb
    unfold scC at this
    omega)
  have hc := h2.1.1
  have hT := h2.1.2
  have hl := fun (q : Nat) (e : (lawS (g.B, n) K).2 = .inl q) => lawS_ok (T := (g.B, n)) (K := K) hK hn6 e
  rw [c_isF hc, Option.bind_some]
  cases hx : lawS (g.B, n) K with
  | mk w s =>
    rw [hx] at hc hT hl
    dsimp only at hc hT hl ⊢
    have hfC : fr sCC P P2 := hf.mono (fun b j e => by unfold sCC; omega)
    cases s with
    | inr f =>
      rw [if_neg (show ¬ bI (isF (.inr f)) = 0 from (by decide : ¬ bI true = 0))]
      refine TT_some ⟨⟨by rw [hc.2.1], h.text hf.2.2 hk e11 hc.2.2.2.2⟩, hfC⟩
    | inl q =>
      rw [if_pos (show bI (isF (.inl q)) = 0 from rfl)]
      obtain ⟨hw, hw0⟩ := hl q rfl
      obtain ⟨t1, t2⟩ := hT q rfl
      have hk1 := h.text (F' := 0) (pl' := -1) hf.2.2 hk e11 hc.2.2.1
      unfold f_211
      refine TT_lt (TT_lt ?_)
      have hX : ∀ b j, b ≠ 15 → b ≠ 16 → (ab_pI (ab_pC P2 (15 + 1) (P2.1 (18 + 1)) 0 0 150) 15 1 ((ab_pC P2 (15 + 1) (P2.1 (18 + 1)) 0 0 150).1 18 1)).1 b j = P2.1 b j := fun b j h1 h2 => by rw [pI_ne h1, pC_ne h2]
      have e15 : (ab_pI (ab_pC P2 (15 + 1) (P2.1 (18 + 1)) 0 0 150) 15 1 ((ab_pC P2 (15 + 1) (P2.1 (18 + 1)) 0 0 150).1 18 1)).1 15 1 = iN w.1 := by rw [pI_eq, pC_ne (by decide)]; exact t1
      have e16 : ∀ k, k < w.1 → (ab_pI (ab_pC P2 (15 + 1) (P2.1 (18 + 1)) 0 0 150) 15 1 ((ab_pC P2 (15 + 1) (P2.1 (18 + 1)) 0 0 150).1 18 1)).1 16 k = encC (w.2 k) := fun k hk => by
        rw [pI_ne (by decide), pC_in (show k < 150 by have := hw.1; omega)]
        exact t2 k hk
      have fX : fr sCC P2 (ab_pI (ab_pC P2 (15 + 1) (P2.1 (18 + 1)) 0 0 150) 15 1 ((ab_pC P2 (15 + 1) (P2.1 (18 + 1)) 0 0 150).1 18 1)) := (fr.C (fun j => by unfold sCC; omega)).tr (fr.I (by unfold sCC; omega))
      generalize ab_pI (ab_pC P2 (15 + 1) (P2.1 (18 + 1)) 0 0 150) 15 1 ((ab_pC P2 (15 + 1) (P2.1 (18 + 1)) 0 0 150).1 18 1) = X at hX e15 e16 fX ⊢
      obtain ⟨q1, q2, q3, ⟨c1, c2, c3, c4, c5, c6⟩, q5, q6, q7, q8⟩ := hk1
      refine TT_some ⟨⟨rfl, ⟨(hX 1 1 (by decide) (by decide)).trans q1, fun j hj => (by rw [hX 2 j (by decide) (by decide)]; exact q2 j hj : X.1 2 j &&& (255 : Int32) = iN (g.B j)), (hX 1 6 (by decide) (by decide)).trans q3, ⟨CL_keep c1 (hX _ _ (by decide) (by decide)) (hX _ _ (by decide) (by decide)) (fun j => hX _ _ (by decide) (by decide)) (fun j => hX _ _ (by decide) (by decide)), ⟨hw.1, e15, e16⟩, fun p hp => (hX 4 p (by decide) (by decide)).trans (c3 p hp), (hX 3 5 (by decide) (by decide)).trans c4, (hX 3 7 (by decide) (by decide)).trans c5, (hX 46 5 (by decide) (by decide)).trans c6⟩, q5.low fX.2.2 (fun b j hb => hX b j (by omega) (by omega)), q6.keep (fun b j hb => hX b j (by omega) (by omega)), (hX 52 6 (by decide) (by decide)).trans q7, fun j hj => (hX 71 j (by decide) (by decide)).trans (q8 j hj)⟩⟩, hfC.tr fX⟩
/-- the codes are taken over -/
theorem r_lcopy (g0 : RLwS T 0 (w, s) P) {q : Nat} (hs : s = .inl q) (hw : WFL w) (hN : 70000 ≤ N) (h16 : P.1 72 16 = iN w.1) : TT (f_9_112 N N (0 : Int32) P) (fun r => r.1 = 1 ∧ (∀ k, k < w.1 → r.2.1 (104 + 1 + k) 0 = iN (w.2 k).1 ∧ r.2.1 (104 + 1 + k) 1 = iN (w.2 k).2) ∧ fr (fun b _ => 105 ≤ b ∧ b ≤ 254) P r.2) := by
  have h150 := hw.1
  obtain ⟨a1, a2, a3⟩ := g0.2 q hs
  dsimp only at a3
  refine upC (fun n k (y : ab_P) => f_9_112 N n (iN k) y) w.1 (fun k y => (∀ j, j < k → y.1 (104 + 1 + j) 0 = iN (w.2 j).1 ∧ y.1 (104 + 1 + j) 1 = iN (w.2 j).2) ∧ fr (fun b _ => 105 ≤ b ∧ b ≤ 254) P y) _ (fun n k P1 hk hi hC => ?_) (fun n P1 hi => ?_) N P ⟨fun j hj => absurd hj (Nat.not_lt_zero j), fr.rf⟩ (by omega)
  · obtain ⟨e1, e2⟩ := hi
    obtain ⟨b1, b2⟩ := a3 k hk
    show TT (f_9_112 N (n + 1) (iN k) P1) _
    unfold f_9_112
    rw [if_pos (by rw [e2.1 72 16 (by omega), h16, iN_lt (by omega) (by omega)]; exact hk)]
    obtain ⟨N3, rfl⟩ : ∃ z, N = z + 3 := ⟨N - 3, by omega⟩
    have g1 : ab_gi (iN k) 160 := iN_gi (by omega) (by decide)
    unfold f_9_122
    rw [if_pos (by decide), if_pos g1, if_pos g1, if_pos (by decide), if_pos (by decide)]
    refine TT_lt ?_
    unfold f_9_122
    rw [if_pos (by decide), if_pos g1, if_pos g1, if_pos (by decide), if_pos (by decide)]
    refine TT_lt ?_
    unfold f_9_122
    rw [if_neg (by decide), iN_nat (show k < 2147483648 by omega), iN_succ, show (0 : Int32).toNatClampNeg = 0 by decide, show ((0 : Int32) + 1).toNatClampNeg = 1 by decide]
    refine hC _ ⟨fun j hj => ?_, e2.tr ((fr.I (by omega)).tr (fr.I (by omega)))⟩
    have r0 : ∀ y, P1.1 (265 + 1 + k) y = P.1 (266 + k) y := fun y => e2.1 (265 + 1 + k) y (by omega)
    by_cases ej : j = k
    · subst ej
      constructor
      · rw [pI_nj (by decide), pI_eq, r0]
        exact b1
      · rw [pI_eq, pI_ne (by omega), r0]
        exact b2
    · rw [pI_ne (by omega), pI_ne (by omega), pI_ne (by omega), pI_ne (by omega)]
      exact e1 j (by omega)
  · obtain ⟨e1, e2⟩ := hi
    show TT (f_9_112 N (n + 1) (iN w.1) P1) _
    unfold f_9_112
    rw [if_neg (by rw [e2.1 72 16 (by omega), h16, iN_lt (by omega) (by omega)]; omega)]
    exact TT_some ⟨rfl, e1, e2⟩
/-- behind the reading -/
theorem r_lend (h : RREL g P) (ok : GOK g) (h0 : P.1 72 0 = 0) {P3 : ab_P} (hf : fr (fun b j => (b = 72 ∧ (j = 1 ∨ j = 2 ∨ j = 4 ∨ j = 5 ∨ j = 6 ∨ j = 7 ∨ j = 8 ∨ j = 17)) ∨ (266 ≤ b ∧ b < 426)) P P3) (e1 : P3.1 72 1 = 0) (g3 : RLwS T 0 (w, s) P3) (hw : ∀ q, s = .inl q → WFL w ∧ w.1 ≠ 0) (hN : 70000 ≤ N) : TT (f_9_85 N P3) (fun r => (match s with
    | .inl _ => r.1 = 1 ∧ RREL (gLaw g w) r.2
    | .inr f => r.1 = iN f.1 - 10 ∧ RREL (gFail g (iN f.2)) r.2) ∧ r.2.1 72 0 = 0 ∧ fr sRR P r.2) := by
  have e0 : P3.1 72 0 = 0 := (hf.1 72 0 (by omega)).trans h0
  have hk : ∀ b j, kRR b j → ¬ (b = 72 ∧ (j = 1 ∨ j = 3)) → P3.1 b j = P.1 b j := fun b j hb h1 => hf.1 b j (by
    have := kRR_sc hb
    unfold scR at this
    omega)
  have fR : fr sRR P P3 := hf.mono (fun b j e => by unfold sRR; omega)
  unfold f_9_85 f_117
  cases s with
  | inr f =>
    rw [if_neg (RR.no (f := f) g3.1)]
    refine TT_b2 (Q1 := fun q => q.1 = iN f.1 - 10 ∧ q.2 = ab_pI P3 72 3 (iN f.2)) (TT_lt (TT_some ⟨?_, ?_⟩)) (fun v P4 hv => ?_)
    · show (ab_pI P3 72 3 (P3.1 72 6)).1 72 5 - 10 = _
      rw [pI_nj (by decide), g3.1.2.1]
    · show ab_pI P3 72 3 (P3.1 72 6) = _
      rw [g3.1.2.2.2.2.1]
    · obtain ⟨v1, v2⟩ := hv
      dsimp only at v1 v2
      subst v2
      exact TT_some ⟨⟨v1, h.text ok (fun b j hb h9 => by rw [pI_at, if_neg (by omega)]; exact hk b j hb h9) (by rw [pI_nj (by decide)]; exact e1) pI_eq⟩, by rw [pI_nj (by decide)]; exact e0, fR.tr (fr.I (by unfold sRR; omega))⟩
  | inl q =>
    obtain ⟨hw1, hw2⟩ := hw q rfl
    rw [if_pos (RR.ok (q := q) g3.1)]
    refine TT_lt (TT_lt ?_)
    have e16 : (ab_pI (ab_pI P3 72 3 (-1)) 72 16 ((ab_pI P3 72 3 (-1)).1 72 17)).1 72 16 = iN w.1 := by
      rw [pI_eq, pI_nj (by decide)]
      exact (g3.2 q rfl).1
    have hX : ∀ b j, ¬ (b = 72 ∧ (j = 3 ∨ j = 16)) → (ab_pI (ab_pI P3 72 3 (-1)) 72 16 ((ab_pI P3 72 3 (-1)).1 72 17)).1 b j = P3.1 b j := fun b j hb => by rw [pI_at, if_neg (by omega), pI_at, if_neg (by omega)]
    have e3 : (ab_pI (ab_pI P3 72 3 (-1)) 72 16 ((ab_pI P3 72 3 (-1)).1 72 17)).1 72 3 = -1 := by rw [pI_nj (by decide), pI_eq]
    have fX : fr sRR P3 (ab_pI (ab_pI P3 72 3 (-1)) 72 16 ((ab_pI P3 72 3 (-1)).1 72 17)) := (fr.I (by unfold sRR; omega)).tr (fr.I (by unfold sRR; omega))
    generalize ab_pI (ab_pI P3 72 3 (-1)) 72 16 ((ab_pI P3 72 3 (-1)).1 72 17) = X at e16 hX e3 fX ⊢
    have gX : RLwS T 0 (w, .inl q) X := ⟨RR.keep g3.1 (fun b j hb => hX b j (by unfold kTr at hb; omega)), fun q' e => by
      obtain ⟨a1, a2, a3⟩ := g3.2 q' e
      exact ⟨(hX 72 17 (by omega)).trans a1, (hX 72 8 (by omega)).trans a2, fun k hk => by rw [hX _ _ (by omega), hX _ _ (by omega)]; exact a3 k hk⟩⟩
    refine (r_lcopy gX rfl hw1 hN e16).mono (fun r hr => ?_)
    obtain ⟨r1, r2, r3⟩ := hr
    have hY : ∀ b j, ¬ (b = 72 ∧ (j = 3 ∨ j = 16)) → ¬ (105 ≤ b ∧ b ≤ 254) → r.2.1 b j = P3.1 b j := fun b j h1 h2 => (r3.1 b j h2).trans (hX b j h1)
    have hZ : ∀ b j, kRR b j → ¬ (b = 72 ∧ (j = 1 ∨ j = 3 ∨ j = 16)) → ¬ (105 ≤ b ∧ b ≤ 254) → r.2.1 b j = P.1 b j := fun b j hb h1 h2 => (hY b j (by omega) h2).trans (hk b j hb (by omega))
    obtain ⟨z1, z2, z3, ⟨w1, w2, w3, w4, w5, w6⟩, z5, z6, z7, z8⟩ := h
    obtain ⟨o1, o2, o3, o4, o5⟩ := ok
    refine ⟨⟨r1, ⟨(hY 72 1 (by omega) (by omega)).trans e1, fun j hj => (hZ 73 j (by unfold kRR; omega) (by omega) (by omega)).trans (z2 j hj), (r3.1 72 3 (by omega)).trans e3, ⟨RL_keep w1 (fun j => hZ 477 j (by unfold kRR; omega) (by omega) (by omega)), Or.inl ⟨(r3.1 72 16 (by omega)).trans e16, hw2, r2⟩, fun p hp => (hZ 78 p (by unfold kRR; omega) (by omega) (by omega)).trans (w3 p hp), (hZ 76 0 (by unfold kRR; omega) (by omega) (by omega)).trans w4, (hZ 76 2 (by unfold kRR; omega) (by omega) (by omega)).trans w5, (hZ 76 3 (by unfold kRR; omega) (by omega) (by omega)).trans w6⟩, RHI_keep z5 ⟨o4.1, o4.2.1⟩ (fun b j hb => hZ b j (by unfold kRR; rcases hb with ⟨rfl, hb⟩ | hb <;> omega) (by omega) (by omega)), z6.keep o5.1 (fun b j hb => hZ b j (by unfold kRR; rcases hb with ⟨rfl, rfl⟩ | hb <;> omega) (by omega) (by omega)), (hZ 72 31 (by unfold kRR; omega) (by omega) (by omega)).trans z7, fun j hj => (hZ 74 j (by unfold kRR; omega) (by omega) (by omega)).trans (z8 j hj)⟩⟩, (hY 72 0 (by omega) (by omega)).trans e0, (fR.tr fX).tr (r3.mono (fun b j e => by unfold sRR; omega))⟩
theorem r_law1 (hK : 7 ≤ K) (h : RREL g P) (ok : GOK g) (h0 : P.1 72 0 = 0) {a : Int32} (hn : a = iN n) (hn6 : n ≤ 150) (hN : 70000 ≤ N) : TT (f_9_40 K N a P) (fun r => (match lawS (g.B, n) K with
    | (w, .inl _) => r.1 = 1 ∧ RREL (gLaw g w) r.2
    | (_, .inr f) => r.1 = iN f.1 - 10 ∧ RREL (gFail g (iN f.2)) r.2) ∧ r.2.1 72 0 = 0 ∧ fr sRR P r.2) := by
  have okT : okT (g.B, n) := ⟨by show n ≤ 600; omega, ok.1⟩
  unfold f_9_40
  rw [hn]
  refine TT_bind (r_start h ok (by omega) hN) (fun P1 h1 => ?_)
  obtain ⟨s1, s2, s3, s4, s5, s6⟩ := h1
  refine TT_lt ?_
  have g0 : RLwS (g.B, n) 0 (lw00 (g.B, n)) (ab_pI P1 72 17 0) := ⟨RR.keep s1 (fun b j hb => by unfold kTr at hb; rw [pI_at, if_neg (by omega)]), fun q e => ⟨pI_eq, by rw [pI_nj (by decide)]; exact s5, fun k hk => absurd hk (Nat.not_lt_zero k)⟩⟩
  refine TT_bind (r_sumK okT hn6 hN K 0 (by decide) (by omega) 0 0 0 (lw00 (g.B, n)) _ (Nat.le_refl _) lw00_I g0) (fun P2 h2 => ?_)
  obtain ⟨g2, f2⟩ := h2
  have hf : fr (fun b j => (b = 72 ∧ (j = 1 ∨ j = 2 ∨ j = 4 ∨ j = 5 ∨ j = 6 ∨ j = 7 ∨ j = 8 ∨ j = 17)) ∨ (266 ≤ b ∧ b < 426)) P P2 := ((s6.mono (fun b j e => by omega)).tr (fr.I (by omega))).tr (f2.mono (fun b j e => by unfold sLr sTr at e; omega))
  have e1 : P2.1 72 1 = 0 := by rw [f2.1 72 1 (by unfold sLr sTr; omega), pI_nj (by decide)]; exact s3
  have hl := fun (q : Nat) (e : (lawS (g.B, n) K).2 = .inl q) => lawS_ok (T := (g.B, n)) (K := K) hK hn6 e
  have hm : ∀ q, (suS (g.B, n) K 0 (lw00 (g.B, n))).2 = .inl q → (suS (g.B, n) K 0 (lw00 (g.B, n))).1.1 ≤ 150 := fun q e => by
    have := suS_RI (T := (g.B, n)) K 0 (by decide) (by omega) 0 0 0 (lw00 (g.B, n)) (Nat.le_refl _) lw00_I q e
    have h9 : (g.B, n).2 ≤ 150 := hn6
    omega
  unfold lawS at hl ⊢
  generalize suS (g.B, n) K 0 (lw00 (g.B, n)) = x at g2 hl hm ⊢
  obtain ⟨w, s⟩ := x
  cases s with
  | inr f =>
    refine TT_bind (r_blankF g2.1 okT hN) (fun P3 h3 => ?_)
    rw [if_neg h3.1.no]
    exact r_lend (s := .inr f) (w := w) h ok h0 (hf.tr (h3.2.mono (fun b j e => by unfold sTr at e; omega))) ((h3.2.1 72 1 (by unfold sTr; omega)).trans e1) (RLwS.no h3.1) (fun q e => by cases e) hN
  | inl q =>
    rw [r_blank g2.1 okT hN, Option.bind_some]
    have fT : fr sTr P2 (ab_pI P2 72 4 (iN q)) := fr.I (by unfold sTr; omega)
    have g3 : RLwS (g.B, n) 0 (w, .inl q) (ab_pI P2 72 4 (iN q)) := RLwS.frT g2 (fun q' e => ⟨q, rfl⟩) (RR.at' g2.1) fT hm
    have e4 : (ab_pI P2 72 4 (iN q)).1 72 4 = iN q := pI_eq
    have hf3 := hf.tr (fT.mono (fun b j e => by unfold sTr at e; omega) : fr (fun b j => (b = 72 ∧ (j = 1 ∨ j = 2 ∨ j = 4 ∨ j = 5 ∨ j = 6 ∨ j = 7 ∨ j = 8 ∨ j = 17)) ∨ (266 ≤ b ∧ b < 426)) P2 (ab_pI P2 72 4 (iN q)))
    have e13 : (ab_pI P2 72 4 (iN q)).1 72 1 = 0 := by rw [pI_nj (by decide)]; exact e1
    generalize ab_pI P2 72 4 (iN q) = P3 at g3 e4 hf3 e13 ⊢
    rw [if_pos (RR.ok (q := q) g3.1), e4, g3.1.1.1]
    have hq := (RR.qq (q := q) g3.1).1
    have h9 : (g.B, n).2 ≤ 150 := hn6
    by_cases hl2 : q < (g.B, n).2
    · rw [show endL (g.B, n) (w, .inl q) = (w, .inr (1, q)) from if_pos hl2] at hl ⊢
      rw [if_pos (by rw [iN_lt (by omega) (by omega)]; exact hl2)]
      refine TT_bind (r_wrong g3.1 (k := 1) (p := q) (by decide) (by decide)) (fun P4 h4 => ?_)
      exact r_lend (s := .inr (1, q)) (w := w) h ok h0 (hf3.tr (h4.2.mono (fun b j e => by unfold sTr at e; omega))) ((h4.2.1 72 1 (by unfold sTr; omega)).trans e13) (RLwS.no h4.1) (fun q e => by cases e) hN
    · rw [show endL (g.B, n) (w, .inl q) = (w, .inl q) from if_neg hl2] at hl ⊢
      rw [if_neg (by rw [iN_lt (by omega) (by omega)]; exact hl2)]
      exact r_lend (s := .inl q) (w := w) h ok h0 hf3 e13 g3 (fun q' e => hl q rfl) hN
end LT
