/-! calls: book -/
section BB
variable {g g' : GS} {P : ab_P} {N K n : Nat} {v : Int32}
theorem c_book1 (h : CREL g P) (ok : GOK g) {a : Int32} (hb : ¬ isBad a 150 g.F) (hn : a = iN n) (hn6 : n ≤ 150) (hN : 70000 ≤ N) : TT (f_125 N a P) (fun r => (match bookS (g.B, n) g.W.pe with
    | (B, .inl _) => r.1 = .inl (iN B.1) ∧ CREL (gBook g B) r.2
    | (_, .inr f) => r.1 = .inl (iN f.1 - 10) ∧ CREL (gFail g (iN f.2)) r.2) ∧ fr sCC P r.2) := by
  have okT : okT (g.B, n) := ⟨by show n ≤ 600; omega, ok.1⟩
  have h8 := ok.2.2.1.1.1
  unfold f_125
  rw [show f_198 a 150 P = _ from c_need h a 150, if_neg (show ¬ (a < 0 ∨ iN 150 < a ∨ iN g.F < a) from hb), x2_some, hn]
  refine TT_bind (c_start h ok (by omega)) (fun P1 h1 => ?_)
  have hpe1 : P1.1 3 5 = iN g.W.pe := (h1.2.2.1 3 5 (by omega)).trans h.2.2.2.1.pe
  rw [hpe1]
  refine TT_bind (c_bookR h1.1 okT h8 hN) (fun P2 h2 => ?_)
  have hf : fr (fun b j => b = 1 ∨ (b = 32 ∧ j = 2) ∨ b = 33 ∨ b = 34) P P2 := (h1.2.2.mono (fun b j e => Or.inl e)).tr (h2.2.mono (fun b j e => by unfold sBp sTp at e; omega))
  have e11 : P2.1 1 1 = 0 := (h2.2.1 1 1 (by unfold sBp sTp; omega)).trans h1.2.1
  have hk : ∀ b j, kCR b j → b ≠ 1 → P2.1 b j = P.1 b j := fun b j hb h1 => hf.1 b j (by
    have := kCR_sc hb
    unfold scC at this
    omega)
  have hc := h2.1.1
  have hT := h2.1.2
  have hl := fun (q : Nat) (e : (bookS (g.B, n) g.W.pe).2 = .inl q) => bookS_ok e
  rw [c_isF hc, Option.bind_some]
  cases hx : bookS (g.B, n) g.W.pe with
  | mk B s =>
    rw [hx] at hc hT hl
    dsimp only at hc hT hl ⊢
    have hfC : fr sCC P P2 := hf.mono (fun b j e => by unfold sCC; omega)
    cases s with
    | inr f =>
      rw [if_neg (show ¬ bI (isF (.inr f)) = 0 from (by decide : ¬ bI true = 0))]
      exact TT_some ⟨⟨by rw [hc.2.1], h.text hf.2.2 hk e11 hc.2.2.2.2⟩, hfC⟩
    | inl q =>
      rw [if_pos (show bI (isF (.inl q)) = 0 from rfl)]
      have hk1 := h.text (F' := 0) (pl' := -1) hf.2.2 hk e11 hc.2.2.1
      have hB := hl q rfl
      have hB8 := hB.1
      obtain ⟨t1, t2⟩ := hT q rfl
      unfold f_225
      refine TT_lt (TT_lt (TT_lt ?_))
      have hX : ∀ b j, b ≠ 22 → b ≠ 23 → ¬ (b = 21 ∧ j = 2) → (ab_pI (ab_pC (ab_pC P2 (21 + 1) (P2.1 (32 + 1)) 0 0 8) (21 + 2) ((ab_pC P2 (21 + 1) (P2.1 (32 + 1)) 0 0 8).1 (32 + 2)) 0 0 8) 21 2 ((ab_pC (ab_pC P2 (21 + 1) (P2.1 (32 + 1)) 0 0 8) (21 + 2) ((ab_pC P2 (21 + 1) (P2.1 (32 + 1)) 0 0 8).1 (32 + 2)) 0 0 8).1 32 2)).1 b j = P2.1 b j := fun b j h1 h2 h3 => by rw [pI_at, if_neg h3, pC_ne h2, pC_ne h1]
      have e212 : (ab_pI (ab_pC (ab_pC P2 (21 + 1) (P2.1 (32 + 1)) 0 0 8) (21 + 2) ((ab_pC P2 (21 + 1) (P2.1 (32 + 1)) 0 0 8).1 (32 + 2)) 0 0 8) 21 2 ((ab_pC (ab_pC P2 (21 + 1) (P2.1 (32 + 1)) 0 0 8) (21 + 2) ((ab_pC P2 (21 + 1) (P2.1 (32 + 1)) 0 0 8).1 (32 + 2)) 0 0 8).1 32 2)).1 21 2 = iN B.1 := by rw [pI_eq, pC_ne (by decide), pC_ne (by decide)]; exact t1
      have e22 : ∀ i, i < B.1 → (ab_pI (ab_pC (ab_pC P2 (21 + 1) (P2.1 (32 + 1)) 0 0 8) (21 + 2) ((ab_pC P2 (21 + 1) (P2.1 (32 + 1)) 0 0 8).1 (32 + 2)) 0 0 8) 21 2 ((ab_pC (ab_pC P2 (21 + 1) (P2.1 (32 + 1)) 0 0 8) (21 + 2) ((ab_pC P2 (21 + 1) (P2.1 (32 + 1)) 0 0 8).1 (32 + 2)) 0 0 8).1 32 2)).1 22 i = iN (B.2.1 i) := fun i hi => by
        rw [pI_ne (by decide), pC_ne (by decide), pC_in (by omega)]
        exact (t2 i hi).1
      have e23 : ∀ i, i < B.1 → (ab_pI (ab_pC (ab_pC P2 (21 + 1) (P2.1 (32 + 1)) 0 0 8) (21 + 2) ((ab_pC P2 (21 + 1) (P2.1 (32 + 1)) 0 0 8).1 (32 + 2)) 0 0 8) 21 2 ((ab_pC (ab_pC P2 (21 + 1) (P2.1 (32 + 1)) 0 0 8) (21 + 2) ((ab_pC P2 (21 + 1) (P2.1 (32 + 1)) 0 0 8).1 (32 + 2)) 0 0 8).1 32 2)).1 23 i = zN (B.2.2 i) := fun i hi => by
        rw [pI_ne (by decide), pC_in (by omega), pC_ne (by decide)]
        exact (t2 i hi).2
      have fX : fr sCC P2 (ab_pI (ab_pC (ab_pC P2 (21 + 1) (P2.1 (32 + 1)) 0 0 8) (21 + 2) ((ab_pC P2 (21 + 1) (P2.1 (32 + 1)) 0 0 8).1 (32 + 2)) 0 0 8) 21 2 ((ab_pC (ab_pC P2 (21 + 1) (P2.1 (32 + 1)) 0 0 8) (21 + 2) ((ab_pC P2 (21 + 1) (P2.1 (32 + 1)) 0 0 8).1 (32 + 2)) 0 0 8).1 32 2)) := ((fr.C (fun j => by unfold sCC; omega)).tr (fr.C (fun j => by unfold sCC; omega))).tr (fr.I (by unfold sCC; omega))
      generalize ab_pI (ab_pC (ab_pC P2 (21 + 1) (P2.1 (32 + 1)) 0 0 8) (21 + 2) ((ab_pC P2 (21 + 1) (P2.1 (32 + 1)) 0 0 8).1 (32 + 2)) 0 0 8) 21 2 ((ab_pC (ab_pC P2 (21 + 1) (P2.1 (32 + 1)) 0 0 8) (21 + 2) ((ab_pC P2 (21 + 1) (P2.1 (32 + 1)) 0 0 8).1 (32 + 2)) 0 0 8).1 32 2) = X at hX e212 e22 e23 fX ⊢
      obtain ⟨q1, q2, q3, q4, q5, q6, q7, q8⟩ := hk1
      refine TT_some ⟨⟨congrArg Sum.inl e212, ⟨(hX 1 1 (by decide) (by decide) (by decide)).trans q1, fun j hj => (by rw [hX 2 j (by decide) (by decide) (by omega)]; exact q2 j hj : X.1 2 j &&& (255 : Int32) = iN (g.B j)), (hX 1 6 (by decide) (by decide) (by decide)).trans q3, CW_keep q4 (fun b j hb => hX b j (by unfold kpW at hb; omega) (by unfold kpW at hb; omega) (by unfold kpW at hb; omega)), q5.low fX.2.2 (fun b j hb => hX b j (by omega) (by omega) (by omega)), ⟨e212, fun i hi => ⟨e22 i hi, e23 i hi⟩⟩, (hX 52 6 (by decide) (by decide) (by decide)).trans q7, fun j hj => (hX 71 j (by decide) (by decide) (by omega)).trans (q8 j hj)⟩⟩, hfC.tr fX⟩
theorem r_bcopy {B : BK} (hd : RBd2 B P) (h8 : B.1 ≤ 8) (hN : 70000 ≤ N) : TT (f_13_191 N N (iN B.1) (0 : Int32) P) (fun r => r.1 = iN B.1 ∧ (∀ k, k < B.1 → r.2.1 (426 + 1 + k) 0 = iN (B.2.1 k) ∧ r.2.1 (426 + 1 + k) 1 = zN (B.2.2 k)) ∧ fr (fun b _ => 427 ≤ b ∧ b < 435) P r.2) := by
  refine upC (fun n k (y : ab_P) => f_13_191 N n (iN B.1) (iN k) y) B.1 (fun k y => (∀ j, j < k → y.1 (426 + 1 + j) 0 = iN (B.2.1 j) ∧ y.1 (426 + 1 + j) 1 = zN (B.2.2 j)) ∧ fr (fun b _ => 427 ≤ b ∧ b < 435) P y) _ (fun n k P1 hk hi hC => ?_) (fun n P1 hi => ?_) N P ⟨fun j hj => absurd hj (Nat.not_lt_zero j), fr.rf⟩ (by omega)
  · obtain ⟨e1, e2⟩ := hi
    obtain ⟨b1, b2⟩ := hd k hk
    show TT (f_13_191 N (n + 1) (iN B.1) (iN k) P1) _
    unfold f_13_191
    rw [if_pos (by rw [iN_lt (by omega) (by omega)]; exact hk)]
    obtain ⟨N3, rfl⟩ : ∃ z, N = z + 3 := ⟨N - 3, by omega⟩
    have g1 : ab_gi (iN k) 8 := iN_gi (by omega) (by decide)
    unfold f_13_199
    rw [if_pos (by decide), if_pos g1, if_pos g1, if_pos (by decide), if_pos (by decide)]
    refine TT_lt ?_
    unfold f_13_199
    rw [if_pos (by decide), if_pos g1, if_pos g1, if_pos (by decide), if_pos (by decide)]
    refine TT_lt ?_
    unfold f_13_199
    rw [if_neg (by decide), iN_nat (show k < 2147483648 by omega), iN_succ, show (0 : Int32).toNatClampNeg = 0 by decide, show ((0 : Int32) + 1).toNatClampNeg = 1 by decide]
    refine hC _ ⟨fun j hj => ?_, e2.tr ((fr.I (by omega)).tr (fr.I (by omega)))⟩
    have r0 : ∀ y, P1.1 (435 + 1 + k) y = P.1 (435 + 1 + k) y := fun y => e2.1 (435 + 1 + k) y (by omega)
    by_cases ej : j = k
    · subst ej
      constructor
      · rw [pI_nj (by decide), pI_eq, r0]
        exact b1
      · rw [pI_eq, pI_ne (by omega), r0]
        exact b2
    · rw [pI_ne (by omega), pI_ne (by omega), pI_ne (by omega), pI_ne (by omega)]
      exact e1 j (by omega)
  · obtain ⟨e1, e2⟩ := hi
    show TT (f_13_191 N (n + 1) (iN B.1) (iN B.1) P1) _
    unfold f_13_191
    rw [if_neg (by rw [iN_lt (by omega) (by omega)]; omega)]
    exact TT_some ⟨rfl, e1, e2⟩
def endBk (g : GS) (B : BK) (s : RS) (r : Int32 × ab_P) : Prop := match s with
  | .inl _ => r.1 = iN B.1 ∧ RREL (gBook g B) r.2
  | .inr f => r.1 = iN f.1 - 10 ∧ RREL (gFail g (iN f.2)) r.2
theorem r_bookDo {B : BK} {x2 : Int32} (h : RREL g P) (ok : GOK g) (h0 : P.1 72 0 = 0) {P3 : ab_P} (hf : fr (fun b j => (b = 72 ∧ (j = 1 ∨ j = 2 ∨ j = 4 ∨ j = 5 ∨ j = 6 ∨ j = 7 ∨ j = 8)) ∨ (436 ≤ b ∧ b < 444)) P P3) (e1 : P3.1 72 1 = 0) {s : RS} {T : TX} (g3 : RBs T (B, s) P3) (hx2 : ∀ q, s = .inl q → x2 = iN B.1) (hB : ∀ q, s = .inl q → okB g.W.pe B) (hN : 70000 ≤ N) : TT (f_13_167 N x2 P3) (fun r => endBk g B s r ∧ r.2.1 72 0 = 0 ∧ fr sRR P r.2) := by
  have e0 : P3.1 72 0 = 0 := (hf.1 72 0 (by omega)).trans h0
  have hk : ∀ b j, kRR b j → ¬ (b = 72 ∧ (j = 1 ∨ j = 3)) → P3.1 b j = P.1 b j := fun b j hb h1 => hf.1 b j (by
    have := kRR_sc hb
    unfold scR at this
    omega)
  have fR : fr sRR P P3 := hf.mono (fun b j e => by unfold sRR; omega)
  unfold f_13_167 f_117
  cases s with
  | inr f =>
    rw [if_neg (RR.no (f := f) g3.1)]
    refine TT_b2 (Q1 := fun q => q.1 = iN f.1 - 10 ∧ q.2 = ab_pI P3 72 3 (iN f.2)) (TT_lt (TT_some ⟨?_, ?_⟩)) (fun v P4 hv => ?_)
    · show (ab_pI P3 72 3 (P3.1 72 6)).1 72 5 - 10 = _
      rw [pI_nj (by decide), g3.1.2.1]
    · show ab_pI P3 72 3 (P3.1 72 6) = _
      rw [g3.1.2.2.2.2.1]
    · obtain ⟨v1, v2⟩ := hv
      dsimp only at v1 v2
      subst v2
      exact TT_some ⟨⟨v1, h.text ok (fun b j hb h9 => by rw [pI_at, if_neg (by omega)]; exact hk b j hb h9) (by rw [pI_nj (by decide)]; exact e1) pI_eq⟩, by rw [pI_nj (by decide)]; exact e0, fR.tr (fr.I (by unfold sRR; omega))⟩
  | inl q =>
    have hB1 := hB q rfl
    rw [if_pos (RR.ok (q := q) g3.1), hx2 q rfl]
    refine TT_lt (TT_lt ?_)
    have hX : ∀ b j, ¬ (b = 72 ∧ (j = 3 ∨ j = 29)) → (ab_pI (ab_pI P3 72 3 (-1)) 72 29 (iN B.1)).1 b j = P3.1 b j := fun b j h1 => by rw [pI_at, if_neg (by omega), pI_at, if_neg (by omega)]
    have x29 : (ab_pI (ab_pI P3 72 3 (-1)) 72 29 (iN B.1)).1 72 29 = iN B.1 := pI_eq
    have x3 : (ab_pI (ab_pI P3 72 3 (-1)) 72 29 (iN B.1)).1 72 3 = -1 := by rw [pI_nj (by decide), pI_eq]
    have fX : fr sRR P3 (ab_pI (ab_pI P3 72 3 (-1)) 72 29 (iN B.1)) := (fr.I (by unfold sRR; omega)).tr (fr.I (by unfold sRR; omega))
    generalize ab_pI (ab_pI P3 72 3 (-1)) 72 29 (iN B.1) = X at hX x29 x3 fX ⊢
    have hdX : RBd2 B X := fun i hi => by
      have := hB1.1
      rw [hX _ _ (by omega), hX _ _ (by omega)]
      exact g3.2 q rfl i hi
    refine (r_bcopy hdX hB1.1 hN).mono (fun r hr => ?_)
    obtain ⟨r1, r2, r3⟩ := hr
    have hZ : ∀ b j, kRR b j → ¬ (b = 72 ∧ (j = 1 ∨ j = 3 ∨ j = 29)) → ¬ (427 ≤ b ∧ b < 435) → r.2.1 b j = P.1 b j := fun b j h1 h2 h3 => ((r3.1 b j h3).trans (hX b j (by omega))).trans (hk b j h1 (by omega))
    obtain ⟨z1, z2, z3, z4, z5, z6, z7, z8⟩ := h
    obtain ⟨o1, o2, o3, o4, o5⟩ := ok
    refine ⟨⟨r1, ⟨((r3.1 72 1 (by omega)).trans (hX 72 1 (by omega))).trans e1, fun j hj => (hZ 73 j (by unfold kRR; omega) (by omega) (by omega)).trans (z2 j hj), (r3.1 72 3 (by omega)).trans x3, RW_keep z4 o3.2.1 (fun b j hb => hZ b j (kq_RR hb) (by unfold kqW at hb; omega) (by unfold kqW at hb; omega)), RHI_keep z5 ⟨o4.1, o4.2.1⟩ (fun b j hb => hZ b j (by unfold kRR; rcases hb with ⟨rfl, hb⟩ | hb <;> omega) (by omega) (by omega)), ⟨(r3.1 72 29 (by omega)).trans x29, r2⟩, (hZ 72 31 (by unfold kRR; omega) (by omega) (by omega)).trans z7, fun j hj => (hZ 74 j (by unfold kRR; omega) (by omega) (by omega)).trans (z8 j hj)⟩⟩, ((r3.1 72 0 (by omega)).trans (hX 72 0 (by omega))).trans e0, (fR.tr fX).tr (r3.mono (fun b j e => by unfold sRR; omega))⟩
theorem r_book1 (h : RREL g P) (ok : GOK g) (h0 : P.1 72 0 = 0) {a : Int32} (hn : a = iN n) (hn6 : n ≤ 150) (hN : 70000 ≤ N) : TT (Option.bind (f_114 N a P) fun P5 => f_13_47 N N (0 : Int32) P5) (fun r => (match bookS (g.B, n) g.W.pe with
    | (B, .inl _) => r.1 = iN B.1 ∧ RREL (gBook g B) r.2
    | (_, .inr f) => r.1 = iN f.1 - 10 ∧ RREL (gFail g (iN f.2)) r.2) ∧ r.2.1 72 0 = 0 ∧ fr sRR P r.2) := by
  have okT : okT (g.B, n) := ⟨by show n ≤ 600; omega, ok.1⟩
  have h8 := ok.2.2.1.1.1
  rw [hn]
  refine TT_bind (r_start h ok (by omega) hN) (fun P1 h1 => ?_)
  obtain ⟨s1, s2, s3, s4, s5, s6⟩ := h1
  have hpe1 : P1.1 76 0 = iN g.W.pe := (s6.1 76 0 (by omega)).trans h.2.2.2.1.pe
  refine r_bookL (pe := g.W.pe) okT h8 hN 10 0 bk0 (.inl (sk (g.B, n) 0)) P1 N 0 (by decide) (by omega) (fun q e => by cases e; exact ⟨rfl, by decide, s2, rfl⟩) ⟨s1, fun q e i hi => absurd hi (Nat.not_lt_zero i)⟩ hpe1 (fun q e => bk0_ok) (fun P3 x2 h3 hx2 h4 => ?_)
  have hl := fun (q : Nat) (e : (bookS (g.B, n) g.W.pe).2 = .inl q) => bookS_ok e
  rw [show bkL (g.B, n) g.W.pe 10 bk0 (.inl (sk (g.B, n) 0)) = bookS (g.B, n) g.W.pe from rfl] at h3 hx2
  have hf : fr (fun b j => (b = 72 ∧ (j = 1 ∨ j = 2 ∨ j = 4 ∨ j = 5 ∨ j = 6 ∨ j = 7 ∨ j = 8)) ∨ (436 ≤ b ∧ b < 444)) P P3 := (s6.mono (fun b j e => Or.inl e)).tr (h4.mono (fun b j e => by unfold sBr sTr at e; omega))
  have e1 : P3.1 72 1 = 0 := (h4.1 72 1 (by unfold sBr sTr; omega)).trans s3
  cases hx : bookS (g.B, n) g.W.pe with
  | mk B s =>
    rw [hx] at h3 hx2 hl
    have := r_bookDo (x2 := x2) h ok h0 hf e1 h3 hx2 hl hN
    cases s with
    | inl q => exact this
    | inr f => exact this
theorem k_book (h : CREL g P) (ok : GOK g) (a : Int32) (hN : 70000 ≤ N) : CallI g P (f_12_1 N a P) (f_13 N a) := by
  unfold CallI f_12_1 f_13
  by_cases hb : isBad a 150 g.F
  · refine ⟨1, 0, gRf g 1, by decide, gRf_ok ok, h2_thr (E := 1) (c_badT (m := 150) h hb rfl) (fun P1 => rfl) (by decide), fun P1 h1 => ?_⟩
    obtain ⟨t1, t2, t3⟩ := r_t0 h1 ok
    refine TT_lt ?_
    rw [r_need t1, Option.bind_some]
    have fin : TT (f_13_30 N a 1 (ab_pI P1 72 0 0)) (RA (gRf g 1) P1 1 0) := by
      unfold f_13_30
      refine TT_b2 (r_badT (a := 1) (x := 1) (by decide) (by decide) (by decide) t1 ok t2) (fun v1 P2 hv => ?_)
      obtain ⟨b1, b2, b3, b4⟩ := hv
      dsimp only at b1 b2 b3 b4
      rw [b1, if_neg (by decide)]
      exact TT_some ⟨fun e => absurd e (by decide), b2, b3, t3.tr b4⟩
    by_cases h2 : a < 0 ∨ iN g.F < a
    · rw [if_pos (bI_nd h2)]
      exact fin
    · have h3 : iN 150 < a := by
        rcases (bad_lt a).mp hb with e | e
        · exact absurd e h2
        · exact e
      rw [if_neg (bI_nn h2), if_pos (show (150 : Int32) < a from h3)]
      exact fin
  · obtain ⟨n, hn6, hnF, hn⟩ := need_of ok.2.1 (by decide) hb
    have hc := c_book1 h ok hb hn hn6 hN
    have hr : ∀ P1, RREL g P1 → TT (ab_lt (ab_pI P1 72 0 (0 : Int32)) fun P1 => Option.bind (f_112 P1 a (0 : Int32) (P1.1 72 1)) fun v2 => if v2 = (0 : Int32) then f_13_30 N a (1 : Int32) P1 else if (150 : Int32) < a then f_13_30 N a (1 : Int32) P1 else f_13_30 N a (0 : Int32) P1) (fun r => (match bookS (g.B, n) g.W.pe with
        | (B, .inl _) => r.1 = iN B.1 ∧ RREL (gBook g B) r.2
        | (_, .inr f) => r.1 = iN f.1 - 10 ∧ RREL (gFail g (iN f.2)) r.2) ∧ r.2.1 72 0 = 0 ∧ fr sRR P1 r.2) := fun P1 h1 => by
      obtain ⟨t1, t2, t3⟩ := r_t0 h1 ok
      refine TT_lt ?_
      rw [r_need t1, Option.bind_some, if_neg (bI_nn (fun e => hb ((bad_lt a).mpr (Or.inl e)))), if_neg (show ¬ (150 : Int32) < a from fun e => hb ((bad_lt a).mpr (Or.inr e)))]
      unfold f_13_30
      rw [r_bad0 _ _ _ t2, b2_some, if_pos rfl]
      exact (r_book1 t1 ok t2 hn hn6 hN).mono (fun r hr => ⟨hr.1, hr.2.1, t3.tr hr.2.2⟩)
    have hl := fun (q : Nat) (e : (bookS (g.B, n) g.W.pe).2 = .inl q) => bookS_ok e
    cases hx : bookS (g.B, n) g.W.pe with
    | mk B s =>
      rw [hx] at hc hr hl
      cases s with
      | inl q => exact ⟨0, _, gBook g B, by decide, gBook_ok ok (hl q rfl), h2_put (c_fin1 (hc.mono (fun r hr => ⟨hr.1.1, hr.1.2, hr.2⟩))), fun P1 h1 => (hr P1 h1).mono (fun r hr => ⟨fun _ => congrArg Int32.toInt64 hr.1.1, hr.2.1, hr.1.2, hr.2.2⟩)⟩
      | inr f => exact ⟨0, _, gFail g (iN f.2), by decide, gFail_ok ok, h2_put (c_fin1 (hc.mono (fun r hr => ⟨hr.1.1, hr.1.2, hr.2⟩))), fun P1 h1 => (hr P1 h1).mono (fun r hr => ⟨fun _ => congrArg Int32.toInt64 hr.1.1, hr.2.1, hr.1.2, hr.2.2⟩)⟩
end BB
