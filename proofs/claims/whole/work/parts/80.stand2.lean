/-! a town stands: the reference; the call -/
section SR
variable {g : GS} {T : TX} {D : TD} {P : ab_P} {N n m : Nat} {s : RS} {Q : Int32 × ab_P → Prop}
/-- what the reference's town is made into -/
def sSt (b j : Nat) : Prop := (b = 76 ∧ j < 4) ∨ b = 78 ∨ b = 477 ∨ (b = 72 ∧ (j = 16 ∨ j = 29 ∨ j = 30 ∨ j = 31 ∨ j = 32))
theorem r_stands (hd : RTd D P) (ok : okD D) (hN : 70000 ≤ N) : TT (f_108 N P) (fun r => RW (tnW D) r ∧ r.1 76 1 = iN D.2.2.1 ∧ r.1 72 29 = 0 ∧ r.1 72 30 = 0 ∧ r.1 72 31 = 0 ∧ r.1 72 32 = 0 ∧ fr sSt P r) := by
  have o1 := ok.1
  have o2 := ok.2.1
  unfold f_108
  -- four numbers
  refine upC (fun n k (s : ab_P) => f_108_2 N n (iN k) s) 4 (fun k s => (∀ j, j < k → s.1 76 j = P.1 75 j) ∧ fr sSt P s) _ (fun n k P1 hk hi hK => ?_) (fun n P1 hi => ?_) N P ⟨fun j hj => absurd hj (Nat.not_lt_zero j), fr.rf⟩ (by omega)
  · obtain ⟨e1, e2⟩ := hi
    show TT (f_108_2 N (n + 1) (iN k) P1) _
    unfold f_108_2
    rw [if_pos (by rw [iN_ltl (by omega) (by decide)]; exact hk), if_pos (iN_gi hk (by decide)), if_pos (iN_gi hk (by decide)), iN_nat (by omega), iN_succ]
    refine TT_lt (hK _ ⟨fun j hj => ?_, e2.tr (fr.I (Or.inl ⟨rfl, hk⟩))⟩)
    rw [pI_at]
    by_cases ej : j = k
    · rw [if_pos ⟨rfl, ej⟩, ej]
      exact e2.1 75 k (by unfold sSt; omega)
    · rw [if_neg (fun e => ej e.2)]
      exact e1 j (by omega)
  obtain ⟨a1, a2⟩ := hi
  show TT (f_108_2 N (n + 1) (iN 4) P1) _
  unfold f_108_2
  rw [if_neg (by decide)]
  have p760 : P1.1 76 0 = iN D.1 := (a1 0 (by decide)).trans hd.1
  have p761 : P1.1 76 1 = iN D.2.2.1 := (a1 1 (by decide)).trans hd.2.1
  have p762 : P1.1 76 2 = iN D.2.2.2.2.1 := (a1 2 (by decide)).trans hd.2.2.1
  have p763 : P1.1 76 3 = iN D.2.2.2.2.2 := (a1 3 (by decide)).trans hd.2.2.2.1
  clear a1
  -- tempers
  refine upC (fun n k (s : ab_P) => f_108_27 N n (iN k) s) D.1 (fun k s => (∀ j, j < k → s.1 78 j = iN (D.2.1 j)) ∧ (∀ j, s.1 76 j = P1.1 76 j) ∧ fr sSt P s) _ (fun n k P2 hk hi hK => ?_) (fun n P2 hi => ?_) N P1 ⟨fun j hj => absurd hj (Nat.not_lt_zero j), fun j => rfl, a2⟩ (by omega)
  · obtain ⟨e1, e2, e3⟩ := hi
    show TT (f_108_27 N (n + 1) (iN k) P2) _
    unfold f_108_27
    rw [e2, p760, if_pos (by rw [iN_lt (by omega) (by omega)]; exact hk), if_pos (iN_gi (by omega) (by decide)), if_pos (iN_gi (by omega) (by decide)), iN_nat (by omega), iN_succ]
    refine TT_lt (hK _ ⟨fun j hj => ?_, fun j => by rw [pI_ne (by decide)]; exact e2 j, e3.tr (fr.I (by unfold sSt; omega))⟩)
    rw [pI_at]
    by_cases ej : j = k
    · rw [if_pos ⟨rfl, ej⟩, ej, e3.1 77 k (by unfold sSt; omega)]
      exact hd.2.2.2.2.1 k hk
    · rw [if_neg (fun e => ej e.2)]
      exact e1 j (by omega)
  obtain ⟨b1, b2, b3⟩ := hi
  show TT (f_108_27 N (n + 1) (iN D.1) P2) _
  unfold f_108_27
  rw [b2, p760, if_neg (by rw [iN_lt (by omega) (by omega)]; omega)]
  rw [← b2] at p760 p761 p762 p763
  clear b2 a2
  -- an empty row
  refine upC (fun n k (s : ab_P) => f_108_57 N n (iN k) s) 366 (fun k s => (∀ j, j < k → s.1 477 j = 0) ∧ (∀ b j, b = 76 ∨ b = 78 → s.1 b j = P2.1 b j) ∧ fr sSt P s) _ (fun n k P3 hk hi hK => ?_) (fun n P3 hi => ?_) N P2 ⟨fun j hj => absurd hj (Nat.not_lt_zero j), fun b j _ => rfl, b3⟩ (by omega)
  · obtain ⟨e1, e2, e3⟩ := hi
    show TT (f_108_57 N (n + 1) (iN k) P3) _
    unfold f_108_57
    rw [if_pos (by rw [iN_ltl (by omega) (by decide)]; exact hk), if_pos (iN_gi hk (by decide)), iN_nat (by omega), iN_succ]
    refine TT_lt (hK _ ⟨fun j hj => ?_, fun b j hb => by rw [pI_ne (by omega)]; exact e2 b j hb, e3.tr (fr.I (by unfold sSt; omega))⟩)
    rw [pI_at]
    split
    · rfl
    · exact e1 j (by omega)
  obtain ⟨c1, c2, c3⟩ := hi
  show TT (f_108_57 N (n + 1) (iN 366) P3) _
  unfold f_108_57
  rw [if_neg (by decide)]
  rw [← c2 76 0 (Or.inl rfl)] at p760
  rw [← c2 76 1 (Or.inl rfl)] at p761
  rw [← c2 76 2 (Or.inl rfl)] at p762
  rw [← c2 76 3 (Or.inl rfl)] at p763
  have b1' : ∀ j, j < D.1 → P3.1 78 j = iN (D.2.1 j) := fun j hj => (c2 78 j (Or.inr rfl)).trans (b1 j hj)
  clear c2 b3 b1
  have h00 : RL 477 L00 P3 := ⟨by decide, c1 360 (by decide), c1 361 (by decide), fun j _ hj => c1 (361 + j) (by omega), fun f _ k hk => absurd hk (Nat.not_lt_zero k)⟩
  -- the claims
  refine upC (fun n k (s : ab_P) => f_108_79 n (iN k) s) D.2.2.1 (fun k s => RL 477 (tnLed D k) s ∧ (∀ b j, b ≠ 477 → s.1 b j = P3.1 b j) ∧ fr sSt P s) _ (fun n k P4 hk hi hK => ?_) (fun n P4 hi => ?_) N P3 ⟨h00, fun b j _ => rfl, c3⟩ (by omega)
  · obtain ⟨e1, e2, e3⟩ := hi
    obtain ⟨a1, a2, a3, a4⟩ := hd.2.2.2.2.2 k hk
    have r0 : ∀ x, P4.1 (79 + 1 + k) x = P.1 (80 + k) x := fun x => e3.1 (79 + 1 + k) x (by unfold sSt; omega)
    show TT (f_108_79 (n + 1) (iN k) P4) _
    unfold f_108_79
    rw [e2 76 1 (by decide), p761, if_pos (by rw [iN_lt (by omega) (by omega)]; exact hk), if_pos (iN_gi (by omega) (by decide)), if_pos (iN_gi (by omega) (by decide)), if_pos (iN_gi (by omega) (by decide)), if_pos (iN_gi (by omega) (by decide)), iN_nat (by omega), iN_succ, r0, r0, r0, r0, a1, a2, a3, a4]
    exact TT_b2 (r_add e1 _ _ _ _) (fun v P5 hv => hK P5 ⟨hv.2.1, fun b j hb => (hv.2.2.1 b j (by unfold sE; exact hb)).trans (e2 b j hb), e3.tr (hv.2.2.mono (fun b j e => by unfold sE at e; unfold sSt; omega))⟩)
  obtain ⟨d1, d2, d3⟩ := hi
  show TT (f_108_79 (n + 1) (iN D.2.2.1) P4) _
  unfold f_108_79
  rw [d2 76 1 (by decide), p761, if_neg (by rw [iN_lt (by omega) (by omega)]; omega)]
  refine TT_lt (TT_lt (TT_lt (TT_lt (TT_lt (TT_some ⟨⟨?_, Or.inr ⟨?_, rfl⟩, fun p hp => ?_, ?_, ?_, ?_⟩, ?_, ?_, ?_, ?_, ?_, ?_⟩)))))
  · exact RL_keep d1 (fun j => by rw [pI_ne (by decide), pI_ne (by decide), pI_ne (by decide), pI_ne (by decide), pI_ne (by decide)])
  · rw [pI_nj (by decide), pI_nj (by decide), pI_nj (by decide), pI_nj (by decide), pI_eq]
  · rw [pI_ne (by decide), pI_ne (by decide), pI_ne (by decide), pI_ne (by decide), pI_ne (by decide), d2 78 p (by decide)]
    exact b1' p hp
  · rw [pI_ne (by decide), pI_ne (by decide), pI_ne (by decide), pI_ne (by decide), pI_ne (by decide), d2 76 0 (by decide)]
    exact p760
  · rw [pI_ne (by decide), pI_ne (by decide), pI_ne (by decide), pI_ne (by decide), pI_ne (by decide), d2 76 2 (by decide)]
    exact p762
  · rw [pI_ne (by decide), pI_ne (by decide), pI_ne (by decide), pI_ne (by decide), pI_ne (by decide), d2 76 3 (by decide)]
    exact p763
  · rw [pI_ne (by decide), pI_ne (by decide), pI_ne (by decide), pI_ne (by decide), pI_ne (by decide), d2 76 1 (by decide)]
    exact p761
  · rw [pI_nj (by decide), pI_nj (by decide), pI_nj (by decide), pI_eq]
  · rw [pI_nj (by decide), pI_nj (by decide), pI_eq]
  · rw [pI_nj (by decide), pI_eq]
  · rw [pI_eq]
  · exact d3.tr (((((fr.I (by unfold sSt; omega)).tr (fr.I (by unfold sSt; omega))).tr (fr.I (by unfold sSt; omega))).tr (fr.I (by unfold sSt; omega))).tr (fr.I (by unfold sSt; omega)))
/-! the call: the component -/
def isBad (a : Int32) (m F : Nat) : Prop := a < 0 ∨ iN m < a ∨ iN F < a
theorem CREL.xI {v : Int32} {P1 : ab_P} (h : P1.1 1 5 = v) : (P1.1 1 5) - (10 : Int32) = v - 10 := by rw [h]
def kT (s : RS) : Int32 := match s with
  | .inl _ => 0
  | .inr f => iN f.1 - 10
theorem c_town (h : CREL g P) (ok : GOK g) {a : Int32} (hb : ¬ isBad a 600 g.F) (hn : a = iN n) (hn6 : n ≤ 600) (hN : 70000 ≤ N) : TT (f_111 N a P) (fun r => (match townS (g.B, n) with
    | (D, .inl _) => r.1 = .inl (iN D.2.2.1) ∧ CREL (gTown g D) r.2
    | (_, .inr f) => r.1 = .inl (iN f.1 - 10) ∧ CREL (gFail g (iN f.2)) r.2) ∧ fr sCC P r.2) := by
  have okT : okT (g.B, n) := ⟨hn6, ok.1⟩
  unfold f_111
  rw [show f_198 a 600 P = _ from c_need h a 600, if_neg (show ¬ (a < 0 ∨ iN 600 < a ∨ iN g.F < a) from hb), x2_some, hn]
  refine TT_bind (c_start h ok hn6) (fun P1 h1 => ?_)
  refine TT_bind (c_townR h1.1 okT hN) (fun P2 h2 => ?_)
  have hf : fr (fun b _ => b = 1 ∨ (9 ≤ b ∧ b ≤ 14)) P P2 := (h1.2.2.mono (fun b j e => Or.inl e)).tr (h2.2.mono (fun b j e => by unfold sTn sTp at e; omega))
  have e11 : P2.1 1 1 = 0 := (h2.2.1 1 1 (by unfold sTn sTp; omega)).trans h1.2.1
  have hk : ∀ b j, kCR b j → b ≠ 1 → P2.1 b j = P.1 b j := fun b j hb h1 => hf.1 b j (by
    have := kCR_sc hb
    unfold scC at this
    omega)
  have hc := h2.1.1
  have hT := h2.1.2
  rw [c_isF hc, Option.bind_some]
  cases hx : townS (g.B, n) with
  | mk D s =>
    rw [hx] at hc hT
    dsimp only at hc hT ⊢
    have hfC : fr sCC P P2 := hf.mono (fun b j e => by unfold sCC; omega)
    cases s with
    | inr f =>
      rw [if_neg (show ¬ bI (isF (.inr f)) = 0 from (by decide : ¬ bI true = 0))]
      refine TT_some ⟨⟨by rw [hc.2.1], h.text hf.2.2 hk e11 hc.2.2.2.2⟩, hfC⟩
    | inl q =>
      rw [if_pos (show bI (isF (.inl q)) = 0 from rfl)]
      have hD : okD D := by
        have := tnL_ok (T := (g.B, n)) (c := 62) (i := 0) (s := .inl (sk (g.B, n) 0)) (q' := q) td0_ok (by show (townS (g.B, n)).2 = _; rw [hx])
        rw [show tnL (g.B, n) 62 0 td0 (.inl (sk (g.B, n) 0)) = townS (g.B, n) from rfl, hx] at this
        exact this
      have hk1 := h.text (F' := 0) (pl' := -1) hf.2.2 hk e11 hc.2.2.1
      exact (c_tstand hk1 (hT q rfl) hD e11 hc.2.2.1 hN).mono (fun r hr => ⟨⟨hr.1, hr.2.1⟩, hfC.tr hr.2.2⟩)
theorem r_town (h : RREL g P) (ok : GOK g) (h0 : P.1 72 0 = 0) {a : Int32} (hn : a = iN n) (hn6 : n ≤ 600) (hN : 70000 ≤ N) : TT (f_6_33 N a P) (fun r => (match townS (g.B, n) with
    | (D, .inl _) => r.1 = iN D.2.2.1 ∧ RREL (gTown g D) r.2
    | (_, .inr f) => r.1 = iN f.1 - 10 ∧ RREL (gFail g (iN f.2)) r.2) ∧ r.2.1 72 0 = 0 ∧ fr sRR P r.2) := by
  have okT : okT (g.B, n) := ⟨hn6, ok.1⟩
  have hs6 := hn6
  unfold f_6_33
  rw [hn]
  refine TT_bind (r_start h ok hn6 hN) (fun P1 h1 => ?_)
  obtain ⟨s1, s2, s3, s4, s5, s6⟩ := h1
  unfold f_107
  refine TT_lt (TT_lt (TT_lt (TT_lt ?_)))
  have hX : fr (fun b j => b = 75) P1 (ab_pI (ab_pI (ab_pI (ab_pI P1 75 0 0) 75 1 0) 75 2 10) 75 3 30) := (((fr.I (by rfl)).tr (fr.I (by rfl))).tr (fr.I (by rfl))).tr (fr.I (by rfl))
  have d0 : RTd td0 (ab_pI (ab_pI (ab_pI (ab_pI P1 75 0 0) 75 1 0) 75 2 10) 75 3 30) := by
    refine ⟨?_, ?_, ?_, ?_, fun j hj => absurd hj (Nat.not_lt_zero j), fun j hj => absurd hj (Nat.not_lt_zero j)⟩
    · rw [pI_nj (by decide), pI_nj (by decide), pI_nj (by decide), pI_eq]; rfl
    · rw [pI_nj (by decide), pI_nj (by decide), pI_eq]; rfl
    · rw [pI_nj (by decide), pI_eq]; rfl
    · rw [pI_eq]; rfl
  generalize ab_pI (ab_pI (ab_pI (ab_pI P1 75 0 0) 75 1 0) 75 2 10) 75 3 30 = P2 at hX d0 ⊢
  have g2 : RR (g.B, n) (.inl (sk (g.B, n) 0)) P2 := s1.keep (fun b j hb => hX.1 b j (by unfold kTr at hb; omega))
  refine r_clauses okT hN 62 0 td0 (.inl (sk (g.B, n) 0)) P2 N (by decide) (by omega) (fun e => absurd e (by decide)) ⟨g2, fun q e => d0⟩ (fun q e => ⟨td0_ok, ?_, ?_⟩) (fun P3 h3 h4 => ?_)
  · cases e
    rw [hX.1 72 4 (by decide)]
    exact s2
  · rw [hX.1 72 7 (by decide)]
    exact s4
  · have hf : fr (fun b j => (b = 72 ∧ (j = 1 ∨ j = 2 ∨ j = 4 ∨ j = 5 ∨ j = 6 ∨ j = 7 ∨ j = 8)) ∨ b = 75 ∨ b = 77 ∨ (80 ≤ b ∧ b < 104)) P P3 := ((s6.mono (fun b j e => Or.inl e)).tr (hX.mono (fun b j e => Or.inr (Or.inl e)))).tr (h4.mono (fun b j e => by unfold sTm sTr at e; omega))
    have e1 : P3.1 72 1 = 0 := by rw [h4.1 72 1 (by unfold sTm sTr; omega), hX.1 72 1 (by decide)]; exact s3
    have e0 : P3.1 72 0 = 0 := (hf.1 72 0 (by omega)).trans h0
    have hk : ∀ b j, kRR b j → ¬ (b = 72 ∧ (j = 1 ∨ j = 3)) → P3.1 b j = P.1 b j := fun b j hb h1 => hf.1 b j (by
      have := kRR_sc hb
      unfold scR at this
      omega)
    have e3 : P3.1 72 3 = P.1 72 3 := hf.1 72 3 (by omega)
    have hc := h3.1
    have hT := h3.2
    rw [show tnL (g.B, n) 62 0 td0 (.inl (sk (g.B, n) 0)) = townS (g.B, n) from rfl] at hc hT
    unfold f_6_71 f_117
    cases hx : townS (g.B, n) with
    | mk D s =>
      rw [hx] at hc hT
      dsimp only at hc hT ⊢
      cases s with
      | inr f =>
        rw [if_neg hc.no]
        refine TT_b2 (Q1 := fun q => q.1 = iN f.1 - 10 ∧ q.2 = ab_pI P3 72 3 (iN f.2)) (TT_lt (TT_some ⟨?_, ?_⟩)) (fun v P4 hv => ?_)
        · show (ab_pI P3 72 3 (P3.1 72 6)).1 72 5 - 10 = _
          rw [pI_nj (by decide), hc.2.1]
        · show ab_pI P3 72 3 (P3.1 72 6) = _
          rw [hc.2.2.2.2.1]
        · obtain ⟨v1, v2⟩ := hv
          dsimp only at v1 v2
          subst v2
          refine TT_some ⟨⟨v1, h.text ok (fun b j hb h9 => by rw [pI_at, if_neg (by omega)]; exact hk b j hb h9) (by rw [pI_nj (by decide)]; exact e1) pI_eq⟩, by rw [pI_nj (by decide)]; exact e0, (hf.mono (fun b j e => by unfold sRR; omega)).tr (fr.I (by unfold sRR; omega))⟩
      | inl q =>
        rw [if_pos hc.ok]
        have hD : okD D := by
          have := tnL_ok (T := (g.B, n)) (c := 62) (i := 0) (s := .inl (sk (g.B, n) 0)) (q' := q) td0_ok (by show (townS (g.B, n)).2 = _; rw [hx])
          rw [show tnL (g.B, n) 62 0 td0 (.inl (sk (g.B, n) 0)) = townS (g.B, n) from rfl, hx] at this
          exact this
        refine TT_lt ?_
        have dd : RTd D (ab_pI P3 72 3 (-1)) := (hT q rfl).keep hD (fun b j hb => by rw [pI_ne (by omega)])
        refine TT_bind (r_stands dd hD hN) (fun P4 h5 => ?_)
        obtain ⟨w1, w2, w3, w4, w5, w6, w7⟩ := h5
        have hk4 : ∀ b j, ¬ sSt b j → ¬ (b = 72 ∧ j = 3) → P4.1 b j = P3.1 b j := fun b j h1 h2 => by rw [w7.1 b j h1, pI_at, if_neg h2]
        obtain ⟨z1, z2, z3, z4, z5, z6, z7, z8⟩ := h
        refine TT_some ⟨⟨w2, ⟨?_, fun j hj => ?_, ?_, w1, ⟨w4, w6, fun j hj => absurd hj (Nat.not_lt_zero j), fun m hm => absurd hm (Nat.not_lt_zero m)⟩, ⟨w3, fun i hi => absurd hi (Nat.not_lt_zero i)⟩, w5, fun j hj => ?_⟩⟩, ?_, ?_⟩
        · exact (hk4 72 1 (by unfold sSt; omega) (by omega)).trans e1
        · rw [hk4 73 j (by unfold sSt; omega) (by omega), hf.1 73 j (by omega)]
          exact z2 j hj
        · show P4.1 72 3 = -1
          rw [w7.1 72 3 (by unfold sSt; omega), pI_eq]
        · show P4.1 74 j = g.rf j
          rw [hk4 74 j (by unfold sSt; omega) (by omega), hf.1 74 j (by omega)]
          exact z8 j hj
        · show P4.1 72 0 = 0
          exact (hk4 72 0 (by unfold sSt; omega) (by omega)).trans e0
        · exact ((hf.mono (fun b j e => by unfold sRR; omega)).tr (fr.I (by unfold sRR; omega))).tr (w7.mono (fun b j e => by unfold sSt at e; unfold sRR; omega))
end SR
