/-! the world's first state: what either side holds -/
section ST0
variable {P : ab_P} {N : Nat}
def sSt0 (b j : Nat) : Prop := b = 76 ∨ b = 477 ∨ (b = 72 ∧ (j = 16 ∨ j = 29 ∨ j = 30 ∨ j = 31 ∨ j = 32))
theorem r_made (h0 : P.1 75 0 = 0) (h1 : P.1 75 1 = 0) (hN : 70000 ≤ N) : TT (f_108 N P) (fun q => (∀ j, j < 4 → q.1 76 j = P.1 75 j) ∧ (∀ j, j < 366 → q.1 477 j = 0) ∧ q.1 72 16 = 0 ∧ q.1 72 29 = 0 ∧ q.1 72 30 = 0 ∧ q.1 72 31 = 0 ∧ q.1 72 32 = 0 ∧ fr sSt0 P q) := by
  unfold f_108
  refine upC (fun n k (s : ab_P) => f_108_2 N n (iN k) s) 4 (fun k s => (∀ j, j < k → s.1 76 j = P.1 75 j) ∧ fr (fun b _ => b = 76) P s) _ (fun n k P1 hk hi hC => ?_) (fun n P1 hi => ?_) N P ⟨fun j hj => absurd hj (Nat.not_lt_zero j), fr.rf⟩ (by omega)
  · obtain ⟨e1, e2⟩ := hi
    show TT (f_108_2 N (n + 1) (iN k) P1) _
    unfold f_108_2
    have hg : ab_gi (iN k) 4 := iN_gi hk (by decide)
    rw [if_pos (by rw [iN_ltl (by omega) (by decide)]; exact hk), if_pos hg, if_pos hg, iN_nat (by omega), iN_succ]
    refine TT_lt (hC _ ⟨fun j hj => ?_, e2.tr (fr.I rfl)⟩)
    rw [pI_at]
    by_cases e : j = k
    · rw [if_pos ⟨rfl, e⟩, e]
      exact e2.1 75 k (show ¬ (75 : Nat) = 76 by decide)
    · rw [if_neg (fun e9 => e e9.2)]
      exact e1 j (by omega)
  · obtain ⟨e1, e2⟩ := hi
    show TT (f_108_2 N (n + 1) (iN 4) P1) _
    unfold f_108_2
    rw [if_neg (by decide)]
    obtain ⟨M, rfl⟩ : ∃ z, N = z + 1 := ⟨N - 1, by omega⟩
    have z0 : P1.1 76 0 = 0 := (e1 0 (by decide)).trans h0
    have z1 : P1.1 76 1 = 0 := (e1 1 (by decide)).trans h1
    unfold f_108_27
    rw [z0, if_neg (by decide)]
    refine upC (fun n k (s : ab_P) => f_108_57 (M + 1) n (iN k) s) 366 (fun k s => (∀ j, j < k → s.1 477 j = 0) ∧ fr (fun b _ => b = 477) P1 s) _ (fun n k P2 hk hi hC => ?_) (fun n P2 hi => ?_) (M + 1) P1 ⟨fun j hj => absurd hj (Nat.not_lt_zero j), fr.rf⟩ (by omega)
    · obtain ⟨i1, i2⟩ := hi
      show TT (f_108_57 (M + 1) (n + 1) (iN k) P2) _
      unfold f_108_57
      rw [if_pos (by rw [iN_ltl (by omega) (by decide)]; exact hk), if_pos (iN_gi hk (by decide)), iN_nat (by omega), iN_succ]
      refine TT_lt (hC _ ⟨fun j hj => ?_, i2.tr (fr.I rfl)⟩)
      rw [pI_at]
      by_cases e : j = k
      · rw [if_pos ⟨rfl, e⟩]
      · rw [if_neg (fun e9 => e e9.2)]
        exact i1 j (by omega)
    · obtain ⟨i1, i2⟩ := hi
      show TT (f_108_57 (M + 1) (n + 1) (iN 366) P2) _
      unfold f_108_57
      rw [if_neg (by decide)]
      unfold f_108_79
      rw [(i2.1 76 1 (by decide)).trans z1, if_neg (by decide)]
      refine TT_lt (TT_lt (TT_lt (TT_lt (TT_lt (TT_some ⟨fun j hj => ?_, fun j hj => ?_, ?_, ?_, ?_, ?_, ?_, ?_⟩)))))
      · rw [pI_ne (by decide), pI_ne (by decide), pI_ne (by decide), pI_ne (by decide), pI_ne (by decide)]
        exact (i2.1 76 j (show ¬ (76 : Nat) = 477 by decide)).trans (e1 j hj)
      · rw [pI_ne (by decide), pI_ne (by decide), pI_ne (by decide), pI_ne (by decide), pI_ne (by decide)]
        exact i1 j hj
      · rw [pI_nj (by decide), pI_nj (by decide), pI_nj (by decide), pI_nj (by decide), pI_eq]
      · rw [pI_nj (by decide), pI_nj (by decide), pI_nj (by decide), pI_eq]
      · rw [pI_nj (by decide), pI_nj (by decide), pI_eq]
      · rw [pI_nj (by decide), pI_eq]
      · rw [pI_eq]
      · exact ((((((e2.mono (fun b j e => Or.inl e)).tr (i2.mono (fun b j e => Or.inr (Or.inl e)))).tr (fr.I (by omega))).tr (fr.I (by omega))).tr (fr.I (by omega))).tr (fr.I (by omega))).tr (fr.I (by omega))
end ST0
theorem m_75 : pM1.1 75 0 = 0 ∧ pM1.1 75 1 = 0 ∧ pM1.1 75 2 = 10 ∧ pM1.1 75 3 = 30 := by decide +kernel
theorem m_c1 : pM1.1 1 1 = 0 ∧ pM1.1 1 6 = -1 ∧ pM1.1 43 2 = 0 ∧ pM1.1 43 3 = 0 ∧ pM1.1 15 1 = 7 ∧ pM1.1 3 5 = 0 ∧ pM1.1 3 7 = 10 ∧ pM1.1 46 5 = 30 ∧ pM1.1 65 1 = 0 ∧ pM1.1 65 6 = 0 ∧ pM1.1 21 2 = 0 ∧ pM1.1 52 6 = 0 ∧ pM1.1 72 1 = 0 ∧ pM1.1 72 3 = -1 := by decide +kernel
theorem m_c2 : (∀ j, j < 5 → pM1.1 45 j = 0) ∧ (∀ k, k < 7 → pM1.1 16 k = ab_wo k) ∧ (∀ j, j < 3 → pM1.1 71 j = 0) ∧ ∀ j, j < 3 → pM1.1 74 j = 0 := by decide +kernel
theorem m_2 (j : Nat) : pM1.1 2 j = 0 := rfl
theorem m_73 (j : Nat) : pM1.1 73 j = 0 := rfl
def g0 : GS := (fun _ => 0, 0, -1, (L00, wLaw, fun _ => 0, 0, 10, 30), ((0, fun _ => L00), (0, fun _ => (0, 0, L00, fun _ => L00))), (0, fun _ => 0, fun _ => 0), 0, fun _ => 0)
theorem g0_ok : GOK g0 := ⟨fun j => (by decide : (0 : Nat) < 256), Nat.zero_le _, ⟨⟨Nat.zero_le _, fun k hk => absurd hk (Nat.not_lt_zero k)⟩, wLaw_WF, (by decide : (10 : Nat) ≤ 50)⟩, ⟨Nat.zero_le _, Nat.zero_le _, fun j hj => absurd hj (Nat.not_lt_zero j), fun m hm => absurd hm (Nat.not_lt_zero m)⟩, ⟨Nat.zero_le _, fun i hi => absurd hi (Nat.not_lt_zero i)⟩⟩
/-- the world as it is when the law's loop begins -/
theorem first_ok {N : Nat} (hN : 70000 ≤ N) : ∃ Ia La, f_108 N pM1 = some (Ia, La, fun _ _ => none, mS_2 wS1, 570, mc_2 wc1, ms_2 ws1) ∧ CREL g0 (pW Ia La) ∧ RREL g0 (pW Ia La) := by
  obtain ⟨⟨Ia, La, rest⟩, e, h1, h2, h3, h4, h5, h6, h7, h8⟩ := r_made (P := pM1) m_75.1 m_75.2.1 hN
  have hr : rest = (fun _ _ => none, mS_2 wS1, 570, mc_2 wc1, ms_2 ws1) := h8.2.2
  subst hr
  refine ⟨Ia, La, e, ?_⟩
  dsimp only at h1 h2 h3 h4 h5 h6 h7
  have k0 : ∀ b j, b ≠ 570 → (pW Ia La).1 b j = Ia b j := fun b j hb => congrFun (if_neg hb : (if b = 570 then (fun _ => (0 : Int32)) else Ia b) = Ia b) j
  have k1 : ∀ b j, b ≠ 570 → ¬ sSt0 b j → (pW Ia La).1 b j = pM1.1 b j := fun b j hb hs => (k0 b j hb).trans (h8.1 b j hs)
  have kc : ∀ b j, b < 72 → (pW Ia La).1 b j = pM1.1 b j := fun b j hb => k1 b j (by omega) (by unfold sSt0; omega)
  obtain ⟨c1, c2, c3, c4, c5, c6, c7, c8, c9, c10, c11, c12, c13, c14⟩ := m_c1
  obtain ⟨d1, d2, d3, d4⟩ := m_c2
  have hn : nxt (pW Ia La) = 571 := by
    unfold pW
    dsimp only
  constructor
  · refine ⟨(kc 1 1 (by decide)).trans c1, fun j hj => ?_, (kc 1 6 (by decide)).trans c2, ⟨⟨Nat.zero_le _, (kc 43 2 (by decide)).trans c3, (kc 43 3 (by decide)).trans c4, fun j j1 j5 => (kc 45 j (by decide)).trans (d1 j j5), fun f hf k hk => absurd hk (Nat.not_lt_zero k)⟩, ⟨(by decide : (7 : Nat) ≤ 150), (kc 15 1 (by decide)).trans c5, fun k hk => (kc 16 k (by decide)).trans ((d2 k hk).trans (wo_enc k hk))⟩, fun p hp => absurd hp (Nat.not_lt_zero p), (kc 3 5 (by decide)).trans c6, (kc 3 7 (by decide)).trans c7, (kc 46 5 (by decide)).trans c8⟩, ⟨⟨fun s j q hs hq => (by cases hq), fun s j s' j' q hs hs' hq => (by cases hq), (by rw [hn]; exact Nat.le_refl _), (by rw [hn])⟩, (kc 65 1 (by decide)).trans c9, (kc 65 6 (by decide)).trans c10, fun j hj => absurd hj (Nat.not_lt_zero j), fun m hm => absurd hm (Nat.not_lt_zero m)⟩, ⟨(kc 21 2 (by decide)).trans c11, fun i hi => absurd hi (Nat.not_lt_zero i)⟩, (kc 52 6 (by decide)).trans c12, fun j hj => (kc 71 j (by decide)).trans (d3 j hj)⟩
    rw [kc 2 j (by decide), m_2]
    exact (by decide : (0 : Int32) &&& (255 : Int32) = iN 0)
  · refine ⟨(k1 72 1 (by decide) (by unfold sSt0; omega)).trans c13, fun j hj => (k1 73 j (by decide) (by unfold sSt0; omega)).trans (m_73 j), (k1 72 3 (by decide) (by unfold sSt0; omega)).trans c14, ⟨⟨Nat.zero_le _, (k0 477 360 (by decide)).trans (h2 360 (by decide)), (k0 477 361 (by decide)).trans (h2 361 (by decide)), fun j j1 j5 => (k0 477 (361 + j) (by decide)).trans (h2 (361 + j) (by omega)), fun f hf k hk => absurd hk (Nat.not_lt_zero k)⟩, Or.inr ⟨(k0 72 16 (by decide)).trans h3, rfl⟩, fun p hp => absurd hp (Nat.not_lt_zero p), (k0 76 0 (by decide)).trans ((h1 0 (by decide)).trans m_75.1), (k0 76 2 (by decide)).trans ((h1 2 (by decide)).trans m_75.2.2.1), (k0 76 3 (by decide)).trans ((h1 3 (by decide)).trans m_75.2.2.2)⟩, ⟨(k0 72 30 (by decide)).trans h5, (k0 72 32 (by decide)).trans h7, fun j hj => absurd hj (Nat.not_lt_zero j), fun m hm => absurd hm (Nat.not_lt_zero m)⟩, ⟨(k0 72 29 (by decide)).trans h4, fun i hi => absurd hi (Nat.not_lt_zero i)⟩, (k0 72 31 (by decide)).trans h6, fun j hj => (k1 74 j (by decide) (by unfold sSt0; omega)).trans (d4 j hj)⟩
theorem m_room : mc_2 wc1 + 1 + 64 * 512 ≤ 601024 ∧ ms_2 ws1 + 1 + 7760 * 512 ≤ 7293034 := by decide +kernel
/-- the law's whole run: it gives 1 -/
theorem law_run {xs : Nat × (Nat → Int32)} (hL : xs.1 ≤ 4096) {d K N : Nat} (hK : 20 ≤ K) (hN : 70000 ≤ N) (hd : 3 * K ≤ d) : ∃ (f : Nat) (M' : ab_M), ab_big ab_pg xs f (d + 10) 0 0 [] [.inr (31, xs.1, 0, 0), ab_top, ab_top, ab_top, ab_top, ab_top, ab_top, ab_top] [] (iz0, lz0, hR [], sz0, 0, 0, 0) (iI 1) M' ∧ M'.2.2.2.2.2.1 ≤ 601024 ∧ M'.2.2.2.2.2.2 ≤ 7293034 := by
  obtain ⟨Ia, La, e, hC, hR1⟩ := first_ok hN
  obtain ⟨⟨v, P⟩, e2, r1, r2, r3⟩ := lawLoop hL hK hN 512 0 N g0 (pW Ia La) rfl (by omega) g0_ok hC hR1
  dsimp only at r1 r2 r3
  subst r1
  obtain ⟨f, hf⟩ := n_0 e hd e2
  have hm := m_room
  exact ⟨f, _, hf, Nat.le_trans r2 hm.1, Nat.le_trans r3 hm.2⟩
