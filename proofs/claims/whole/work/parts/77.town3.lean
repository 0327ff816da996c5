/-! a town's text: the reference -/
def sTk (b j : Nat) : Prop := sTr b j ∨ b = 75 ∨ b = 77 ∨ (80 ≤ b ∧ b < 104)
theorem sTr_k : ∀ b j, sTr b j → sTk b j := fun _ _ h => Or.inl h
theorem sTk_m : ∀ b j, sTk b j → sTm b j := fun b j h => by
  unfold sTk sTr at h
  unfold sTm sTr
  omega
theorem RTd.fr {D : TD} {P P' : ab_P} (h : RTd D P) (ok : okD D) (f : fr sTr P P') : RTd D P' := h.keep ok (fun b j hb => f.1 b j (by unfold sTr; omega))
section TN3
variable {T : TX} {D : TD} {P : ab_P} {N q i k : Nat} {s : RS}
theorem r_semi (h : RR T s P) (ok : okT T) (okd : ∀ q, s = .inl q → okD D) (hd : ∀ q, s = .inl q → RTd D P) (hN : 70000 ≤ N) : TT (f_129 N (59 : Int32) P) (fun r => RTS T (D, sgnS T 59 s) r ∧ fr sTk P r) := by
  refine (r_sign (c := 59) (by decide) h ok hN).mono (fun r hr => ⟨⟨hr.1, fun q' e => ?_⟩, hr.2.mono sTr_k⟩)
  obtain ⟨q, e1⟩ := sgnS_l e
  exact (hd q e1).fr (okd q e1) hr.2
theorem r_person (h : RR T s P) (ok : okT T) (okd : okD D) (hd : RTd D P) (h8 : D.1 < 8) (hN : 70000 ≤ N) : TT (ab_b2 (f_128 N (0 : Int32) (9 : Int32) P) fun v17 P16 => if ab_gi (P.1 75 0) 8 then ab_lt (ab_pI P16 77 ((P.1 75 0)).toNatClampNeg v17) fun P19 => if (P19.1 72 5) = (0 : Int32) then ab_lt (ab_pI P19 75 0 ((P19.1 75 0) + (1 : Int32))) fun P22 => Option.bind (f_129 N (59 : Int32) P22) fun P23 => some P23 else ab_lt (ab_pI P19 75 0 ((P19.1 75 0) + (0 : Int32))) fun P20 => Option.bind (f_129 N (59 : Int32) P20) fun P21 => some P21 else none) (fun r => RTS T (tdP D (numS T 0 10 s).1, sgnS T 59 (numS T 0 10 s).2) r ∧ fr sTk P r) := by
  refine TT_b2 (r_num (lo := 0) (hb := 10) (by decide) (by decide) (by decide) h ok hN) (fun v P1 hv => ?_)
  obtain ⟨b1, b2, b3⟩ := hv
  dsimp only at b1 b2 b3
  have d1 := hd.fr okd b3
  rw [hd.1, if_pos (iN_gi h8 (by decide)), iN_nat (by omega)]
  refine TT_lt ?_
  have g1 : RR T (numS T 0 10 s).2 (ab_pI P1 77 D.1 v) := b1.keep (fun b j hb => by unfold kTr at hb; rw [pI_ne (by omega)])
  have f1 : fr sTk P (ab_pI P1 77 D.1 v) := (b3.mono sTr_k).tr (fr.I (by unfold sTk; omega))
  have e75 : (ab_pI P1 77 D.1 v).1 75 0 = iN D.1 := by rw [pI_ne (by decide)]; exact d1.1
  cases hs : (numS T 0 10 s).2 with
  | inr f =>
    rw [hs] at g1
    rw [if_neg g1.no]
    refine TT_lt ?_
    have g2 : RR T (.inr f) (ab_pI (ab_pI P1 77 D.1 v) 75 0 ((ab_pI P1 77 D.1 v).1 75 0 + 0)) := g1.keep (fun b j hb => by unfold kTr at hb; rw [pI_ne (by omega)])
    refine TT_bind (r_semi (D := tdP D (numS T 0 10 s).1) g2 ok (fun q e => by cases e) (fun q e => by cases e) hN) (fun P2 h2 => TT_some ⟨h2.1, (f1.tr (fr.I (by unfold sTk; omega))).tr h2.2⟩)
  | inl q' =>
    rw [hs] at g1
    rw [if_pos g1.ok]
    refine TT_lt ?_
    have g2 : RR T (.inl q') (ab_pI (ab_pI P1 77 D.1 v) 75 0 ((ab_pI P1 77 D.1 v).1 75 0 + 1)) := g1.keep (fun b j hb => by unfold kTr at hb; rw [pI_ne (by omega)])
    have c1 := b2 q' hs
    obtain ⟨_, _, _, hv9⟩ := numS_l hs
    refine TT_bind (r_semi (D := tdP D (numS T 0 10 s).1) g2 ok (fun q e => td_P okd h8 (by omega)) (fun q e => ?_) hN) (fun P2 h2 => TT_some ⟨h2.1, (f1.tr (fr.I (by unfold sTk; omega))).tr h2.2⟩)
    obtain ⟨h1, h2, h3, h4, h5, h6⟩ := d1
    refine ⟨?_, ?_, ?_, ?_, fun j hj => ?_, fun j hj => ?_⟩
    · rw [pI_eq, e75]
      exact iN_succ _
    · rw [pI_nj (by decide), pI_ne (by decide)]; exact h2
    · rw [pI_nj (by decide), pI_ne (by decide)]; exact h3
    · rw [pI_nj (by decide), pI_ne (by decide)]; exact h4
    · rw [pI_ne (by decide), pI_at]
      show _ = iN (if j = D.1 then _ else D.2.1 j)
      by_cases ej : j = D.1
      · rw [if_pos ⟨rfl, ej⟩, if_pos ej]
        exact c1
      · rw [if_neg (fun e => ej e.2), if_neg ej]
        have hj : j < D.1 + 1 := hj
        exact h5 j (by omega)
    · have h24 := okd.2.1
      have hj : j < D.2.2.1 := hj
      obtain ⟨a1, a2, a3, a4⟩ := h6 j hj
      rw [pI_ne (by omega), pI_ne (by omega), pI_ne (by omega), pI_ne (by omega), pI_ne (by omega), pI_ne (by omega), pI_ne (by omega), pI_ne (by omega)]
      exact ⟨a1, a2, a3, a4⟩
theorem r_put330 {t : Nat} {c : Nat × Nat × Nat} (h : RR T s P) (ok : okT T) (okd : okD D) (hd : RTd D P) (h24 : D.2.2.1 < 24) (hc : ∀ q, s = .inl q → c.1 < D.1 ∧ c.2.1 < D.1 ∧ 1 ≤ c.2.2 ∧ c.2.2 ≤ 999) (ht : t ≤ 1) (hr : ∀ q, s = .inl q → P.1 (80 + D.2.2.1) 0 = iN c.1 ∧ P.1 (80 + D.2.2.1) 1 = iN c.2.1 ∧ P.1 (80 + D.2.2.1) 2 = iN c.2.2) (hN : 70000 ≤ N) : TT (f_115_330 N (79 + 1 + D.2.2.1) (iN t) 3 P) (fun r => RTS T (tdC D (c.1, c.2.1, c.2.2, t), sgnS T 59 s) r ∧ fr sTk P r) := by
  unfold f_115_330
  rw [if_pos (by decide), show (3 : Int32).toNatClampNeg = 3 by decide]
  refine TT_lt ?_
  have g1 : RR T s (ab_pI P (79 + 1 + D.2.2.1) 3 (iN t)) := h.keep (fun b j hb => by unfold kTr at hb; rw [pI_ne (by omega)])
  have f1 : fr sTk P (ab_pI P (79 + 1 + D.2.2.1) 3 (iN t)) := fr.I (by unfold sTk; omega)
  have e75 : (ab_pI P (79 + 1 + D.2.2.1) 3 (iN t)).1 75 1 = iN D.2.2.1 := by rw [pI_ne (by omega)]; exact hd.2.1
  cases s with
  | inr f =>
    rw [if_neg g1.no]
    refine TT_lt ?_
    have g2 : RR T (.inr f) (ab_pI (ab_pI P (79 + 1 + D.2.2.1) 3 (iN t)) 75 1 ((ab_pI P (79 + 1 + D.2.2.1) 3 (iN t)).1 75 1 + 0)) := g1.keep (fun b j hb => by unfold kTr at hb; rw [pI_ne (by omega)])
    exact TT_bind (r_semi (D := tdC D (c.1, c.2.1, c.2.2, t)) g2 ok (fun q e => by cases e) (fun q e => by cases e) hN) (fun P2 h2 => TT_some ⟨h2.1, (f1.tr (fr.I (by unfold sTk; omega))).tr h2.2⟩)
  | inl q' =>
    rw [if_pos g1.ok]
    refine TT_lt ?_
    have g2 : RR T (.inl q') (ab_pI (ab_pI P (79 + 1 + D.2.2.1) 3 (iN t)) 75 1 ((ab_pI P (79 + 1 + D.2.2.1) 3 (iN t)).1 75 1 + 1)) := g1.keep (fun b j hb => by unfold kTr at hb; rw [pI_ne (by omega)])
    have hc := hc q' rfl
    have hr := hr q' rfl
    refine TT_bind (r_semi (D := tdC D (c.1, c.2.1, c.2.2, t)) g2 ok (fun q e => td_C okd h24 hc.1 hc.2.1 hc.2.2 ht) (fun q e => ?_) hN) (fun P2 h2 => TT_some ⟨h2.1, (f1.tr (fr.I (by unfold sTk; omega))).tr h2.2⟩)
    obtain ⟨h1, h2, h3, h4, h5, h6⟩ := hd
    refine ⟨?_, ?_, ?_, ?_, fun j hj => ?_, fun j hj => ?_⟩
    · rw [pI_nj (by decide), pI_ne (by omega)]; exact h1
    · rw [pI_eq, e75]
      exact iN_succ _
    · rw [pI_nj (by decide), pI_ne (by omega)]; exact h3
    · rw [pI_nj (by decide), pI_ne (by omega)]; exact h4
    · rw [pI_ne (by decide), pI_ne (by omega)]; exact h5 j hj
    · have hj : j < D.2.2.1 + 1 := hj
      have w75 : ∀ x, (ab_pI (ab_pI P (79 + 1 + D.2.2.1) 3 (iN t)) 75 1 ((ab_pI P (79 + 1 + D.2.2.1) 3 (iN t)).1 75 1 + 1)).1 (80 + j) x = (ab_pI P (79 + 1 + D.2.2.1) 3 (iN t)).1 (80 + j) x := fun x => pI_ne (by omega)
      rw [w75, w75, w75, w75]
      by_cases ej : j = D.2.2.1
      · subst ej
        rw [show (tdC D (c.1, c.2.1, c.2.2, t)).2.2.2.1 D.2.2.1 = (c.1, c.2.1, c.2.2, t) from if_pos rfl, pI_at, if_neg (by omega), pI_at, if_neg (by omega), pI_at, if_neg (by omega), pI_at, if_pos (by omega)]
        exact ⟨hr.1, hr.2.1, hr.2.2, rfl⟩
      · rw [show (tdC D (c.1, c.2.1, c.2.2, t)).2.2.2.1 j = D.2.2.2.1 j from if_neg ej, pI_ne (by omega), pI_ne (by omega), pI_ne (by omega), pI_ne (by omega)]
        exact h6 j (by omega)
theorem r_claim {t k : Nat} (hkt : (k = 1 ∧ t = 1) ∨ (k = 2 ∧ t = 0)) (h : RR T s P) (ok : okT T) (okd : okD D) (hd : RTd D P) (h24 : D.2.2.1 < 24) (hN : 70000 ≤ N) : TT (f_115_256 N (iN k) P) (fun r => RTS T (tdC D ((cl3 T D.1 s).1.1, (cl3 T D.1 s).1.2.1, (cl3 T D.1 s).1.2.2, t), sgnS T 59 (cl3 T D.1 s).2) r ∧ fr sTk P r) := by
  have h8 := okd.1
  unfold f_115_256
  rw [if_pos (by rw [iN_ltl (by omega) (by decide)]; exact (show k < 3 by omega)), hd.2.1, if_pos (iN_gi h24 (by decide)), iN_nat (by omega), hd.1]
  refine TT_b2 (r_num (lo := 0) (hb := D.1) (by decide) (i_pe _ (by omega)) (by omega) h ok hN) (fun v1 P1 hv1 => ?_)
  obtain ⟨a1, a2, a3⟩ := hv1
  dsimp only at a1 a2 a3
  have d1 := hd.fr okd a3
  refine TT_lt ?_
  have e750 : (ab_pI P1 (79 + 1 + D.2.2.1) 0 v1).1 75 0 = iN D.1 := by rw [pI_ne (by omega)]; exact d1.1
  rw [e750, show (ab_pI P1 (79 + 1 + D.2.2.1) 0 v1).1 (79 + 1 + D.2.2.1) 0 = v1 from pI_eq]
  have a1' : RR T (numS T 0 D.1 s).2 (ab_pI P1 (79 + 1 + D.2.2.1) 0 v1) := a1.keep (fun b j hb => by unfold kTr at hb; rw [pI_ne (by omega)])
  refine TT_b2 (r_but (hb := D.1) (o := (numS T 0 D.1 s).1) (i_pe _ (by omega)) (by omega) (numS_w (by omega)) (fun q e => a2 q e) a1' ok hN) (fun v2 P2 hv2 => ?_)
  obtain ⟨b1, b2, b3⟩ := hv2
  dsimp only at b1 b2 b3
  refine TT_lt ?_
  have b1' : RR T (butS T D.1 (numS T 0 D.1 s).1 (numS T 0 D.1 s).2).2 (ab_pI P2 (79 + 1 + D.2.2.1) 1 v2) := b1.keep (fun b j hb => by unfold kTr at hb; rw [pI_ne (by omega)])
  refine TT_b2 (r_num (lo := 1) (hb := 1000) (by decide) (by decide) (by decide) b1' ok hN) (fun v3 P3 hv3 => ?_)
  obtain ⟨c1, c2, c3⟩ := hv3
  dsimp only at c1 c2 c3
  refine TT_lt ?_
  have c1' : RR T (cl3 T D.1 s).2 (ab_pI P3 (79 + 1 + D.2.2.1) 2 v3) := c1.keep (fun b j hb => by unfold kTr at hb; rw [pI_ne (by omega)])
  have fA : fr sTk P1 (ab_pI P3 (79 + 1 + D.2.2.1) 2 v3) := (((((fr.I (S := sTk) (by unfold sTk; omega)).tr (b3.mono sTr_k)).tr (fr.I (by unfold sTk; omega))).tr (c3.mono sTr_k)).tr (fr.I (by unfold sTk; omega)))
  have nr : ∀ b j, ¬ (b = 80 + D.2.2.1) → ¬ sTr b j → (ab_pI P3 (79 + 1 + D.2.2.1) 2 v3).1 b j = P1.1 b j := fun b j h1 h2 => by
    rw [pI_ne (by omega), c3.1 b j h2, pI_ne (by omega), b3.1 b j h2, pI_ne (by omega)]
  have d3 : RTd D (ab_pI P3 (79 + 1 + D.2.2.1) 2 v3) := by
    obtain ⟨h1, h2, h3, h4, h5, h6⟩ := d1
    refine ⟨(nr _ _ (by omega) (by unfold sTr; omega)).trans h1, (nr _ _ (by omega) (by unfold sTr; omega)).trans h2, (nr _ _ (by omega) (by unfold sTr; omega)).trans h3, (nr _ _ (by omega) (by unfold sTr; omega)).trans h4, fun j hj => (nr _ _ (by omega) (by unfold sTr; omega)).trans (h5 j hj), fun j hj => ?_⟩
    obtain ⟨g1, g2, g3, g4⟩ := h6 j hj
    exact ⟨(nr _ _ (by omega) (by unfold sTr; omega)).trans g1, (nr _ _ (by omega) (by unfold sTr; omega)).trans g2, (nr _ _ (by omega) (by unfold sTr; omega)).trans g3, (nr _ _ (by omega) (by unfold sTr; omega)).trans g4⟩
  have fin := r_put330 (t := t) (c := (cl3 T D.1 s).1) c1' ok okd d3 h24 (fun q e => by
    have := cl3_l e
    exact ⟨this.1, this.2.1, this.2.2.2⟩) (by omega) (fun q e => by
    have w1 := c2 q e
    obtain ⟨q1, y1, _⟩ := numS_l e
    have w2 := b2 q1 y1
    obtain ⟨q2, y2, _⟩ := butS_l y1
    have w3 := a2 q2 y2
    refine ⟨?_, ?_, ?_⟩
    · rw [pI_at, if_neg (by omega), c3.1 _ _ (by unfold sTr; omega), pI_at, if_neg (by omega), b3.1 _ _ (by unfold sTr; omega), pI_at, if_pos (by omega)]
      exact w3
    · rw [pI_at, if_neg (by omega), c3.1 _ _ (by unfold sTr; omega), pI_at, if_pos (by omega)]
      exact w2
    · rw [pI_at, if_pos (by omega)]
      exact w1) hN
  have ff : fr sTk P (ab_pI P3 (79 + 1 + D.2.2.1) 2 v3) := (a3.mono sTr_k).tr fA
  rcases hkt with ⟨rfl, rfl⟩ | ⟨rfl, rfl⟩
  · exact fin.mono (fun r hr => ⟨hr.1, ff.tr hr.2⟩)
  · exact fin.mono (fun r hr => ⟨hr.1, ff.tr hr.2⟩)
theorem r_set376 {hb x : Nat} {D' : TD} {hi sx : Int32} (hx : sx = iN x) (hx2 : x = 2 ∨ x = 3) (hhi : hi.toInt = (hb : Int) - 1) (hb9 : hb ≤ 10000) (hD : D' = if x = 2 then tdI D (numS T 0 hb s).1 else tdB D (numS T 0 hb s).1) (hok : ∀ q, (numS T 0 hb s).2 = .inl q → okD D') (h : RR T s P) (ok : okT T) (okd : okD D) (hd : RTd D P) (hN : 70000 ≤ N) : TT (f_115_376 N hi 0 sx P) (fun r => RTS T (D', sgnS T 59 (numS T 0 hb s).2) r ∧ fr sTk P r) := by
  subst hx
  unfold f_115_376
  refine TT_b2 (r_num (lo := 0) (hb := hb) (by decide) hhi hb9 h ok hN) (fun v P1 hv => ?_)
  obtain ⟨b1, b2, b3⟩ := hv
  dsimp only at b1 b2 b3
  have d1 := hd.fr okd b3
  rw [if_pos (iN_gi (show x < 4 by omega) (by decide)), iN_nat (by omega)]
  refine TT_lt ?_
  have g1 : RR T (numS T 0 hb s).2 (ab_pI P1 75 x v) := b1.keep (fun b j hb => by unfold kTr at hb; rw [pI_ne (by omega)])
  refine TT_bind (r_semi (D := D') g1 ok hok (fun q' e => ?_) hN) (fun P2 h2 => TT_some ⟨h2.1, ((b3.mono sTr_k).tr (fr.I (by unfold sTk; omega))).tr h2.2⟩)
  obtain ⟨h1, h2, h3, h4, h5, h6⟩ := d1
  have w := b2 q' e
  have h24 := okd.2.1
  have r6 : ∀ j, j < D.2.2.1 → (ab_pI P1 75 x v).1 (80 + j) 0 = iN (D.2.2.2.1 j).1 ∧ (ab_pI P1 75 x v).1 (80 + j) 1 = iN (D.2.2.2.1 j).2.1 ∧ (ab_pI P1 75 x v).1 (80 + j) 2 = iN (D.2.2.2.1 j).2.2.1 ∧ (ab_pI P1 75 x v).1 (80 + j) 3 = iN (D.2.2.2.1 j).2.2.2 := fun j hj => by
    rw [pI_ne (by omega), pI_ne (by omega), pI_ne (by omega), pI_ne (by omega)]
    exact h6 j hj
  rcases hx2 with rfl | rfl
  · rw [if_pos rfl] at hD
    subst hD
    exact ⟨by rw [pI_nj (by decide)]; exact h1, by rw [pI_nj (by decide)]; exact h2, by rw [pI_eq]; exact w, by rw [pI_nj (by decide)]; exact h4, fun j hj => by rw [pI_ne (by decide)]; exact h5 j hj, r6⟩
  · rw [if_neg (by decide)] at hD
    subst hD
    exact ⟨by rw [pI_nj (by decide)]; exact h1, by rw [pI_nj (by decide)]; exact h2, by rw [pI_nj (by decide)]; exact h3, by rw [pI_eq]; exact w, fun j hj => by rw [pI_ne (by decide)]; exact h5 j hj, r6⟩
theorem r_go (h : RR T (.inl q) P) (hp : P.1 72 4 = iN q) (ok : okT T) (okd : okD D) (hd : RTd D P) (hk : k < 5) (h0 : k = 0 → D.1 < 8) (h1 : k = 1 ∨ k = 2 → D.2.2.1 < 24) (hN : 70000 ≤ N) : TT (f_115_196 N (iN k) P) (fun r => RTS T (clA T k D (.inl (sk T (rn isLt T q)))) r ∧ r.1 72 7 = P.1 72 7 + 1 ∧ fr sTm P r) := by
  obtain ⟨w1, w2⟩ := r_skipQ h hp ok hN
  unfold f_115_196
  rw [w1, Option.bind_some]
  refine TT_lt ?_
  have e7 : (ab_pI P 72 4 (iN (rn isLt T q))).1 72 7 = P.1 72 7 := by rw [pI_nj (by decide)]
  rw [e7]
  have g : RR T (.inl (sk T (rn isLt T q))) (ab_pI (ab_pI P 72 4 (iN (rn isLt T q))) 72 7 (P.1 72 7 + 1)) := w2.keep (fun b j hb => by unfold kTr at hb; rw [pI_at, if_neg (by omega)])
  have gd : RTd D (ab_pI (ab_pI P 72 4 (iN (rn isLt T q))) 72 7 (P.1 72 7 + 1)) := hd.keep okd (fun b j hb => by rw [pI_ne (by omega), pI_ne (by omega)])
  have f1 : fr sTm P (ab_pI (ab_pI P 72 4 (iN (rn isLt T q))) 72 7 (P.1 72 7 + 1)) := (fr.I (by unfold sTm sTr; omega)).tr (fr.I (by unfold sTm; omega))
  have e8 : (ab_pI (ab_pI P 72 4 (iN (rn isLt T q))) 72 7 (P.1 72 7 + 1)).1 72 7 = P.1 72 7 + 1 := pI_eq
  generalize ab_pI (ab_pI P 72 4 (iN (rn isLt T q))) 72 7 (P.1 72 7 + 1) = P1 at g gd f1 e8 ⊢
  have wr : ∀ {x : TD × RS} {o : Option ab_P}, TT o (fun r => RTS T x r ∧ fr sTk P1 r) → TT o (fun r => RTS T x r ∧ r.1 72 7 = P.1 72 7 + 1 ∧ fr sTm P r) := fun hh => hh.mono (fun r hr => ⟨hr.1, (hr.2.1 72 7 (by unfold sTk sTr; omega)).trans e8, f1.tr (hr.2.mono sTk_m)⟩)
  generalize sk T (rn isLt T q) = q1 at g ⊢
  rcases (show k = 0 ∨ k = 1 ∨ k = 2 ∨ k = 3 ∨ k = 4 by omega) with rfl | rfl | rfl | rfl | rfl
  · rw [if_pos (show iN 0 = (0 : Int32) from rfl)]
    exact wr (r_person g ok okd gd (h0 rfl) hN)
  · rw [if_neg (show ¬ iN 1 = (0 : Int32) by decide)]
    exact wr (r_claim (Or.inl ⟨rfl, rfl⟩) g ok okd gd (h1 (Or.inl rfl)) hN)
  · rw [if_neg (show ¬ iN 2 = (0 : Int32) by decide)]
    exact wr (r_claim (Or.inr ⟨rfl, rfl⟩) g ok okd gd (h1 (Or.inr rfl)) hN)
  · rw [if_neg (show ¬ iN 3 = (0 : Int32) by decide)]
    unfold f_115_256
    rw [if_neg (by decide), if_pos (show iN 3 = (3 : Int32) from rfl)]
    refine wr (r_set376 (x := 2) (hb := 51) (D' := tdI D (numS T 0 51 (.inl q1)).1) (by decide) (Or.inl rfl) (by decide) (by decide) rfl (fun q e => ?_) g ok okd gd hN)
    obtain ⟨_, _, _, c⟩ := numS_l e
    exact ⟨okd.1, okd.2.1, Nat.le_of_lt_succ c, okd.2.2.2⟩
  · rw [if_neg (show ¬ iN 4 = (0 : Int32) by decide)]
    unfold f_115_256
    rw [if_neg (by decide), if_neg (show ¬ iN 4 = (3 : Int32) by decide)]
    refine wr (r_set376 (x := 3) (hb := 101) (D' := tdB D (numS T 0 101 (.inl q1)).1) (by decide) (Or.inr rfl) (by decide) (by decide) rfl (fun q e => ?_) g ok okd gd hN)
    obtain ⟨_, _, _, c⟩ := numS_l e
    exact ⟨okd.1, okd.2.1, okd.2.2.1, Nat.le_of_lt_succ c, okd.2.2.2.2⟩
theorem r_full (h : RR T (.inl q) P) (hp : P.1 72 4 = iN q) {x : Int32} : TT (f_115_179 N x P) (fun r => RR T (.inr (3, q)) r ∧ fr sTm P r) := by
  unfold f_115_179
  rw [hp]
  refine TT_bind (r_wrong h (k := 3) (p := q) (by decide) (by decide)) (fun P1 h1 => ?_)
  rw [if_neg h1.1.no]
  exact TT_some ⟨h1.1, h1.2.mono sTr_m⟩
theorem v5_0 : f_287 P00 16 5 18 19 15 14 0 0 = some (jN (gL [112, 101, 114, 115, 111, 110])) := by decide +kernel
theorem v5_1 : f_287 P00 23 18 15 14 7 0 0 0 = some (jN (gL [119, 114, 111, 110, 103])) := by decide +kernel
theorem v5_2 : f_287 P00 6 1 12 19 5 0 0 0 = some (jN (gL [102, 97, 108, 115, 101])) := by decide +kernel
theorem v5_3 : f_287 P00 9 14 20 5 18 5 19 20 = some (jN (gL [105, 110, 116, 101, 114, 101, 115, 116])) := by decide +kernel
theorem v5_4 : f_287 P00 2 9 20 5 0 0 0 0 = some (jN (gL [98, 105, 116, 101])) := by decide +kernel
theorem r_which (h : RR T (.inl q) P) (ok : okT T) (hN : 70000 ≤ N) : f_115 N P = f_115_117 N (oN (wIx (lw T q) wsT 0)) (ab_pI P 72 4 (iN q)) := by
  have g := h.at'
  have ep : ab_pI (ab_pI P 72 4 (iN q)) 72 4 (iN q) = ab_pI P 72 4 (iN q) := pI_pI
  have e0 := r_isW h ok hN v5_0 (by decide)
  have e1 := r_isW g ok hN v5_1 (by decide)
  have e2 := r_isW g ok hN v5_2 (by decide)
  have e3 := r_isW g ok hN v5_3 (by decide)
  have e4 := r_isW g ok hN v5_4 (by decide)
  rw [ep] at e1 e2 e3 e4
  unfold f_115 wsT
  rw [e0, b2_some]
  simp only [wIx]
  by_cases h0 : lw T q = [112, 101, 114, 115, 111, 110]
  · rw [if_pos h0, if_neg (by rw [bI_0]; simp [h0])]
    rfl
  · rw [if_neg h0, if_pos (by rw [bI_0]; simp [h0]), e1, b2_some]
    by_cases h1 : lw T q = [119, 114, 111, 110, 103]
    · rw [if_pos h1, if_neg (by rw [bI_0]; simp [h1])]
      rfl
    · rw [if_neg h1, if_pos (by rw [bI_0]; simp [h1]), e2, b2_some]
      by_cases h2 : lw T q = [102, 97, 108, 115, 101]
      · rw [if_pos h2, if_neg (by rw [bI_0]; simp [h2])]
        rfl
      · rw [if_neg h2, if_pos (by rw [bI_0]; simp [h2]), e3, b2_some]
        by_cases h3 : lw T q = [105, 110, 116, 101, 114, 101, 115, 116]
        · rw [if_pos h3, if_neg (by rw [bI_0]; simp [h3])]
          rfl
        · rw [if_neg h3, if_pos (by rw [bI_0]; simp [h3]), e4, b2_some]
          by_cases h4 : lw T q = [98, 105, 116, 101]
          · rw [if_pos h4, if_neg (by rw [bI_0]; simp [h4])]
            rfl
          · rw [if_neg h4, if_pos (by rw [bI_0]; simp [h4])]
            rfl
theorem r_clause (h : RR T (.inl q) P) (ok : okT T) (okd : okD D) (hd : RTd D P) (hc : P.1 72 7 = iN i) (hi : i ≤ 60) (hN : 70000 ≤ N) : TT (f_115 N P) (fun r => RTS T (clS T i D q) r ∧ (∀ q', (clS T i D q).2 = .inl q' → r.1 72 7 = iN (i + 1)) ∧ fr sTm P r) := by
  have h8 := okd.1
  have h24 := okd.2.1
  rw [r_which h ok hN]
  have g := h.at'
  have f1 : fr sTm P (ab_pI P 72 4 (iN q)) := fr.I (by unfold sTm sTr; omega)
  have gd : RTd D (ab_pI P 72 4 (iN q)) := hd.keep okd (fun b j hb => by rw [pI_ne (by omega)])
  have gp : (ab_pI P 72 4 (iN q)).1 72 4 = iN q := pI_eq
  have gc : (ab_pI P 72 4 (iN q)).1 72 7 = iN i := by rw [pI_nj (by decide)]; exact hc
  generalize ab_pI P 72 4 (iN q) = P1 at g f1 gd gp gc ⊢
  unfold f_115_117
  rw [gp, gc, gd.1]
  cases hw : wIx (lw T q) wsT 0 with
  | none =>
    have ec : clS T i D q = (D, .inr (1, q)) := by unfold clS; rw [hw]
    rw [ec, oN_none, if_pos rfl]
    refine TT_bind (r_wrong g (k := 1) (p := q) (by decide) (by decide)) (fun P2 h2 => ?_)
    rw [if_neg h2.1.no]
    exact TT_some ⟨⟨h2.1, fun q' e => (by cases e)⟩, fun q' e => (by cases e), f1.tr (h2.2.mono sTr_m)⟩
  | some k =>
    have hk : k < 5 := Nat.lt_of_lt_of_le (wIx_lt hw) (by decide)
    have ec : clS T i D q = if i = 60 ∨ (k = 0 ∧ D.1 = 8) ∨ ((k = 1 ∨ k = 2) ∧ D.2.2.1 = 24) then (D, .inr (3, q)) else clA T k D (.inl (sk T (rn isLt T q))) := by unfold clS; rw [hw]
    rw [ec, oN_some, if_neg (by rw [iN_nm1 (by omega)]; exact id)]
    have k0 : (iN k = (0 : Int32)) = (k = 0) := iN_eql (by omega) (by decide)
    have i60 : (iN i = (60 : Int32)) = (i = 60) := iN_eql (by omega) (by decide)
    have p8 : (iN D.1 = (8 : Int32)) = (D.1 = 8) := iN_eql (by omega) (by decide)
    have m24 : (iN D.2.2.1 = (24 : Int32)) = (D.2.2.1 = 24) := iN_eql (by omega) (by decide)
    have full : i = 60 ∨ (k = 0 ∧ D.1 = 8) ∨ ((k = 1 ∨ k = 2) ∧ D.2.2.1 = 24) → TT (f_115_179 N (iN k) P1) (fun r => RTS T (if i = 60 ∨ (k = 0 ∧ D.1 = 8) ∨ ((k = 1 ∨ k = 2) ∧ D.2.2.1 = 24) then (D, .inr (3, q)) else clA T k D (.inl (sk T (rn isLt T q)))) r ∧ (∀ q', (if i = 60 ∨ (k = 0 ∧ D.1 = 8) ∨ ((k = 1 ∨ k = 2) ∧ D.2.2.1 = 24) then (D, .inr (3, q)) else clA T k D (.inl (sk T (rn isLt T q)))).2 = .inl q' → r.1 72 7 = iN (i + 1)) ∧ fr sTm P r) := fun hf => by
      rw [if_pos hf]
      exact (r_full g gp).mono (fun r hr => ⟨⟨hr.1, fun q' e => (by cases e)⟩, fun q' e => (by cases e), f1.tr hr.2⟩)
    have go : ¬ (i = 60 ∨ (k = 0 ∧ D.1 = 8) ∨ ((k = 1 ∨ k = 2) ∧ D.2.2.1 = 24)) → TT (if (P1.1 72 5) = (0 : Int32) then f_115_196 N (iN k) P1 else some P1) (fun r => RTS T (if i = 60 ∨ (k = 0 ∧ D.1 = 8) ∨ ((k = 1 ∨ k = 2) ∧ D.2.2.1 = 24) then (D, .inr (3, q)) else clA T k D (.inl (sk T (rn isLt T q)))) r ∧ (∀ q', (if i = 60 ∨ (k = 0 ∧ D.1 = 8) ∨ ((k = 1 ∨ k = 2) ∧ D.2.2.1 = 24) then (D, .inr (3, q)) else clA T k D (.inl (sk T (rn isLt T q)))).2 = .inl q' → r.1 72 7 = iN (i + 1)) ∧ fr sTm P r) := fun hf => by
      rw [if_neg hf, if_pos g.ok]
      refine (r_go g gp ok okd gd hk (fun e => by omega) (fun e => by omega) hN).mono (fun r hr => ⟨hr.1, fun q' e => ?_, f1.tr hr.2.2⟩)
      rw [hr.2.1, gc]
      exact iN_succ i
    have at159 : i ≠ 60 → ¬ (k = 0 ∧ D.1 = 8) → TT (f_115_159 N (iN k) P1) (fun r => RTS T (if i = 60 ∨ (k = 0 ∧ D.1 = 8) ∨ ((k = 1 ∨ k = 2) ∧ D.2.2.1 = 24) then (D, .inr (3, q)) else clA T k D (.inl (sk T (rn isLt T q)))) r ∧ (∀ q', (if i = 60 ∨ (k = 0 ∧ D.1 = 8) ∨ ((k = 1 ∨ k = 2) ∧ D.2.2.1 = 24) then (D, .inr (3, q)) else clA T k D (.inl (sk T (rn isLt T q)))).2 = .inl q' → r.1 72 7 = iN (i + 1)) ∧ fr sTm P r) := fun hi60 hk8 => by
      have ein : f_112 P1 (iN k) 1 2 = some (bI (decide (1 ≤ k) && decide (k < 3))) := r_in P1 (lo := 1) (hb := 3) (by decide) (by omega) (by decide)
      unfold f_115_159
      rw [ein, Option.bind_some, gd.2.1]
      by_cases hk12 : k = 1 ∨ k = 2
      · rw [if_neg (by rw [bI_0]; simp; omega)]
        simp only [m24]
        by_cases hm : D.2.2.1 = 24
        · rw [if_pos hm]
          exact full (by omega)
        · rw [if_neg hm]
          exact go (by omega)
      · rw [if_pos (by rw [bI_0]; simp; omega)]
        exact go (by omega)
    simp only [i60, k0, p8]
    by_cases hi6 : i = 60
    · rw [if_pos hi6]
      exact full (by omega)
    · rw [if_neg hi6]
      by_cases hk0 : k = 0
      · rw [if_pos hk0]
        by_cases hd8 : D.1 = 8
        · rw [if_pos hd8]
          exact full (by omega)
        · rw [if_neg hd8]
          exact at159 hi6 (by omega)
      · rw [if_neg hk0]
        exact at159 hi6 (by omega)
/-- all clauses, then what is done -/
theorem r_clauses {Q : Int32 × ab_P → Prop} (ok : okT T) (hN : 70000 ≤ N) : ∀ (c i : Nat) (D : TD) (s : RS) (P : ab_P) (n : Nat), i + c = 62 → c < n → (61 ≤ i → ∃ f, s = .inr f) → RTS T (D, s) P → (∀ q, s = .inl q → okD D ∧ P.1 72 4 = iN q ∧ P.1 72 7 = iN i) → (∀ r, RTS T (tnL T c i D s) r → fr sTm P r → TT (f_6_71 N r) Q) → TT (f_6_42 N n P) Q := by
  intro c
  induction c with
  | zero =>
    intro i D s P n hi hn h61 h okd hQ
    obtain ⟨n, rfl⟩ : ∃ z, n = z + 1 := ⟨n - 1, by omega⟩
    have hi62 : i = 62 := by omega
    cases s with
    | inr f =>
      unfold f_6_42
      rw [if_neg (RR.no (f := f) h.1)]
      exact hQ P h fr.rf
    | inl q =>
      obtain ⟨f, hf⟩ := h61 (by omega)
      cases hf
  | succ c ih =>
    intro i D s P n hi hn h61 h okd hQ
    obtain ⟨n, rfl⟩ : ∃ z, n = z + 1 := ⟨n - 1, by omega⟩
    unfold f_6_42
    cases s with
    | inr f =>
      rw [if_neg (RR.no (f := f) h.1)]
      exact hQ P h fr.rf
    | inl q =>
      have hi61 : ¬ 61 ≤ i := fun e => by
        obtain ⟨f, hf⟩ := h61 e
        cases hf
      obtain ⟨okd1, hp, hc7⟩ := okd q rfl
      have hq := (RR.qq (q := q) h.1).1
      have h6 := ok.1
      rw [if_pos (RR.ok (q := q) h.1), hp, h.1.1.1]
      have e9 : tnL T (c + 1) i D (.inl q) = if q < T.2 then tnL T c (i + 1) (clS T i D q).1 (clS T i D q).2 else (D, .inl q) := rfl
      rw [e9] at hQ
      by_cases hl : q < T.2
      · rw [if_pos (by rw [iN_lt (by omega) (by omega)]; exact hl)]
        rw [if_pos hl] at hQ
        refine TT_bind (r_clause h.1 ok okd1 (h.2 q rfl) hc7 (by omega) hN) (fun P2 h2 => ?_)
        obtain ⟨a1, a2, a3⟩ := h2
        cases hs : (clS T i D q).2 with
        | inr f =>
          have a11 := a1.1
          rw [hs] at a11
          refine TT_bind (r_blankF a11 ok hN) (fun P3 h3 => ?_)
          refine ih (i + 1) (clS T i D q).1 (clS T i D q).2 P3 n (by omega) (by omega) (fun _ => ⟨f, hs⟩) ⟨by rw [hs]; exact h3.1, fun q3 e => by rw [hs] at e; cases e⟩ (fun q3 e => by rw [hs] at e; cases e) (fun r hr hf => hQ r hr ((a3.tr (h3.2.mono sTr_m)).tr hf))
        | inl q2 =>
          have a11 := a1.1
          rw [hs] at a11
          have hok2 := clS_ok okd1 hs
          rw [r_blank a11 ok hN, Option.bind_some]
          refine ih (i + 1) (clS T i D q).1 (clS T i D q).2 (ab_pI P2 72 4 (iN q2)) n (by omega) (by omega) (fun e => absurd (by omega) hok2.2) ?_ (fun q3 e => ?_) (fun r hr hf => hQ r hr ((a3.tr (fr.I (by unfold sTm sTr; omega))).tr hf))
          · rw [hs]
            exact ⟨a11.at', fun q3 e => (a1.2 q2 hs).keep hok2.1 (fun b j hb => by rw [pI_ne (by omega)])⟩
          · rw [hs] at e
            cases e
            exact ⟨hok2.1, pI_eq, by rw [pI_nj (by decide)]; exact a2 q2 hs⟩
      · rw [if_neg (by rw [iN_lt (by omega) (by omega)]; exact hl)]
        rw [if_neg hl] at hQ
        exact hQ P h fr.rf
end TN3
