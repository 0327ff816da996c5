/-! a law's text: the reference -/
def sLr (b j : Nat) : Prop := sTr b j ∨ (b = 72 ∧ (j = 8 ∨ j = 17)) ∨ (266 ≤ b ∧ b < 426)
theorem sTr_L : ∀ b j, sTr b j → sLr b j := fun _ _ h => Or.inl h
def RLwS (T : TX) (d : Nat) (x : LwS) (P : ab_P) : Prop := RR T x.2 P ∧ ∀ q, x.2 = .inl q → P.1 72 17 = iN x.1.1 ∧ P.1 72 8 = iN d ∧ ∀ k, k < x.1.1 → P.1 (266 + k) 0 = iN (x.1.2 k).1 ∧ P.1 (266 + k) 1 = iN (x.1.2 k).2
def RRv (T : TX) (R : Nat → LwS → LwS) (R' : ab_P → Option ab_P) (d : Nat) : Prop := ∀ a p h x P, d < 6 → h ≤ 3 * (d + 1) → LwI T a p h x → RLwS T (d + 1) x P → TT (R' P) (fun r => RLwS T (d + 1) (R (d + 1) x) r ∧ fr sLr P r)
theorem wIx_get {w : List Nat} : ∀ {ws : List (List Nat)} {k n : Nat}, wIx w ws k = some n → ∃ i, n = k + i ∧ ws[i]? = some w
  | [], _, _, h => by cases h
  | x :: r, k, n, h => by
    unfold wIx at h
    by_cases e : w = x
    · rw [if_pos e] at h
      cases h
      exact ⟨0, rfl, by rw [e]; rfl⟩
    · rw [if_neg e] at h
      obtain ⟨i, h1, h2⟩ := wIx_get h
      exact ⟨i + 1, by omega, by rw [List.getElem?_cons_succ]; exact h2⟩
theorem wIx_no {w : List Nat} : ∀ {ws : List (List Nat)} {k : Nat}, wIx w ws k = none → ∀ x, x ∈ ws → w ≠ x
  | [], _, _, x, hx => by cases hx
  | y :: r, k, h, x, hx => by
    unfold wIx at h
    by_cases e : w = y
    · rw [if_pos e] at h
      cases h
    · rw [if_neg e] at h
      rcases List.mem_cons.mp hx with e2 | e2
      · rw [e2]; exact e
      · exact wIx_no h x e2
theorem lw_nil {T : TX} {q : Nat} (hq : q ≤ T.2) (h : ¬ (q < T.2 ∧ isLt (T.1 q) = true)) : lw T q = [] := by
  have e : rn isLt T q = q := by
    by_cases hl : q < T.2
    · refine rn_n hl ?_
      cases hc : isLt (T.1 q) with
      | false => rfl
      | true => exact absurd ⟨hl, hc⟩ h
    · exact rn_end (by omega)
  unfold lw
  rw [e, Nat.sub_self]
  rfl
theorem vL_0 : f_287 P00 19 9 26 5 0 0 0 0 = some (jN (gL [115, 105, 122, 101])) := by decide +kernel
theorem vL_1 : f_287 P00 1 7 5 0 0 0 0 0 = some (jN (gL [97, 103, 101])) := by decide +kernel
theorem vL_2 : f_287 P00 20 5 13 16 5 18 0 0 = some (jN (gL [116, 101, 109, 112, 101, 114])) := by decide +kernel
theorem vL_3 : f_287 P00 8 5 1 20 0 0 0 0 = some (jN (gL [104, 101, 97, 116])) := by decide +kernel
theorem vL_4 : f_287 P00 16 1 19 19 5 4 0 0 = some (jN (gL [112, 97, 115, 115, 101, 100])) := by decide +kernel
theorem vL_5 : f_287 P00 20 15 12 4 0 0 0 0 = some (jN (gL [116, 111, 108, 100])) := by decide +kernel
theorem vL_6 : f_287 P00 4 1 25 0 0 0 0 0 = some (jN (gL [100, 97, 121])) := by decide +kernel
theorem vL_7 : f_287 P00 8 5 12 4 0 0 0 0 = some (jN (gL [104, 101, 108, 100])) := by decide +kernel
theorem vL_8 : f_287 P00 12 5 1 19 20 0 0 0 = some (jN (gL [108, 101, 97, 115, 116])) := by decide +kernel
theorem vL_9 : f_287 P00 13 15 19 20 0 0 0 0 = some (jN (gL [109, 111, 115, 116])) := by decide +kernel
section LR
variable {T : TX} {R : Nat → LwS → LwS} {R' : ab_P → Option ab_P} {P : ab_P} {N a p h d k q : Nat} {x : LwS} {w : LW} {v : Int32} {c : Nat × Nat} {s : RS}
theorem RLwS.frG {P' : ab_P} {s' : RS} {d' : Nat} (g : RLwS T d (w, s) P) (hs : ∀ q, s' = .inl q → ∃ q', s = .inl q') (g2 : RR T s' P') (h8 : P'.1 72 8 = iN d' ∨ ∃ f, s' = .inr f) (f : ∀ b j, (b = 72 ∧ j = 17) ∨ (266 ≤ b ∧ b < 426) → P'.1 b j = P.1 b j) (hm : w.1 ≤ 150) : RLwS T d' (w, s') P' := by
  refine ⟨g2, fun q e => ?_⟩
  obtain ⟨q', e'⟩ := hs q e
  obtain ⟨a1, a2, a3⟩ := g.2 q' e'
  dsimp only at a1 a3
  refine ⟨(f 72 17 (Or.inl ⟨rfl, rfl⟩)).trans a1, ?_, fun k hk => ?_⟩
  · rcases h8 with h8 | ⟨f', h8⟩
    · exact h8
    · rw [h8] at e; cases e
  · have hk : k < w.1 := hk
    rw [f _ _ (Or.inr (by omega)), f _ _ (Or.inr (by omega))]
    exact a3 k hk
theorem RLwS.no {f : Nat × Nat} (g : RR T (.inr f) P) : RLwS T d (w, .inr f) P := ⟨g, fun q e => by cases e⟩
theorem RLwS.frT {P' : ab_P} {s' : RS} (g : RLwS T d (w, s) P) (hs : ∀ q, s' = .inl q → ∃ q', s = .inl q') (g2 : RR T s' P') (f : fr sTr P P') (hm : ∀ q, s = .inl q → w.1 ≤ 150) : RLwS T d (w, s') P' := by
  cases s' with
  | inr f' => exact RLwS.no g2
  | inl q =>
    obtain ⟨q', e'⟩ := hs q rfl
    exact RLwS.frG g hs g2 (Or.inl ((f.1 72 8 (by unfold sTr; omega)).trans (g.2 q' e').2.1)) (fun b j hb => f.1 b j (by unfold sTr; omega)) (hm q' e')
theorem r_em {v1 v2 : Int32} (g : RLwS T d x P) (hl : ∀ q, x.2 = .inl q → x.1.1 < 150) (hv : ∀ q, x.2 = .inl q → v1 = iN c.1 ∧ v2 = iN c.2) : TT (f_213 v1 v2 P) (fun r => RLwS T d (emS c x) r ∧ fr sLr P r) := by
  obtain ⟨w, s⟩ := x
  unfold f_213
  cases s with
  | inr f =>
    rw [if_neg (RR.no (f := f) g.1)]
    exact TT_some ⟨RLwS.no g.1, fr.rf⟩
  | inl q =>
    have hl := hl q rfl
    obtain ⟨hv1, hv2⟩ := hv q rfl
    obtain ⟨a1, a2, a3⟩ := g.2 q rfl
    dsimp only at a1 a2 a3 hl
    subst hv1
    subst hv2
    rw [if_pos (RR.ok (q := q) g.1), a1, if_pos (iN_gi (show w.1 < 160 by omega) (by decide)), iN_nat (by omega)]
    refine TT_lt ?_
    have e17 : (ab_pI P (265 + 1 + w.1) 0 (iN c.1)).1 72 17 = iN w.1 := by rw [pI_ne (by omega)]; exact a1
    rw [e17, if_pos (iN_gi (show w.1 < 160 by omega) (by decide)), iN_nat (by omega)]
    refine TT_lt (TT_lt (TT_some ⟨⟨RR.keep g.1 (fun b j hb => by unfold kTr at hb; rw [pI_at, if_neg (by omega), pI_ne (by omega), pI_ne (by omega)]), fun q' e => ⟨?_, ?_, fun k hk => ?_⟩⟩, ((fr.I (by unfold sLr; omega)).tr (fr.I (by unfold sLr; omega))).tr (fr.I (by unfold sLr; omega))⟩))
    · rw [pI_eq, pI_ne (by omega), e17]
      exact iN_succ _
    · rw [pI_nj (by decide), pI_ne (by omega), pI_ne (by omega)]
      exact a2
    · have hk : k < w.1 + 1 := hk
      show (ab_pI (ab_pI (ab_pI P (265 + 1 + w.1) 0 (iN c.1)) (265 + 1 + w.1) 1 (iN c.2)) 72 17 ((ab_pI (ab_pI P (265 + 1 + w.1) 0 (iN c.1)) (265 + 1 + w.1) 1 (iN c.2)).1 72 17 + 1)).1 (266 + k) 0 = iN (if k = w.1 then c else w.2 k).1 ∧ (ab_pI (ab_pI (ab_pI P (265 + 1 + w.1) 0 (iN c.1)) (265 + 1 + w.1) 1 (iN c.2)) 72 17 ((ab_pI (ab_pI P (265 + 1 + w.1) 0 (iN c.1)) (265 + 1 + w.1) 1 (iN c.2)).1 72 17 + 1)).1 (266 + k) 1 = iN (if k = w.1 then c else w.2 k).2
      have w72 : ∀ y, (ab_pI (ab_pI (ab_pI P (265 + 1 + w.1) 0 (iN c.1)) (265 + 1 + w.1) 1 (iN c.2)) 72 17 ((ab_pI (ab_pI P (265 + 1 + w.1) 0 (iN c.1)) (265 + 1 + w.1) 1 (iN c.2)).1 72 17 + 1)).1 (266 + k) y = (ab_pI (ab_pI P (265 + 1 + w.1) 0 (iN c.1)) (265 + 1 + w.1) 1 (iN c.2)).1 (266 + k) y := fun y => pI_ne (by omega)
      rw [w72, w72]
      by_cases ek : k = w.1
      · rw [if_pos ek]
        constructor
        · rw [pI_at, if_neg (by omega), pI_at, if_pos (by omega)]
        · rw [pI_at, if_pos (by omega)]
      · rw [if_neg ek]
        constructor
        · rw [pI_at, if_neg (by omega), pI_at, if_neg (by omega)]
          exact (a3 k (by omega)).1
        · rw [pI_at, if_neg (by omega), pI_at, if_neg (by omega)]
          exact (a3 k (by omega)).2
theorem r_sgnL {ch : Nat} (hc : ch < 256) (g : RLwS T d x P) (hm : ∀ q, x.2 = .inl q → x.1.1 ≤ 150) (ok : okT T) (hN : 70000 ≤ N) : TT (f_129 N (iN ch) P) (fun r => RLwS T d (onS (sgnS T ch) x) r ∧ fr sLr P r) := by
  obtain ⟨w, s⟩ := x
  exact (r_sign hc g.1 ok hN).mono (fun r hr => ⟨RLwS.frT g (fun q e => sgnS_l e) hr.1 hr.2 hm, hr.2.mono sTr_L⟩)
/-- a word asked for where the place is known -/
theorem r_isWp (g : RR T (.inl q) P) (hp : P.1 72 4 = iN q) (ok : okT T) (hN : 70000 ≤ N) {a1 a2 a3 a4 a5 a6 a7 a8 : Int32} {y : List Nat} (hv : f_287 P00 a1 a2 a3 a4 a5 a6 a7 a8 = some (jN (gL y))) (hx : wOk y = true) : f_206 N a1 a2 a3 a4 a5 a6 a7 a8 P = some (bI (decide (lw T q = y)), P) := by
  have e := r_isW g ok hN hv hx
  rw [pI_self hp] at e
  exact e
theorem r_tkW (g : RR T (.inl q) P) (hp : P.1 72 4 = iN q) (ok : okT T) (hN : 70000 ≤ N) {a1 a2 a3 a4 a5 a6 a7 a8 : Int32} {y : List Nat} (hv : f_287 P00 a1 a2 a3 a4 a5 a6 a7 a8 = some (jN (gL y))) (hx : wOk y = true) : f_353 N a1 a2 a3 a4 a5 a6 a7 a8 P = if lw T q = y then some (1, ab_pI P 72 4 (iN (rn isLt T q))) else some (0, P) := by
  unfold f_353
  rw [r_isWp g hp ok hN hv hx, b2_some]
  by_cases e : lw T q = y
  · rw [if_pos e, if_neg (by rw [bI_0]; simp [e]), (r_skipQ g hp ok hN).1, Option.bind_some]
    simp [e]
    decide
  · rw [if_neg e, if_pos (by rw [bI_0]; simp [e])]
    simp [e]
    decide
def knS (T : TX) (q : Nat) (P : ab_P) : Option (Int32 × ab_P) := match wIx (lw T q) wsL 0 with
  | some k => if k < 8 then some (iN k, ab_pI P 72 4 (iN (rn isLt T q))) else some (-1, P)
  | none => some (-1, P)
theorem r_known (g : RR T (.inl q) P) (hp : P.1 72 4 = iN q) (ok : okT T) (hN : 70000 ≤ N) : f_330 N P = knS T q P := by
  have e0 := r_tkW g hp ok hN vL_0 (by decide)
  have e1 := r_tkW g hp ok hN vL_1 (by decide)
  have e2 := r_tkW g hp ok hN vL_2 (by decide)
  have e3 := r_tkW g hp ok hN vL_3 (by decide)
  have e4 := r_tkW g hp ok hN vL_4 (by decide)
  have e5 := r_tkW g hp ok hN vL_5 (by decide)
  have e6 := r_tkW g hp ok hN vL_6 (by decide)
  have e7 := r_tkW g hp ok hN vL_7 (by decide)
  unfold f_330 knS wsL
  simp only [wIx]
  rw [e0]
  by_cases h0 : lw T q = [115, 105, 122, 101]
  · rw [if_pos h0, if_pos h0, b2_some, if_neg (by decide)]
    rfl
  · rw [if_neg h0, if_neg h0, b2_some, if_pos rfl]
    rw [e1]
    by_cases h1 : lw T q = [97, 103, 101]
    · rw [if_pos h1, if_pos h1, b2_some, if_neg (by decide)]
      rfl
    · rw [if_neg h1, if_neg h1, b2_some, if_pos rfl]
      rw [e2]
      by_cases h2 : lw T q = [116, 101, 109, 112, 101, 114]
      · rw [if_pos h2, if_pos h2, b2_some, if_neg (by decide)]
        rfl
      · rw [if_neg h2, if_neg h2, b2_some, if_pos rfl]
        rw [e3]
        by_cases h3 : lw T q = [104, 101, 97, 116]
        · rw [if_pos h3, if_pos h3, b2_some, if_neg (by decide)]
          rfl
        · rw [if_neg h3, if_neg h3, b2_some, if_pos rfl]
          rw [e4]
          by_cases h4 : lw T q = [112, 97, 115, 115, 101, 100]
          · rw [if_pos h4, if_pos h4, b2_some, if_neg (by decide)]
            rfl
          · rw [if_neg h4, if_neg h4, b2_some, if_pos rfl]
            rw [e5]
            by_cases h5 : lw T q = [116, 111, 108, 100]
            · rw [if_pos h5, if_pos h5, b2_some, if_neg (by decide)]
              rfl
            · rw [if_neg h5, if_neg h5, b2_some, if_pos rfl]
              rw [e6]
              by_cases h6 : lw T q = [100, 97, 121]
              · rw [if_pos h6, if_pos h6, b2_some, if_neg (by decide)]
                rfl
              · rw [if_neg h6, if_neg h6, b2_some, if_pos rfl]
                rw [e7]
                by_cases h7 : lw T q = [104, 101, 108, 100]
                · rw [if_pos h7, if_pos h7, b2_some, if_neg (by decide)]
                  rfl
                · rw [if_neg h7, if_neg h7, b2_some, if_pos rfl]
                  by_cases h8 : lw T q = [108, 101, 97, 115, 116]
                  · rw [if_pos h8]; rfl
                  · rw [if_neg h8]
                    by_cases h9 : lw T q = [109, 111, 115, 116]
                    · rw [if_pos h9]; rfl
                    · rw [if_neg h9]
theorem r_opnL (g : RLwS T d (w, .inl q) P) (hp : P.1 72 4 = iN q) (hd : d ≤ 6) (hm : w.1 ≤ 150) : TT (f_329 P) (fun r => (if 6 ≤ d then r.1 = 0 ∧ RR T (.inr (3, q)) r.2 else r.1 = 1 ∧ RLwS T (d + 1) (w, .inl q) r.2 ∧ r.2.1 72 4 = iN q) ∧ fr sLr P r.2) := by
  obtain ⟨a1, a2, a3⟩ := g.2 q rfl
  unfold f_329
  rw [if_pos (RR.ok (q := q) g.1), a2, hp]
  by_cases h6 : 6 ≤ d
  · rw [if_pos (show iN d = (6 : Int32) by rw [show d = 6 by omega]; rfl)]
    simp only [h6, ↓reduceIte]
    refine TT_bind (r_wrong g.1 (k := 3) (p := q) (by decide) (by decide)) (fun P2 h2 => ?_)
    rw [if_neg h2.1.no]
    exact TT_some ⟨⟨rfl, h2.1⟩, h2.2.mono sTr_L⟩
  · rw [if_neg (show ¬ iN d = (6 : Int32) by rw [show (6 : Int32) = iN 6 from rfl, iN_eq (by omega) (by decide)]; omega)]
    simp only [h6, ↓reduceIte]
    unfold f_329_28
    rw [if_pos (RR.ok (q := q) g.1), a2]
    refine TT_lt ?_
    have g2 : RR T (.inl q) (ab_pI P 72 8 (iN d + 1)) := RR.keep g.1 (fun b j hb => by unfold kTr at hb; rw [pI_at, if_neg (by omega)])
    rw [if_pos g2.ok]
    refine TT_some ⟨⟨rfl, RLwS.frG g (fun q' e => ⟨q, rfl⟩) g2 (Or.inl (by rw [pI_eq]; exact iN_succ d)) (fun b j hb => by rw [pI_at, if_neg (by omega)]) hm, by rw [pI_nj (by decide)]; exact hp⟩, fr.I (by unfold sLr; omega)⟩
theorem r_down (g : RLwS T (d + 1) x P) (hm : ∀ q, x.2 = .inl q → x.1.1 ≤ 150) : TT (ab_lt (ab_pI P 72 8 ((P.1 72 8) - (1 : Int32))) fun P18 => some P18) (fun r => RLwS T d x r ∧ fr sLr P r) := by
  obtain ⟨w, s⟩ := x
  refine TT_lt (TT_some ⟨?_, fr.I (by unfold sLr; omega)⟩)
  have g2 : RR T s (ab_pI P 72 8 (P.1 72 8 - 1)) := RR.keep g.1 (fun b j hb => by unfold kTr at hb; rw [pI_at, if_neg (by omega)])
  cases s with
  | inr f => exact RLwS.no g2
  | inl q => exact RLwS.frG g (fun q' e => ⟨q, rfl⟩) g2 (Or.inl (by rw [pI_eq, (g.2 q rfl).2.1]; exact iN_pm d)) (fun b j hb => by rw [pI_at, if_neg (by omega)]) (hm q rfl)
theorem r_unitW (ok : okT T) (h150 : T.2 ≤ 150) (hRi : RIv T R d) (hR : RRv T R R' d) (hd : d ≤ 6) (hh : h ≤ 3 * d + 2) (l : LwI T a p h (w, .inl q)) (g : RLwS T d (w, .inl q) P) (hp : P.1 72 4 = iN q) (hw : wIx (lw T q) wsL 0 = some k) (h8 : ¬ k < 8) (hk : k < 10) (hN : 70000 ≤ N) : TT (ab_b2 (f_329 P) fun v20 P19 => if v20 = (0 : Int32) then some P19 else f_291_74 N R' (iN (if k = 8 then 6 else 7)) P19) (fun r => RLwS T d (wdL T R d k w q) r ∧ fr sLr P r) := by
  obtain ⟨l1, l2, l3, l4⟩ := l q rfl
  dsimp only at l3 l4
  have z0 := lw_pos l2 hw
  have z1 := rn_le (p := isLt) l2
  have z2 := rn_ge (p := isB) z1
  have z3 := rn_le (p := isB) z1
  unfold wdL
  rw [if_neg h8]
  refine TT_b2 (r_opnL g hp hd (by omega)) (fun v1 P1 hv => ?_)
  obtain ⟨b1, b2⟩ := hv
  dsimp only at b1 b2
  by_cases h6 : 6 ≤ d
  · rw [if_pos h6] at b1 ⊢
    rw [b1.1, if_pos rfl]
    exact TT_some ⟨RLwS.no b1.2, b2⟩
  · rw [if_neg h6] at b1 ⊢
    obtain ⟨d1, d2, d3⟩ := b1
    rw [d1, if_neg (by decide)]
    unfold f_291_74
    obtain ⟨s1, s2⟩ := r_skipQ d2.1 d3 ok hN
    rw [s1, Option.bind_some]
    have l5 : LwI T a (p + 1) h (w, .inl (sk T (rn isLt T q))) := fun q' e => by
      cases e
      unfold sk
      exact ⟨by omega, z3, by show w.1 + (p + 1) ≤ _; omega, l4⟩
    have hM : ∀ {a p h : Nat} {y : LwS}, LwI T a p h y → ∀ q, y.2 = .inl q → y.1.1 ≤ 150 := fun l q e => by have := l q e; omega
    have g3 : RLwS T (d + 1) (w, .inl (sk T (rn isLt T q))) (ab_pI P1 72 4 (iN (rn isLt T q))) := RLwS.frG d2 (fun q' e => ⟨q, rfl⟩) s2 (Or.inl (by rw [pI_nj (by decide)]; exact (d2.2 q rfl).2.1)) (fun b j hb => by rw [pI_at, if_neg (by omega)]) (by omega)
    have f3 : fr sLr P (ab_pI P1 72 4 (iN (rn isLt T q))) := b2.tr (fr.I (Or.inl (by unfold sTr; omega)))
    have m1 := LwI.sgn (c := 91) l5
    have m2 := hRi _ _ _ _ (by omega) (by omega) m1
    have m3 := LwI.sgn (c := 44) m2
    have m4 := hRi _ _ _ _ (by omega) (by omega) m3
    have m5 := LwI.sgn (c := 93) m4
    have m6 := LwI.op (t := if k = 8 then 6 else 7) (v := 0) m5 (by omega) (by split <;> omega) (by split <;> omega)
    refine TT_bind (r_sgnL (ch := 91) (by decide) g3 (hM l5) ok hN) (fun P3 h3 => ?_)
    refine TT_bind (hR _ _ _ _ _ (by omega) (by omega) m1 h3.1) (fun P4 h4 => ?_)
    refine TT_bind (r_sgnL (ch := 44) (by decide) h4.1 (hM m2) ok hN) (fun P5 h5 => ?_)
    refine TT_bind (hR _ _ _ _ _ (by omega) (by omega) m3 h5.1) (fun P6 h6' => ?_)
    refine TT_bind (r_sgnL (ch := 93) (by decide) h6'.1 (hM m4) ok hN) (fun P7 h7 => ?_)
    refine TT_bind (r_em (c := (if k = 8 then 6 else 7, 0)) h7.1 (fun q' e => by have := m5 q' e; omega) (fun q' e => ⟨rfl, rfl⟩)) (fun P8 h9 => ?_)
    exact (r_down h9.1 (hM m6)).mono (fun r hr => ⟨hr.1, ((((((f3.tr h3.2).tr h4.2).tr h5.2).tr h6'.2).tr h7.2).tr h9.2).tr hr.2⟩)
theorem r_unit (ok : okT T) (h150 : T.2 ≤ 150) (hRi : RIv T R d) (hR : RRv T R R' d) (hd : d ≤ 6) (hh : h ≤ 3 * d + 2) (l : LwI T a p h x) (g : RLwS T d x P) (hN : 70000 ≤ N) : TT (f_291 N R' P) (fun r => RLwS T d (unS T R d x) r ∧ fr sLr P r) := by
  obtain ⟨w, s⟩ := x
  unfold f_291
  cases s with
  | inr f =>
    rw [if_neg (RR.no (f := f) g.1)]
    exact TT_some ⟨RLwS.no g.1, fr.rf⟩
  | inl q =>
    have eu : unS T R d (w, .inl q) = unL T R d w q := rfl
    obtain ⟨l1, l2, l3, l4⟩ := l q rfl
    dsimp only at l3 l4
    have hm : w.1 ≤ 150 := by omega
    rw [eu, if_pos (RR.ok (q := q) g.1), r_blank g.1 ok hN, Option.bind_some]
    have g1 : RLwS T d (w, .inl q) (ab_pI P 72 4 (iN q)) := RLwS.frT g (fun q e => ⟨q, e⟩) (RR.at' g.1) (fr.I (by unfold sTr; omega)) (fun _ _ => hm)
    have f1 : fr sLr P (ab_pI P 72 4 (iN q)) := fr.I (Or.inl (by unfold sTr; omega))
    have hp : (ab_pI P 72 4 (iN q)).1 72 4 = iN q := pI_eq
    generalize ab_pI P 72 4 (iN q) = P1 at g1 f1 hp ⊢
    have hA : TT (f_291_60 N R' (-1) P1) (fun r => RLwS T d (unL T R d w q) r ∧ fr sLr P1 r) → lw T q ≠ [108, 101, 97, 115, 116] → lw T q ≠ [109, 111, 115, 116] → TT (ab_b2 (f_206 N (12 : Int32) (5 : Int32) (1 : Int32) (19 : Int32) (20 : Int32) (0 : Int32) (0 : Int32) (0 : Int32) P1) fun v3 P2 => if v3 = (0 : Int32) then ab_b2 (f_206 N (13 : Int32) (15 : Int32) (19 : Int32) (20 : Int32) (0 : Int32) (0 : Int32) (0 : Int32) (0 : Int32) P2) fun v5 P4 => if v5 = (0 : Int32) then f_291_60 N R' (-1 : Int32) P4 else f_291_60 N R' (7 : Int32) P4 else f_291_60 N R' (6 : Int32) P2) (fun r => RLwS T d (unL T R d w q) r ∧ fr sLr P r) := fun hh2 n1 n2 => by
      rw [r_isWp g1.1 hp ok hN vL_8 (by decide), b2_some, if_pos (by rw [bI_0]; simp [n1]), r_isWp g1.1 hp ok hN vL_9 (by decide), b2_some, if_pos (by rw [bI_0]; simp [n2])]
      exact hh2.mono (fun r hr => ⟨hr.1, f1.tr hr.2⟩)
    have eby : f_209 P1 (P1.1 72 4) = some (byT T q) := by
      have h6 := ok.1
      rw [hp]
      exact r_byte (RR.keep g1.1 (fun b j hb => rfl) : RR T (.inl q) P1).1 ok q (by omega)
    unfold unL at hA ⊢
    by_cases h1 : q < T.2 ∧ isDg (T.1 q) = true
    · have hd9 := isDg_T h1.2
      have hnil : lw T q = [] := lw_nil l2 (fun e => by have := isLt_T e.2; omega)
      rw [if_pos h1] at hA ⊢
      refine hA ?_ (by rw [hnil]; decide) (by rw [hnil]; decide)
      unfold f_291_60
      rw [if_pos rfl, eby, Option.bind_some, if_neg (show ¬ byT T q = (40 : Int32) from fun e => by have := (byT_c ok (c := 40) (by decide)).mp e; omega), r_known g1.1 hp ok hN]
      unfold knS
      rw [hnil, show wIx [] wsL 0 = none by decide]
      dsimp only
      rw [b2_some, if_pos rfl]
      refine TT_b2 (r_num (lo := 0) (hb := 1000) (by decide) (by decide) (by decide) g1.1 ok hN) (fun v1 P2 hv => ?_)
      obtain ⟨b1, b2, b3⟩ := hv
      dsimp only at b1 b2 b3
      have g2 : RLwS T d (w, (numS T 0 1000 (.inl q)).2) P2 := RLwS.frT g1 (fun q' e => ⟨q, rfl⟩) b1 b3 (fun _ _ => hm)
      exact TT_bind (r_em (c := (0, (numS T 0 1000 (.inl q)).1)) g2 (fun q' e => by show w.1 < 150; omega) (fun q' e => ⟨rfl, b2 q' e⟩)) (fun P3 h3 => TT_some ⟨h3.1, (b3.mono sTr_L).tr h3.2⟩)
    · rw [if_neg h1] at hA ⊢
      by_cases h2 : q < T.2 ∧ T.1 q = 40
      · have hnil : lw T q = [] := lw_nil l2 (fun e => by have := isLt_T e.2; omega)
        rw [if_pos h2] at hA ⊢
        refine hA ?_ (by rw [hnil]; decide) (by rw [hnil]; decide)
        unfold f_291_60
        rw [if_pos rfl, eby, Option.bind_some, if_pos (show byT T q = (40 : Int32) from (byT_c ok (c := 40) (by decide)).mpr h2)]
        refine TT_b2 (r_opnL g1 hp hd hm) (fun v1 P2 hv => ?_)
        obtain ⟨b1, b2⟩ := hv
        dsimp only at b1 b2
        by_cases h6 : 6 ≤ d
        · rw [if_pos h6] at b1 ⊢
          rw [b1.1, if_pos rfl]
          exact TT_some ⟨RLwS.no b1.2, b2⟩
        · rw [if_neg h6] at b1 ⊢
          obtain ⟨d1, d2, d3⟩ := b1
          rw [d1, if_neg (by decide), d3]
          refine TT_lt ?_
          rw [show iN q + (1 : Int32) = iN (q + 1) from iN_succ q]
          have l5 : LwI T a p h (w, .inl (sk T (q + 1))) := fun q' e => by
            cases e
            have r1 := rn_ge (p := isB) (T := T) (a := q + 1) (by omega)
            have r2 := rn_le (p := isB) (T := T) (a := q + 1) (by omega)
            unfold sk
            exact ⟨by omega, r2, by show w.1 + p ≤ _; omega, l4⟩
          have g3 : RLwS T (d + 1) (w, .inl (sk T (q + 1))) (ab_pI P2 72 4 (iN (q + 1))) := RLwS.frG d2 (fun q' e => ⟨q, rfl⟩) (RR.at d2.1 (by omega)) (Or.inl (by rw [pI_nj (by decide)]; exact (d2.2 q rfl).2.1)) (fun b j hb => by rw [pI_at, if_neg (by omega)]) hm
          have m1 := hRi _ _ _ _ (by omega) (by omega) l5
          refine TT_bind (hR _ _ _ _ _ (by omega) (by omega) l5 g3) (fun P3 h3 => ?_)
          refine TT_bind (r_sgnL (ch := 41) (by decide) h3.1 (fun q' e => by have := m1 q' e; omega) ok hN) (fun P4 h4 => ?_)
          have m2 := LwI.sgn (c := 41) m1
          exact (r_down h4.1 (fun q' e => by have := m2 q' e; omega)).mono (fun r hr => ⟨hr.1, (((b2.tr (fr.I (Or.inl (by unfold sTr; omega)))).tr h3.2).tr h4.2).tr hr.2⟩)
      · rw [if_neg h2] at hA ⊢
        have n40 : ¬ byT T q = (40 : Int32) := fun e => h2 ((byT_c ok (c := 40) (by decide)).mp e)
        cases hw : wIx (lw T q) wsL 0 with
        | none =>
          rw [hw] at hA
          dsimp only at hA ⊢
          have hno := wIx_no hw
          refine hA ?_ (hno _ (by decide)) (hno _ (by decide))
          unfold f_291_60
          rw [if_pos rfl, eby, Option.bind_some, if_neg n40, r_known g1.1 hp ok hN]
          unfold knS
          rw [hw]
          dsimp only
          rw [b2_some, if_pos rfl]
          refine TT_b2 (r_num (lo := 0) (hb := 1000) (by decide) (by decide) (by decide) g1.1 ok hN) (fun v1 P2 hv => ?_)
          obtain ⟨b1, b2, b3⟩ := hv
          dsimp only at b1 b2 b3
          have h0 : rn isDg T q = q := by
            by_cases hl : q < T.2
            · refine rn_n hl ?_
              cases hc : isDg (T.1 q) with
              | false => rfl
              | true => exact absurd ⟨hl, hc⟩ h1
            · exact rn_end (by omega)
          have en : numS T 0 1000 (.inl q) = (0, .inr (1, q)) := if_pos h0
          rw [en] at b1
          have g2 : RLwS T d (w, .inr (1, q)) P2 := RLwS.no b1
          exact TT_bind (r_em (c := (0, 0)) g2 (fun q' e => by cases e) (fun q' e => by cases e)) (fun P3 h3 => TT_some ⟨h3.1, (b3.mono sTr_L).tr h3.2⟩)
        | some k =>
          have hk : k < 10 := Nat.lt_of_lt_of_le (wIx_lt hw) (by decide)
          obtain ⟨i, hi, hget⟩ := wIx_get hw
          rw [hw] at hA
          dsimp only at hA ⊢
          by_cases h8 : k < 8
          · have hne : lw T q ≠ [108, 101, 97, 115, 116] ∧ lw T q ≠ [109, 111, 115, 116] := by
              rcases (show i = 0 ∨ i = 1 ∨ i = 2 ∨ i = 3 ∨ i = 4 ∨ i = 5 ∨ i = 6 ∨ i = 7 by omega) with rfl | rfl | rfl | rfl | rfl | rfl | rfl | rfl <;> (have hget := Option.some.inj hget; rw [← hget]; decide)
            refine hA ?_ hne.1 hne.2
            unfold f_291_60
            rw [if_pos rfl, eby, Option.bind_some, if_neg n40, r_known g1.1 hp ok hN]
            unfold knS
            rw [hw]
            dsimp only
            rw [if_pos h8, b2_some, if_neg (by rw [iN_nm1 (by omega)]; exact id)]
            obtain ⟨s1, s2⟩ := r_skipQ g1.1 hp ok hN
            have z0 := lw_pos l2 hw
            have z1 := rn_le (p := isLt) l2
            have fT : fr sTr P1 (ab_pI P1 72 4 (iN (rn isLt T q))) := fr.I (by unfold sTr; omega)
            have g2 : RLwS T d (w, .inl (sk T (rn isLt T q))) (ab_pI P1 72 4 (iN (rn isLt T q))) := RLwS.frT g1 (fun q' e => ⟨q, rfl⟩) s2 fT (fun _ _ => hm)
            unfold wdL
            rw [if_pos h8]
            exact TT_bind (r_em (c := (1, k)) g2 (fun q' e => by show w.1 < 150; omega) (fun q' e => ⟨rfl, rfl⟩)) (fun P3 h3 => TT_some ⟨h3.1, (fT.mono sTr_L).tr h3.2⟩)
          · have huw := r_unitW (k := k) ok h150 hRi hR hd hh l g1 hp hw h8 hk hN
            rcases (show k = 8 ∨ k = 9 by omega) with rfl | rfl
            · have hi : i = 8 := by omega
              subst hi
              have hget := Option.some.inj hget
              rw [r_isWp g1.1 hp ok hN vL_8 (by decide), b2_some, if_neg (by rw [bI_0]; rw [← hget]; decide)]
              unfold f_291_60
              rw [if_neg (by decide)]
              exact huw.mono (fun r hr => ⟨hr.1, f1.tr hr.2⟩)
            · have hi : i = 9 := by omega
              subst hi
              have hget := Option.some.inj hget
              rw [r_isWp g1.1 hp ok hN vL_8 (by decide), b2_some, if_pos (by rw [bI_0]; rw [← hget]; decide), r_isWp g1.1 hp ok hN vL_9 (by decide), b2_some, if_neg (by rw [bI_0]; rw [← hget]; decide)]
              unfold f_291_60
              rw [if_neg (by decide)]
              exact huw.mono (fun r hr => ⟨hr.1, f1.tr hr.2⟩)
theorem r_prod4 (ok : okT T) (h150 : T.2 ≤ 150) (hRi : RIv T R d) (hR : RRv T R R' d) (hd : d ≤ 6) (hh : h + 1 ≤ 3 * d + 2) (hN : 70000 ≤ N) : ∀ (c : Nat) (x : LwS) (P : ab_P) (n a p : Nat), c < n → (∀ q, x.2 = .inl q → T.2 - q ≤ c) → LwI T a p (h + 1) x → RLwS T d x P → TT (f_212_4 N R' n P) (fun r => RLwS T d (opS T 42 47 4 5 (unS T R d) c x) r ∧ fr sLr P r) := by
  intro c
  induction c with
  | zero =>
    intro x P n a p hn hc l g
    obtain ⟨n, rfl⟩ : ∃ z, n = z + 1 := ⟨n - 1, by omega⟩
    obtain ⟨w, s⟩ := x
    unfold f_212_4
    cases s with
    | inr f =>
      rw [if_neg (RR.no (f := f) g.1)]
      exact TT_some ⟨g, fr.rf⟩
    | inl q =>
      have hc := hc q rfl
      obtain ⟨l1, l2, l3, l4⟩ := l q rfl
      dsimp only at l3
      rw [if_pos (RR.ok (q := q) g.1)]
      refine TT_b2 (r_takes (c := 42) (by decide) g.1 ok hN) (fun v1 P1 hv => ?_)
      obtain ⟨b1, b2, b3⟩ := hv
      dsimp only at b1 b2 b3
      rw [show tkS T 42 (.inl q) = (false, .inl q) from if_neg (by omega)] at b1 b2
      rw [b1, if_pos (show bI false = 0 from rfl)]
      refine TT_b2 (r_takes (c := 47) (by decide) b2 ok hN) (fun v2 P2 hv2 => ?_)
      obtain ⟨d1, d2, d3⟩ := hv2
      dsimp only at d1 d2 d3
      rw [show tkS T 47 (.inl q) = (false, .inl q) from if_neg (by omega)] at d1 d2
      rw [d1, if_pos (show bI false = 0 from rfl)]
      exact TT_some ⟨RLwS.frT g (fun q' e => ⟨q, rfl⟩) d2 (b3.tr d3) (fun _ _ => by omega), (b3.tr d3).mono sTr_L⟩
  | succ c ih =>
    intro x P n a p hn hc l g
    obtain ⟨n, rfl⟩ : ∃ z, n = z + 1 := ⟨n - 1, by omega⟩
    obtain ⟨w, s⟩ := x
    unfold f_212_4
    cases s with
    | inr f =>
      rw [if_neg (RR.no (f := f) g.1)]
      exact TT_some ⟨g, fr.rf⟩
    | inl q =>
      have hc := hc q rfl
      obtain ⟨l1, l2, l3, l4⟩ := l q rfl
      dsimp only at l3
      rw [if_pos (RR.ok (q := q) g.1)]
      refine TT_b2 (r_takes (c := 42) (by decide) g.1 ok hN) (fun v1 P1 hv => ?_)
      obtain ⟨b1, b2, b3⟩ := hv
      dsimp only at b1 b2 b3
      have eo : opS T 42 47 4 5 (unS T R d) (c + 1) (w, .inl q) = if q < T.2 ∧ T.1 q = 42 then opS T 42 47 4 5 (unS T R d) c (emS (4, 0) (unS T R d (w, .inl (sk T (q + 1))))) else if q < T.2 ∧ T.1 q = 47 then opS T 42 47 4 5 (unS T R d) c (emS (5, 0) (unS T R d (w, .inl (sk T (q + 1))))) else (w, .inl q) := rfl
      rw [eo]
      have go : ∀ (t : Nat) (P0 : ab_P), 2 ≤ t → t ≤ 7 → q < T.2 → RLwS T d (w, .inl (sk T (q + 1))) P0 → fr sLr P P0 → TT (f_212_45 N R' (fun y0 => f_212_4 N R' n y0) (iN t) P0) (fun r => RLwS T d (opS T 42 47 4 5 (unS T R d) c (emS (t, 0) (unS T R d (w, .inl (sk T (q + 1)))))) r ∧ fr sLr P r) := fun t P0 t2 t7 hq g0 f0 => by
        have l0 := LwI.tk l hq
        have lu := LwI.un hRi hd (by omega) l0
        unfold f_212_45
        refine TT_bind (r_unit ok h150 hRi hR hd (by omega) l0 g0 hN) (fun P2 h2 => ?_)
        refine TT_bind (r_em (c := (t, 0)) h2.1 (fun q' e => by have := lu q' e; omega) (fun q' e => ⟨rfl, rfl⟩)) (fun P3 h3 => ?_)
        have lo := LwI.op (h := h) (t := t) (v := 0) lu (by omega) t2 t7
        exact (ih _ P3 n (q + 1) p (by omega) (fun q' e => by have := (lo q' e).1; omega) lo h3.1).mono (fun r hr => ⟨hr.1, ((f0.tr h2.2).tr h3.2).tr hr.2⟩)
      by_cases h1 : q < T.2 ∧ T.1 q = 42
      · rw [show tkS T 42 (.inl q) = (true, .inl (sk T (q + 1))) from if_pos h1] at b1 b2
        rw [if_pos h1, b1, if_neg (show ¬ bI true = 0 by decide)]
        exact go 4 P1 (by decide) (by decide) h1.1 (RLwS.frT g (fun q' e => ⟨q, rfl⟩) b2 b3 (fun _ _ => by omega)) (b3.mono sTr_L)
      · rw [show tkS T 42 (.inl q) = (false, .inl q) from if_neg h1] at b1 b2
        rw [if_neg h1, b1, if_pos (show bI false = 0 from rfl)]
        refine TT_b2 (r_takes (c := 47) (by decide) b2 ok hN) (fun v2 P2 hv2 => ?_)
        obtain ⟨d1, d2, d3⟩ := hv2
        dsimp only at d1 d2 d3
        have g1 : RLwS T d (w, .inl q) P1 := RLwS.frT g (fun q' e => ⟨q, rfl⟩) b2 b3 (fun _ _ => by omega)
        by_cases h2 : q < T.2 ∧ T.1 q = 47
        · rw [show tkS T 47 (.inl q) = (true, .inl (sk T (q + 1))) from if_pos h2] at d1 d2
          rw [if_pos h2, d1, if_neg (show ¬ bI true = 0 by decide)]
          exact go 5 P2 (by decide) (by decide) h2.1 (RLwS.frT g1 (fun q' e => ⟨q, rfl⟩) d2 d3 (fun _ _ => by omega)) ((b3.tr d3).mono sTr_L)
        · rw [show tkS T 47 (.inl q) = (false, .inl q) from if_neg h2] at d1 d2
          rw [if_neg h2, d1, if_pos (show bI false = 0 from rfl)]
          exact TT_some ⟨RLwS.frT g1 (fun q' e => ⟨q, rfl⟩) d2 d3 (fun _ _ => by omega), (b3.tr d3).mono sTr_L⟩
theorem r_prod (ok : okT T) (h150 : T.2 ≤ 150) (hRi : RIv T R d) (hR : RRv T R R' d) (hd : d ≤ 6) (hh : h ≤ 3 * d + 1) (l : LwI T a p h x) (g : RLwS T d x P) (hN : 70000 ≤ N) : TT (f_212 N R' P) (fun r => RLwS T d (prS T R d x) r ∧ fr sLr P r) := by
  unfold f_212
  refine TT_bind (r_unit ok h150 hRi hR hd (by omega) l g hN) (fun P1 h1 => ?_)
  exact (r_prod4 ok h150 hRi hR hd (by omega) hN 150 _ P1 N a p (by omega) (fun q _ => by omega) (LwI.un hRi hd (by omega) l) h1.1).mono (fun r hr => ⟨hr.1, h1.2.tr hr.2⟩)
theorem r_sums4 (ok : okT T) (h150 : T.2 ≤ 150) (hRi : RIv T R d) (hR : RRv T R R' d) (hd : d ≤ 6) (hh : h + 1 ≤ 3 * d + 1) (hN : 70000 ≤ N) : ∀ (c : Nat) (x : LwS) (P : ab_P) (n a p : Nat), c < n → (∀ q, x.2 = .inl q → T.2 - q ≤ c) → LwI T a p (h + 1) x → RLwS T d x P → TT (f_119_4 N R' n P) (fun r => RLwS T d (opS T 43 45 2 3 (prS T R d) c x) r ∧ fr sLr P r) := by
  intro c
  induction c with
  | zero =>
    intro x P n a p hn hc l g
    obtain ⟨n, rfl⟩ : ∃ z, n = z + 1 := ⟨n - 1, by omega⟩
    obtain ⟨w, s⟩ := x
    unfold f_119_4
    cases s with
    | inr f =>
      rw [if_neg (RR.no (f := f) g.1)]
      exact TT_some ⟨g, fr.rf⟩
    | inl q =>
      have hc := hc q rfl
      obtain ⟨l1, l2, l3, l4⟩ := l q rfl
      dsimp only at l3
      rw [if_pos (RR.ok (q := q) g.1)]
      refine TT_b2 (r_takes (c := 43) (by decide) g.1 ok hN) (fun v1 P1 hv => ?_)
      obtain ⟨b1, b2, b3⟩ := hv
      dsimp only at b1 b2 b3
      rw [show tkS T 43 (.inl q) = (false, .inl q) from if_neg (by omega)] at b1 b2
      rw [b1, if_pos (show bI false = 0 from rfl)]
      refine TT_b2 (r_takes (c := 45) (by decide) b2 ok hN) (fun v2 P2 hv2 => ?_)
      obtain ⟨d1, d2, d3⟩ := hv2
      dsimp only at d1 d2 d3
      rw [show tkS T 45 (.inl q) = (false, .inl q) from if_neg (by omega)] at d1 d2
      rw [d1, if_pos (show bI false = 0 from rfl)]
      exact TT_some ⟨RLwS.frT g (fun q' e => ⟨q, rfl⟩) d2 (b3.tr d3) (fun _ _ => by omega), (b3.tr d3).mono sTr_L⟩
  | succ c ih =>
    intro x P n a p hn hc l g
    obtain ⟨n, rfl⟩ : ∃ z, n = z + 1 := ⟨n - 1, by omega⟩
    obtain ⟨w, s⟩ := x
    unfold f_119_4
    cases s with
    | inr f =>
      rw [if_neg (RR.no (f := f) g.1)]
      exact TT_some ⟨g, fr.rf⟩
    | inl q =>
      have hc := hc q rfl
      obtain ⟨l1, l2, l3, l4⟩ := l q rfl
      dsimp only at l3
      rw [if_pos (RR.ok (q := q) g.1)]
      refine TT_b2 (r_takes (c := 43) (by decide) g.1 ok hN) (fun v1 P1 hv => ?_)
      obtain ⟨b1, b2, b3⟩ := hv
      dsimp only at b1 b2 b3
      have eo : opS T 43 45 2 3 (prS T R d) (c + 1) (w, .inl q) = if q < T.2 ∧ T.1 q = 43 then opS T 43 45 2 3 (prS T R d) c (emS (2, 0) (prS T R d (w, .inl (sk T (q + 1))))) else if q < T.2 ∧ T.1 q = 45 then opS T 43 45 2 3 (prS T R d) c (emS (3, 0) (prS T R d (w, .inl (sk T (q + 1))))) else (w, .inl q) := rfl
      rw [eo]
      have go : ∀ (t : Nat) (P0 : ab_P), 2 ≤ t → t ≤ 7 → q < T.2 → RLwS T d (w, .inl (sk T (q + 1))) P0 → fr sLr P P0 → TT (f_119_45 N R' (fun y0 => f_119_4 N R' n y0) (iN t) P0) (fun r => RLwS T d (opS T 43 45 2 3 (prS T R d) c (emS (t, 0) (prS T R d (w, .inl (sk T (q + 1)))))) r ∧ fr sLr P r) := fun t P0 t2 t7 hq g0 f0 => by
        have l0 := LwI.tk l hq
        have lu := LwI.pr hRi hd (by omega) l0
        unfold f_119_45
        refine TT_bind (r_prod ok h150 hRi hR hd (by omega) l0 g0 hN) (fun P2 h2 => ?_)
        refine TT_bind (r_em (c := (t, 0)) h2.1 (fun q' e => by have := lu q' e; omega) (fun q' e => ⟨rfl, rfl⟩)) (fun P3 h3 => ?_)
        have lo := LwI.op (h := h) (t := t) (v := 0) lu (by omega) t2 t7
        exact (ih _ P3 n (q + 1) p (by omega) (fun q' e => by have := (lo q' e).1; omega) lo h3.1).mono (fun r hr => ⟨hr.1, ((f0.tr h2.2).tr h3.2).tr hr.2⟩)
      by_cases h1 : q < T.2 ∧ T.1 q = 43
      · rw [show tkS T 43 (.inl q) = (true, .inl (sk T (q + 1))) from if_pos h1] at b1 b2
        rw [if_pos h1, b1, if_neg (show ¬ bI true = 0 by decide)]
        exact go 2 P1 (by decide) (by decide) h1.1 (RLwS.frT g (fun q' e => ⟨q, rfl⟩) b2 b3 (fun _ _ => by omega)) (b3.mono sTr_L)
      · rw [show tkS T 43 (.inl q) = (false, .inl q) from if_neg h1] at b1 b2
        rw [if_neg h1, b1, if_pos (show bI false = 0 from rfl)]
        refine TT_b2 (r_takes (c := 45) (by decide) b2 ok hN) (fun v2 P2 hv2 => ?_)
        obtain ⟨d1, d2, d3⟩ := hv2
        dsimp only at d1 d2 d3
        have g1 : RLwS T d (w, .inl q) P1 := RLwS.frT g (fun q' e => ⟨q, rfl⟩) b2 b3 (fun _ _ => by omega)
        by_cases h2 : q < T.2 ∧ T.1 q = 45
        · rw [show tkS T 45 (.inl q) = (true, .inl (sk T (q + 1))) from if_pos h2] at d1 d2
          rw [if_pos h2, d1, if_neg (show ¬ bI true = 0 by decide)]
          exact go 3 P2 (by decide) (by decide) h2.1 (RLwS.frT g1 (fun q' e => ⟨q, rfl⟩) d2 d3 (fun _ _ => by omega)) ((b3.tr d3).mono sTr_L)
        · rw [show tkS T 45 (.inl q) = (false, .inl q) from if_neg h2] at d1 d2
          rw [if_neg h2, d1, if_pos (show bI false = 0 from rfl)]
          exact TT_some ⟨RLwS.frT g1 (fun q' e => ⟨q, rfl⟩) d2 d3 (fun _ _ => by omega), (b3.tr d3).mono sTr_L⟩
theorem r_sumB (ok : okT T) (h150 : T.2 ≤ 150) (hRi : RIv T R d) (hR : RRv T R R' d) (hd : d ≤ 6) (hh : h ≤ 3 * d) (l : LwI T a p h x) (g : RLwS T d x P) (hN : 70000 ≤ N) : TT (Option.bind (f_212 N R' P) fun P1 => f_119_4 N R' N P1) (fun r => RLwS T d (suB T R d x) r ∧ fr sLr P r) := by
  refine TT_bind (r_prod ok h150 hRi hR hd (by omega) l g hN) (fun P1 h1 => ?_)
  exact (r_sums4 ok h150 hRi hR hd (by omega) hN 150 _ P1 N a p (by omega) (fun q _ => by omega) (LwI.pr hRi hd (by omega) l) h1.1).mono (fun r hr => ⟨hr.1, h1.2.tr hr.2⟩)
theorem r_sumK (ok : okT T) (h150 : T.2 ≤ 150) (hN : 70000 ≤ N) : ∀ (n d : Nat), d ≤ 6 → 7 ≤ d + n → ∀ (a p h : Nat) (x : LwS) (P : ab_P), h ≤ 3 * d → LwI T a p h x → RLwS T d x P → TT (f_119 N n P) (fun r => RLwS T d (suS T n d x) r ∧ fr sLr P r)
  | 0, d, h1, h2, _, _, _, _, _, _, _, _ => by omega
  | n + 1, d, h1, h2, a, p, h, x, P, hh, l, g => r_sumB (R := suS T n) (R' := fun y0 => f_119 N n y0) ok h150 (fun a p h x hd6 hh l => suS_RI n (d + 1) (by omega) (by omega) a p h x hh l) (fun a p h x P hd6 hh l g => r_sumK ok h150 hN n (d + 1) (by omega) (by omega) a p h x P hh l g) h1 hh l g hN
end LR
