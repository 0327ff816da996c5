/-! a law's text: the component -/
def sLp (b j : Nat) : Prop := sTp b j ∨ b = 18 ∨ b = 19
theorem sTp_L : ∀ b j, sTp b j → sLp b j := fun _ _ h => Or.inl h
def CLwS (T : TX) (x : LwS) (P : ab_P) : Prop := CR T x.2 P ∧ ∀ q, x.2 = .inl q → P.1 18 1 = iN x.1.1 ∧ ∀ k, k < x.1.1 → P.1 19 k = encC (x.1.2 k)
def RCv (T : TX) (R : Nat → LwS → LwS) (R' : Int32 → ab_P → Option ab_P) (d : Nat) : Prop := ∀ a p h x P, d < 6 → h ≤ 3 * (d + 1) → LwI T a p h x → CLwS T x P → TT (R' (iN (d + 1)) P) (fun r => CLwS T (R (d + 1) x) r ∧ fr sLp P r)
section LC
variable {T : TX} {R : Nat → LwS → LwS} {R' : Int32 → ab_P → Option ab_P} {P : ab_P} {N a p h d k q : Nat} {x : LwS} {w : LW} {v : Int32} {c : Nat × Nat} {s : RS}
theorem CLwS.fr {P' : ab_P} {s' : RS} (g : CLwS T (w, s) P) (hs : ∀ q, s' = .inl q → ∃ q', s = .inl q') (g2 : CR T s' P') (f : fr sTp P P') : CLwS T (w, s') P' := by
  refine ⟨g2, fun q e => ?_⟩
  obtain ⟨q', e'⟩ := hs q e
  obtain ⟨a1, a2⟩ := g.2 q' e'
  exact ⟨(f.1 18 1 (by unfold sTp; omega)).trans a1, fun k hk => (f.1 19 k (by unfold sTp; omega)).trans (a2 k hk)⟩
theorem CLwS.no {f : Nat × Nat} (g : CR T (.inr f) P) : CLwS T (w, .inr f) P := ⟨g, fun q e => by cases e⟩
theorem c_emitA (v : Int32) (P : ab_P) : TT (f_328 18 v P) (fun r => fr (fun b _ => b = 18 ∨ b = 19) P r) := by
  unfold f_328
  by_cases h1 : P.1 18 1 < 0
  · rw [if_pos h1]
    exact TT_some fr.rf
  · rw [if_neg h1]
    by_cases h2 : P.1 18 1 < 150
    · obtain ⟨k, hk, e⟩ := iN_of (m := 150) h1 (by decide) h2
      rw [if_pos h2, e, if_pos (iN_gi hk (by decide))]
      exact TT_lt (TT_lt (TT_some ((fr.I (Or.inr rfl)).tr (fr.I (Or.inl rfl)))))
    · rw [if_neg h2]
      exact TT_some fr.rf
theorem c_em (g : CLwS T x P) (hl : ∀ q, x.2 = .inl q → x.1.1 < 150) (hv : ∀ q, x.2 = .inl q → v = encC c) : TT (f_328 18 v P) (fun r => CLwS T (emS c x) r ∧ fr sLp P r) := by
  obtain ⟨w, s⟩ := x
  cases s with
  | inr f =>
    exact (c_emitA v P).mono (fun r hr => ⟨CLwS.no (g.1.keep (fun b j hb => hr.1 b j (by unfold kTp at hb; omega))), hr.mono (fun b j e => Or.inr e)⟩)
  | inl q =>
    have hl := hl q rfl
    have hv := hv q rfl
    obtain ⟨a1, a2⟩ := g.2 q rfl
    dsimp only at a1 a2 hl
    subst hv
    unfold f_328
    rw [a1, if_neg (by rw [iN_neg (by omega)]; exact id), if_pos (by rw [iN_ltl (by omega) (by decide)]; exact hl), if_pos (iN_gi hl (by decide)), iN_nat (by omega)]
    refine TT_lt (TT_lt (TT_some ⟨⟨g.1.keep (fun b j hb => by unfold kTp at hb; rw [pI_ne (by omega), pI_ne (by omega)]), fun q' e => ⟨?_, fun k hk => ?_⟩⟩, (fr.I (Or.inr (Or.inr rfl))).tr (fr.I (Or.inr (Or.inl rfl)))⟩))
    · rw [pI_eq, pI_ne (by decide), a1]
      exact iN_succ _
    · have hk : k < w.1 + 1 := hk
      rw [pI_ne (by decide), pI_at]
      show _ = encC (if k = w.1 then c else w.2 k)
      by_cases ek : k = w.1
      · rw [if_pos ⟨rfl, ek⟩, if_pos ek]
      · rw [if_neg (fun e => ek e.2), if_neg ek]
        exact a2 k (by omega)
theorem c_sgnL {ch : Nat} (hc : ch < 256) (g : CLwS T x P) (ok : okT T) (hN : 70000 ≤ N) : TT (f_324 N (iN ch) P) (fun r => CLwS T (onS (sgnS T ch) x) r ∧ fr sLp P r) := by
  obtain ⟨w, s⟩ := x
  exact (c_sign hc g.1 ok hN).mono (fun r hr => ⟨CLwS.fr g (fun q e => sgnS_l e) hr.1 hr.2, hr.2.mono sTp_L⟩)
theorem c_isDgT (ok : okT T) (i : Nat) : f_351 P (byT T i) = some (bI (decide (i < T.2) && isDg (T.1 i))) := r_isDg (P := P) ok i
theorem c_90n {f : Nat × Nat} {x2 x4 : Int32} (g : CR T (.inr f) P) : f_352_90 18 N R' x2 x4 P = some P := by
  unfold f_352_90
  rw [c_isF g, Option.bind_some, if_neg (show ¬ bI (isF (.inr f)) = 0 from (by decide : ¬ bI true = 0))]
theorem c_90y {x2 x4 : Int32} (g : CR T (.inl q) P) : f_352_90 18 N R' x2 x4 P = f_352_98 18 N R' x2 x4 P := by
  unfold f_352_90
  rw [c_isF g, Option.bind_some, if_pos (show bI (isF (.inl q)) = 0 from rfl)]
theorem d_lt6 (hd : d ≤ 6) : (iN d < (6 : Int32)) = (d < 6) := iN_ltl (by omega) (by decide)
theorem c_unit (ok : okT T) (h150 : T.2 ≤ 150) (hRi : RIv T R d) (hR : RCv T R R' d) (hd : d ≤ 6) (hh : h ≤ 3 * d + 2) (l : LwI T a p h x) (g : CLwS T x P) (hN : 70000 ≤ N) : TT (f_352 18 N R' (iN d) P) (fun r => CLwS T (unS T R d x) r ∧ fr sLp P r) := by
  obtain ⟨w, s⟩ := x
  unfold f_352
  rw [c_isF g.1, Option.bind_some]
  cases s with
  | inr f =>
    have eu : unS T R d (w, .inr f) = (w, .inr f) := rfl
    rw [eu, if_neg (show ¬ bI (isF (.inr f)) = 0 from (by decide : ¬ bI true = 0))]
    unfold f_352_15
    rw [show f_351 P (-1) = some 0 from rfl, Option.bind_some, if_pos rfl]
    unfold f_352_36
    rw [if_neg (by decide)]
    refine TT_b2 (c_word1 g.1 ok hN) (fun v1 P1 hv => ?_)
    obtain ⟨b1, b2, _, b4⟩ := hv
    dsimp only at b1 b2 b4
    rw [show wdS T wsL (.inr f) = (none, .inr f) from rfl] at b1 b2
    unfold f_352_53
    rw [b1, oN_none, if_pos (by decide), c_90n b2]
    exact TT_some ⟨CLwS.no b2, b4.mono sTp_L⟩
  | inl q =>
    have eu : unS T R d (w, .inl q) = unL T R d w q := rfl
    obtain ⟨l1, l2, l3, l4⟩ := l q rfl
    dsimp only at l3 l4
    rw [eu, if_pos (show bI (isF (.inl q)) = 0 from rfl), c_nxt g.1 ok hN, b2_some]
    have g1 : CLwS T (w, .inl q) (ab_pI P 1 3 (iN q)) := CLwS.fr g (fun q e => ⟨q, e⟩) (CR.at' g.1) (fr.I (by unfold sTp; omega))
    have f1 : fr sLp P (ab_pI P 1 3 (iN q)) := fr.I (Or.inl (by unfold sTp; omega))
    have e3 : (ab_pI P 1 3 (iN q)).1 1 3 = iN q := pI_eq
    generalize ab_pI P 1 3 (iN q) = P1 at g1 f1 e3 ⊢
    unfold f_352_15
    rw [c_isDgT ok, Option.bind_some]
    unfold unL
    by_cases h1 : q < T.2 ∧ isDg (T.1 q) = true
    · rw [if_pos h1, if_neg (by rw [bI_0]; simp [h1.1, h1.2])]
      refine TT_b2 (c_num (lo := 0) (hb := 1000) (by decide) (by decide) (by decide) g1.1 ok hN) (fun v1 P2 hv => ?_)
      obtain ⟨b1, b2, b3⟩ := hv
      dsimp only at b1 b2 b3
      have g2 : CLwS T (w, (numS T 0 1000 (.inl q)).2) P2 := CLwS.fr g1 (fun q' e => ⟨q, rfl⟩) b1 b3
      refine TT_bind (c_em (c := (0, (numS T 0 1000 (.inl q)).1)) g2 (fun q' e => by show w.1 < 150; omega) (fun q' e => (b2 q' e).1)) (fun P3 h3 => TT_some ⟨h3.1, (f1.tr (b3.mono sTp_L)).tr h3.2⟩)
    · rw [if_neg h1, if_pos (by rw [bI_0]; simpa using h1)]
      unfold f_352_36
      by_cases h2 : q < T.2 ∧ T.1 q = 40
      · rw [if_pos h2, if_pos (show byT T q = (40 : Int32) from (byT_c ok (c := 40) (by decide)).mpr h2)]
        unfold f_352_53
        rw [if_neg (by decide)]
        by_cases h3 : 6 ≤ d
        · rw [if_pos h3, if_neg (by rw [d_lt6 hd]; omega), if_pos (show byT T q = (40 : Int32) from (byT_c ok (c := 40) (by decide)).mpr h2), e3]
          refine TT_bind (c_blame g1.1 (k := 3) (p := q) (by decide) (by decide)) (fun P2 h4 => ?_)
          rw [c_90n h4.1]
          exact TT_some ⟨CLwS.no h4.1, f1.tr (h4.2.mono sTp_L)⟩
        · rw [if_neg h3, if_pos (by rw [d_lt6 hd]; omega), c_90y g1.1]
          unfold f_352_98
          rw [if_neg (by decide)]
          unfold f_352_118
          rw [if_pos rfl]
          refine TT_bind (c_sgnL (ch := 40) (by decide) g1 ok hN) (fun P2 h4 => ?_)
          have e40 : onS (sgnS T 40) (w, .inl q) = (w, .inl (sk T (q + 1))) := by
            show (w, sgnS T 40 (.inl q)) = _
            rw [show sgnS T 40 (.inl q) = .inl (sk T (q + 1)) from if_pos h2]
          rw [e40] at h4
          have l5 : LwI T a p h (w, .inl (sk T (q + 1))) := fun q' e => by
            cases e
            have r1 := rn_ge (p := isB) (T := T) (a := q + 1) (by omega)
            have r2 := rn_le (p := isB) (T := T) (a := q + 1) (by omega)
            unfold sk
            exact ⟨by omega, r2, by show w.1 + p ≤ _; omega, l4⟩
          rw [show iN d + (1 : Int32) = iN (d + 1) from iN_succ d]
          refine TT_bind (hR _ _ _ _ _ (by omega) (by omega) l5 h4.1) (fun P3 h5 => ?_)
          refine TT_bind (c_sgnL (ch := 41) (by decide) h5.1 ok hN) (fun P4 h6 => TT_some ⟨h6.1, ((f1.tr h4.2).tr h5.2).tr h6.2⟩)
      · rw [if_neg h2, if_neg (show ¬ byT T q = (40 : Int32) from fun e => h2 ((byT_c ok (c := 40) (by decide)).mp e))]
        refine TT_b2 (c_word1 g1.1 ok hN) (fun v1 P2 hv => ?_)
        obtain ⟨b1, b2, b3, b4⟩ := hv
        dsimp only at b1 b2 b3 b4
        have e4 := b3 q rfl
        cases hw : wIx (lw T q) wsL 0 with
        | none =>
          rw [wdS_none hw] at b1 b2
          dsimp only at b1 b2 ⊢
          unfold f_352_53
          rw [b1, oN_none, if_pos (by decide), c_90n b2]
          exact TT_some ⟨CLwS.no b2, f1.tr (b4.mono sTp_L)⟩
        | some k =>
          have hk : k < 10 := Nat.lt_of_lt_of_le (wIx_lt hw) (by decide)
          rw [wdS_some hw] at b1 b2
          dsimp only at b1 b2 ⊢
          have z0 := lw_pos l2 hw
          have z1 := rn_le (p := isLt) l2
          have z2 := rn_ge (p := isB) z1
          have z3 := rn_le (p := isB) z1
          have g2 : CLwS T (w, .inl (sk T (rn isLt T q))) P2 := CLwS.fr g1 (fun q' e => ⟨q, rfl⟩) b2 b4
          have l5 : LwI T a (p + 1) h (w, .inl (sk T (rn isLt T q))) := fun q' e => by
            cases e
            unfold sk
            exact ⟨by omega, z3, by show w.1 + (p + 1) ≤ _; omega, l4⟩
          have f2 : fr sLp P P2 := f1.tr (b4.mono sTp_L)
          have k8 : (iN k < (8 : Int32)) = (k < 8) := iN_ltl (by omega) (by decide)
          unfold f_352_53 wdL
          rw [b1, oN_some]
          by_cases h4 : k < 8
          · rw [if_pos h4, if_pos (by rw [k8]; exact h4), c_90y b2]
            unfold f_352_98
            rw [if_pos (by rw [k8]; exact h4)]
            refine TT_bind (c_em (c := (1, k)) g2 (fun q' e => by show w.1 < 150; omega) (fun q' e => iN_add 1000 k)) (fun P3 h5 => TT_some ⟨h5.1, f2.tr h5.2⟩)
          · rw [if_neg h4, if_neg (by rw [k8]; exact h4)]
            by_cases h3 : 6 ≤ d
            · rw [if_pos h3, if_neg (by rw [d_lt6 hd]; omega), if_neg (show ¬ byT T q = (40 : Int32) from fun e => h2 ((byT_c ok (c := 40) (by decide)).mp e)), e4]
              refine TT_bind (c_blame b2 (k := 3) (p := q) (by decide) (by decide)) (fun P3 h5 => ?_)
              rw [c_90n h5.1]
              exact TT_some ⟨CLwS.no h5.1, f2.tr (h5.2.mono sTp_L)⟩
            · rw [if_neg h3, if_pos (by rw [d_lt6 hd]; omega), c_90y b2]
              unfold f_352_98
              rw [if_neg (by rw [k8]; exact h4)]
              unfold f_352_118
              rw [if_neg (show ¬ iN k = (10 : Int32) by rw [show (10 : Int32) = iN 10 from rfl, iN_eq (by omega) (by decide)]; omega)]
              unfold f_352_148
              rw [show iN d + (1 : Int32) = iN (d + 1) from iN_succ d]
              refine TT_bind (c_sgnL (ch := 91) (by decide) g2 ok hN) (fun P3 h5 => ?_)
              refine TT_bind (hR _ _ _ _ _ (by omega) (by omega) (LwI.sgn l5) h5.1) (fun P4 h6 => ?_)
              refine TT_bind (c_sgnL (ch := 44) (by decide) h6.1 ok hN) (fun P5 h7 => ?_)
              have l6 := LwI.sgn (c := 44) (hRi _ _ _ _ (by omega) (by omega) (LwI.sgn (c := 91) l5))
              refine TT_bind (hR _ _ _ _ _ (by omega) (by omega) l6 h7.1) (fun P6 h8 => ?_)
              refine TT_bind (c_sgnL (ch := 93) (by decide) h8.1 ok hN) (fun P7 h9 => ?_)
              have l7 := LwI.sgn (c := 93) (hRi _ _ _ _ (by omega) (by omega) l6)
              have f3 : fr sLp P P7 := ((((f2.tr h5.2).tr h6.2).tr h7.2).tr h8.2).tr h9.2
              have hl : ∀ q', (onS (sgnS T 93) (R (d + 1) (onS (sgnS T 44) (R (d + 1) (onS (sgnS T 91) (w, .inl (sk T (rn isLt T q)))))))).2 = .inl q' → (onS (sgnS T 93) (R (d + 1) (onS (sgnS T 44) (R (d + 1) (onS (sgnS T 91) (w, .inl (sk T (rn isLt T q)))))))).1.1 < 150 := fun q' e => by
                have := l7 q' e
                omega
              rcases (show k = 8 ∨ k = 9 by omega) with rfl | rfl
              · rw [if_pos (show iN 8 = (8 : Int32) from rfl), if_pos rfl]
                exact TT_bind (c_em (c := (6, 0)) h9.1 hl (fun q' e => rfl)) (fun P8 h10 => TT_some ⟨h10.1, f3.tr h10.2⟩)
              · rw [if_neg (show ¬ iN 9 = (8 : Int32) by decide), if_neg (show ¬ 9 = 8 by decide)]
                exact TT_bind (c_em (c := (7, 0)) h9.1 hl (fun q' e => rfl)) (fun P8 h10 => TT_some ⟨h10.1, f3.tr h10.2⟩)
theorem LwI.tk (l : LwI T a p h (w, .inl q)) (hq : q < T.2) : LwI T (q + 1) (p + 1) h (w, .inl (sk T (q + 1))) := fun q' e => by
  cases e
  obtain ⟨l1, l2, l3, l4⟩ := l q rfl
  dsimp only at l3
  have r1 := rn_ge (p := isB) (T := T) (a := q + 1) (by omega)
  have r2 := rn_le (p := isB) (T := T) (a := q + 1) (by omega)
  unfold sk
  exact ⟨by omega, r2, by show w.1 + (p + 1) ≤ _; omega, l4⟩
theorem LwI.dn {b : Nat} (hb : b ≤ a) (l : LwI T a p h x) : LwI T b p h x := fun q e => ⟨Nat.le_trans hb (l q e).1, (l q e).2⟩
theorem c_prod8 (ok : okT T) (h150 : T.2 ≤ 150) (hRi : RIv T R d) (hR : RCv T R R' d) (hd : d ≤ 6) (hh : h + 1 ≤ 3 * d + 2) (hN : 70000 ≤ N) : ∀ (c i : Nat) (x : LwS) (P : ab_P) (n a p : Nat), i + c = 150 → c < n → LwI T a p (h + 1) x → CLwS T x P → TT (f_326_8 18 N R' n (iN d) (iN i) P) (fun r => CLwS T (opS T 42 47 4 5 (unS T R d) c x) r ∧ fr sLp P r) := by
  intro c
  induction c with
  | zero =>
    intro i x P n a p hi hn l g
    obtain ⟨n, rfl⟩ : ∃ z, n = z + 1 := ⟨n - 1, by omega⟩
    unfold f_326_8
    rw [if_neg (by rw [iN_ltl (by omega) (by decide)]; exact (show ¬ i < 150 by omega))]
    exact TT_some ⟨g, fr.rf⟩
  | succ c ih =>
    intro i x P n a p hi hn l g
    obtain ⟨n, rfl⟩ : ∃ z, n = z + 1 := ⟨n - 1, by omega⟩
    obtain ⟨w, s⟩ := x
    unfold f_326_8
    rw [if_pos (by rw [iN_ltl (by omega) (by decide)]; exact (show i < 150 by omega))]
    refine TT_b2 (c_takes (c := 42) (by decide) g.1 ok hN) (fun v1 P1 hv => ?_)
    obtain ⟨b1, b2, b3⟩ := hv
    dsimp only at b1 b2 b3
    cases s with
    | inr f =>
      rw [show tkS T 42 (.inr f) = (false, .inr f) from rfl] at b1 b2
      rw [b1, if_pos (show bI false = 0 from rfl)]
      refine TT_b2 (c_takes (c := 47) (by decide) b2 ok hN) (fun v2 P2 hv2 => ?_)
      obtain ⟨d1, d2, d3⟩ := hv2
      dsimp only at d1 d2 d3
      rw [show tkS T 47 (.inr f) = (false, .inr f) from rfl] at d1 d2
      rw [d1, if_pos (show bI false = 0 from rfl)]
      exact TT_some ⟨CLwS.no d2, (b3.tr d3).mono sTp_L⟩
    | inl q =>
      have eo : opS T 42 47 4 5 (unS T R d) (c + 1) (w, .inl q) = if q < T.2 ∧ T.1 q = 42 then opS T 42 47 4 5 (unS T R d) c (emS (4, 0) (unS T R d (w, .inl (sk T (q + 1))))) else if q < T.2 ∧ T.1 q = 47 then opS T 42 47 4 5 (unS T R d) c (emS (5, 0) (unS T R d (w, .inl (sk T (q + 1))))) else (w, .inl q) := rfl
      rw [eo]
      have go : ∀ (t : Nat) (P0 : ab_P), 2 ≤ t → t ≤ 7 → q < T.2 → CLwS T (w, .inl (sk T (q + 1))) P0 → fr sLp P P0 → TT (f_326_55 18 N R' (fun y0 y1 y2 => f_326_8 18 N R' n y0 y1 y2) (iN d) (iN i) (iN (1998 + t)) P0) (fun r => CLwS T (opS T 42 47 4 5 (unS T R d) c (emS (t, 0) (unS T R d (w, .inl (sk T (q + 1)))))) r ∧ fr sLp P r) := fun t P0 t2 t7 hq g0 f0 => by
        have l0 := LwI.tk l hq
        have lu := LwI.un hRi hd (by omega) l0
        unfold f_326_55
        refine TT_bind (c_unit ok h150 hRi hR hd (by omega) l0 g0 hN) (fun P2 h2 => ?_)
        have et : encC (t, 0) = iN (1998 + t) := by
          unfold encC
          dsimp only
          rw [if_neg (by omega), if_neg (by omega)]
        refine TT_bind (c_em (c := (t, 0)) h2.1 (fun q' e => by have := lu q' e; omega) (fun q' e => et.symm)) (fun P3 h3 => ?_)
        rw [iN_succ]
        refine (ih (i + 1) _ P3 n (q + 1) p (by omega) (by omega) (LwI.op (h := h) (t := t) (v := 0) lu (by omega) t2 t7) h3.1).mono (fun r hr => ⟨hr.1, ((f0.tr h2.2).tr h3.2).tr hr.2⟩)
      by_cases h1 : q < T.2 ∧ T.1 q = 42
      · rw [show tkS T 42 (.inl q) = (true, .inl (sk T (q + 1))) from if_pos h1] at b1 b2
        rw [if_pos h1, b1, if_neg (show ¬ bI true = 0 by decide)]
        exact go 4 P1 (by decide) (by decide) h1.1 (CLwS.fr g (fun q' e => ⟨q, rfl⟩) b2 b3) (b3.mono sTp_L)
      · rw [show tkS T 42 (.inl q) = (false, .inl q) from if_neg h1] at b1 b2
        rw [if_neg h1, b1, if_pos (show bI false = 0 from rfl)]
        refine TT_b2 (c_takes (c := 47) (by decide) b2 ok hN) (fun v2 P2 hv2 => ?_)
        obtain ⟨d1, d2, d3⟩ := hv2
        dsimp only at d1 d2 d3
        have g1 : CLwS T (w, .inl q) P1 := CLwS.fr g (fun q' e => ⟨q, rfl⟩) b2 b3
        by_cases h2 : q < T.2 ∧ T.1 q = 47
        · rw [show tkS T 47 (.inl q) = (true, .inl (sk T (q + 1))) from if_pos h2] at d1 d2
          rw [if_pos h2, d1, if_neg (show ¬ bI true = 0 by decide)]
          exact go 5 P2 (by decide) (by decide) h2.1 (CLwS.fr g1 (fun q' e => ⟨q, rfl⟩) d2 d3) ((b3.tr d3).mono sTp_L)
        · rw [show tkS T 47 (.inl q) = (false, .inl q) from if_neg h2] at d1 d2
          rw [if_neg h2, d1, if_pos (show bI false = 0 from rfl)]
          exact TT_some ⟨CLwS.fr g1 (fun q' e => ⟨q, rfl⟩) d2 d3, (b3.tr d3).mono sTp_L⟩
theorem c_prod (ok : okT T) (h150 : T.2 ≤ 150) (hRi : RIv T R d) (hR : RCv T R R' d) (hd : d ≤ 6) (hh : h ≤ 3 * d + 1) (l : LwI T a p h x) (g : CLwS T x P) (hN : 70000 ≤ N) : TT (f_326 18 N R' (iN d) P) (fun r => CLwS T (prS T R d x) r ∧ fr sLp P r) := by
  unfold f_326
  refine TT_bind (c_unit ok h150 hRi hR hd (by omega) l g hN) (fun P1 h1 => ?_)
  exact (c_prod8 ok h150 hRi hR hd (by omega) hN 150 0 _ P1 N a p (by decide) (by omega) (LwI.un hRi hd (by omega) l) h1.1).mono (fun r hr => ⟨hr.1, h1.2.tr hr.2⟩)
theorem c_sums8 (ok : okT T) (h150 : T.2 ≤ 150) (hRi : RIv T R d) (hR : RCv T R R' d) (hd : d ≤ 6) (hh : h + 1 ≤ 3 * d + 1) (hN : 70000 ≤ N) : ∀ (c i : Nat) (x : LwS) (P : ab_P) (n a p : Nat), i + c = 150 → c < n → LwI T a p (h + 1) x → CLwS T x P → TT (f_289_8 18 N R' n (iN d) (iN i) P) (fun r => CLwS T (opS T 43 45 2 3 (prS T R d) c x) r ∧ fr sLp P r) := by
  intro c
  induction c with
  | zero =>
    intro i x P n a p hi hn l g
    obtain ⟨n, rfl⟩ : ∃ z, n = z + 1 := ⟨n - 1, by omega⟩
    unfold f_289_8
    rw [if_neg (by rw [iN_ltl (by omega) (by decide)]; exact (show ¬ i < 150 by omega))]
    exact TT_some ⟨g, fr.rf⟩
  | succ c ih =>
    intro i x P n a p hi hn l g
    obtain ⟨n, rfl⟩ : ∃ z, n = z + 1 := ⟨n - 1, by omega⟩
    obtain ⟨w, s⟩ := x
    unfold f_289_8
    rw [if_pos (by rw [iN_ltl (by omega) (by decide)]; exact (show i < 150 by omega))]
    refine TT_b2 (c_takes (c := 43) (by decide) g.1 ok hN) (fun v1 P1 hv => ?_)
    obtain ⟨b1, b2, b3⟩ := hv
    dsimp only at b1 b2 b3
    cases s with
    | inr f =>
      rw [show tkS T 43 (.inr f) = (false, .inr f) from rfl] at b1 b2
      rw [b1, if_pos (show bI false = 0 from rfl)]
      refine TT_b2 (c_takes (c := 45) (by decide) b2 ok hN) (fun v2 P2 hv2 => ?_)
      obtain ⟨d1, d2, d3⟩ := hv2
      dsimp only at d1 d2 d3
      rw [show tkS T 45 (.inr f) = (false, .inr f) from rfl] at d1 d2
      rw [d1, if_pos (show bI false = 0 from rfl)]
      exact TT_some ⟨CLwS.no d2, (b3.tr d3).mono sTp_L⟩
    | inl q =>
      have eo : opS T 43 45 2 3 (prS T R d) (c + 1) (w, .inl q) = if q < T.2 ∧ T.1 q = 43 then opS T 43 45 2 3 (prS T R d) c (emS (2, 0) (prS T R d (w, .inl (sk T (q + 1))))) else if q < T.2 ∧ T.1 q = 45 then opS T 43 45 2 3 (prS T R d) c (emS (3, 0) (prS T R d (w, .inl (sk T (q + 1))))) else (w, .inl q) := rfl
      rw [eo]
      have go : ∀ (t : Nat) (P0 : ab_P), 2 ≤ t → t ≤ 7 → q < T.2 → CLwS T (w, .inl (sk T (q + 1))) P0 → fr sLp P P0 → TT (f_289_55 18 N R' (fun y0 y1 y2 => f_289_8 18 N R' n y0 y1 y2) (iN d) (iN i) (iN (1998 + t)) P0) (fun r => CLwS T (opS T 43 45 2 3 (prS T R d) c (emS (t, 0) (prS T R d (w, .inl (sk T (q + 1)))))) r ∧ fr sLp P r) := fun t P0 t2 t7 hq g0 f0 => by
        have l0 := LwI.tk l hq
        have lu := LwI.pr hRi hd (by omega) l0
        unfold f_289_55
        refine TT_bind (c_prod ok h150 hRi hR hd (by omega) l0 g0 hN) (fun P2 h2 => ?_)
        have et : encC (t, 0) = iN (1998 + t) := by
          unfold encC
          dsimp only
          rw [if_neg (by omega), if_neg (by omega)]
        refine TT_bind (c_em (c := (t, 0)) h2.1 (fun q' e => by have := lu q' e; omega) (fun q' e => et.symm)) (fun P3 h3 => ?_)
        rw [iN_succ]
        refine (ih (i + 1) _ P3 n (q + 1) p (by omega) (by omega) (LwI.op (h := h) (t := t) (v := 0) lu (by omega) t2 t7) h3.1).mono (fun r hr => ⟨hr.1, ((f0.tr h2.2).tr h3.2).tr hr.2⟩)
      by_cases h1 : q < T.2 ∧ T.1 q = 43
      · rw [show tkS T 43 (.inl q) = (true, .inl (sk T (q + 1))) from if_pos h1] at b1 b2
        rw [if_pos h1, b1, if_neg (show ¬ bI true = 0 by decide)]
        exact go 2 P1 (by decide) (by decide) h1.1 (CLwS.fr g (fun q' e => ⟨q, rfl⟩) b2 b3) (b3.mono sTp_L)
      · rw [show tkS T 43 (.inl q) = (false, .inl q) from if_neg h1] at b1 b2
        rw [if_neg h1, b1, if_pos (show bI false = 0 from rfl)]
        refine TT_b2 (c_takes (c := 45) (by decide) b2 ok hN) (fun v2 P2 hv2 => ?_)
        obtain ⟨d1, d2, d3⟩ := hv2
        dsimp only at d1 d2 d3
        have g1 : CLwS T (w, .inl q) P1 := CLwS.fr g (fun q' e => ⟨q, rfl⟩) b2 b3
        by_cases h2 : q < T.2 ∧ T.1 q = 45
        · rw [show tkS T 45 (.inl q) = (true, .inl (sk T (q + 1))) from if_pos h2] at d1 d2
          rw [if_pos h2, d1, if_neg (show ¬ bI true = 0 by decide)]
          exact go 3 P2 (by decide) (by decide) h2.1 (CLwS.fr g1 (fun q' e => ⟨q, rfl⟩) d2 d3) ((b3.tr d3).mono sTp_L)
        · rw [show tkS T 45 (.inl q) = (false, .inl q) from if_neg h2] at d1 d2
          rw [if_neg h2, d1, if_pos (show bI false = 0 from rfl)]
          exact TT_some ⟨CLwS.fr g1 (fun q' e => ⟨q, rfl⟩) d2 d3, (b3.tr d3).mono sTp_L⟩
theorem c_sumB (ok : okT T) (h150 : T.2 ≤ 150) (hRi : RIv T R d) (hR : RCv T R R' d) (hd : d ≤ 6) (hh : h ≤ 3 * d) (l : LwI T a p h x) (g : CLwS T x P) (hN : 70000 ≤ N) : TT (Option.bind (f_326 18 N R' (iN d) P) fun P1 => f_289_8 18 N R' N (iN d) (0 : Int32) P1) (fun r => CLwS T (suB T R d x) r ∧ fr sLp P r) := by
  refine TT_bind (c_prod ok h150 hRi hR hd (by omega) l g hN) (fun P1 h1 => ?_)
  exact (c_sums8 ok h150 hRi hR hd (by omega) hN 150 0 _ P1 N a p (by decide) (by omega) (LwI.pr hRi hd (by omega) l) h1.1).mono (fun r hr => ⟨hr.1, h1.2.tr hr.2⟩)
theorem c_sumK (ok : okT T) (h150 : T.2 ≤ 150) (hN : 70000 ≤ N) : ∀ (n d : Nat), d ≤ 6 → 7 ≤ d + n → ∀ (a p h : Nat) (x : LwS) (P : ab_P), h ≤ 3 * d → LwI T a p h x → CLwS T x P → TT (f_289 18 N n (iN d) P) (fun r => CLwS T (suS T n d x) r ∧ fr sLp P r)
  | 0, d, h1, h2, _, _, _, _, _, _, _, _ => by omega
  | n + 1, d, h1, h2, a, p, h, x, P, hh, l, g => c_sumB (R := suS T n) (R' := fun y0 y1 => f_289 18 N n y0 y1) ok h150 (fun a p h x hd6 hh l => suS_RI n (d + 1) (by omega) (by omega) a p h x hh l) (fun a p h x P hd6 hh l g => c_sumK ok h150 hN n (d + 1) (by omega) (by omega) a p h x P hh l g) h1 hh l g hN
def endL (T : TX) (x : LwS) : LwS := match x.2 with
  | .inl q => if q < T.2 then (x.1, .inr (1, q)) else x
  | .inr f => (x.1, .inr f)
def lw00 (T : TX) : LwS := ((0, fun _ => (0, 0)), .inl (sk T 0))
def lawS (T : TX) (K : Nat) : LwS := endL T (suS T K 0 (lw00 T))
theorem lw00_I : LwI T 0 0 0 (lw00 T) := fun q e => by
  cases e
  exact ⟨Nat.zero_le _, rn_le (Nat.zero_le _), Nat.zero_le _, rfl, fun k hk => absurd hk (Nat.not_lt_zero k)⟩
theorem c_lawR {K : Nat} (hK : 7 ≤ K) (ok : okT T) (h150 : T.2 ≤ 150) (g : CR T (.inl (sk T 0)) P) (hN : 70000 ≤ N) : TT (f_210 18 K N P) (fun r => CLwS T (lawS T K) r ∧ fr sLp P r) := by
  unfold f_210
  refine TT_lt ?_
  have f0 : fr sLp P (ab_pI P 18 1 0) := fr.I (Or.inr (Or.inl rfl))
  have g0 : CLwS T (lw00 T) (ab_pI P 18 1 0) := ⟨g.keep (fun b j hb => by unfold kTp at hb; rw [pI_ne (by omega)]), fun q e => ⟨pI_eq, fun k hk => absurd hk (Nat.not_lt_zero k)⟩⟩
  refine TT_bind (c_sumK ok h150 hN K 0 (by decide) (by omega) 0 0 0 (lw00 T) _ (Nat.le_refl _) lw00_I g0) (fun P1 h1 => ?_)
  obtain ⟨g1, f1⟩ := h1
  unfold lawS
  generalize suS T K 0 (lw00 T) = x at g1 ⊢
  obtain ⟨w, s⟩ := x
  cases s with
  | inr f =>
    rw [c_more0 g1.1, b2_some, if_pos rfl]
    exact TT_some ⟨CLwS.no g1.1, f0.tr f1⟩
  | inl q =>
    have fa : fr sTp P1 (ab_pI P1 1 3 (iN q)) := fr.I (by unfold sTp; omega)
    have ga : CLwS T (w, .inl q) (ab_pI P1 1 3 (iN q)) := CLwS.fr g1 (fun q' e => ⟨q, rfl⟩) (CR.at' g1.1) fa
    rw [c_more1 g1.1 ok hN, b2_some]
    by_cases hq : q < T.2
    · have ee : endL T (w, .inl q) = (w, .inr (1, q)) := if_pos hq
      rw [ee, if_neg (by rw [bI_0]; simp [hq]), show (ab_pI P1 1 3 (iN q)).1 1 3 = iN q from pI_eq]
      exact TT_bind (c_blame ga.1 (k := 1) (p := q) (by decide) (by decide)) (fun P2 h2 => TT_some ⟨CLwS.no h2.1, ((f0.tr f1).tr (fa.mono sTp_L)).tr (h2.2.mono sTp_L)⟩)
    · have ee : endL T (w, .inl q) = (w, .inl q) := if_neg hq
      rw [ee, if_pos (by rw [bI_0]; simp [hq])]
      exact TT_some ⟨ga, (f0.tr f1).tr (fa.mono sTp_L)⟩
end LC
