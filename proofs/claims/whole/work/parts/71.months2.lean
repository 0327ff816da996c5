/-! months to come: the run, both sides -/
/-- a loop upwards, told by what comes next -/
theorem upC {σ β : Type} (F : Nat → Nat → σ → Option β) (m : Nat) (I : Nat → σ → Prop) (Q : β → Prop) (hs : ∀ n k s, k < m → I k s → (∀ s', I (k + 1) s' → TT (F n (k + 1) s') Q) → TT (F (n + 1) k s) Q) (he : ∀ n s, I m s → TT (F (n + 1) m s) Q) : ∀ n s, I 0 s → m < n → TT (F n 0 s) Q := by
  have key : ∀ c k n s, k + c = m → c < n → I k s → TT (F n k s) Q := by
    intro c
    induction c with
    | zero =>
      intro k n s hk hn hi
      obtain ⟨n, rfl⟩ : ∃ z, n = z + 1 := ⟨n - 1, by omega⟩
      have : k = m := by omega
      subst this
      exact he n s hi
    | succ c ih =>
      intro k n s hk hn hi
      obtain ⟨n, rfl⟩ : ∃ z, n = z + 1 := ⟨n - 1, by omega⟩
      exact hs n k s (by omega) hi (fun s' hi' => ih (k + 1) n s' (by omega) (by omega) hi')
  intro n s hi hn
  exact key m 0 n s (by omega) hn hi
theorem b2K {ρ β : Type} {Q1 : ab_P → Prop} {Q : β → Prop} {g : Option (ρ × ab_P)} {K : ρ → ab_P → Option ab_P} {F : ab_P → Option β} {K' : ρ → ab_P → Option β} (h : TT (ab_b2 g K) Q1) (hK : ∀ v P, K' v P = Option.bind (K v P) F) (hF : ∀ a, Q1 a → TT (F a) Q) : TT (ab_b2 g K') Q := by
  cases g with
  | none =>
    obtain ⟨a, e, _⟩ := h
    cases e
  | some x =>
    obtain ⟨v, P⟩ := x
    rw [b2_some] at h ⊢
    rw [hK]
    exact TT_bind h hF
section MM2
variable {W : WO} {P : ab_P} {N pe : Nat} {M : MO} {q z : Int32} {lc : Int32 → Int32}
theorem c_saint (h : CM M P) (hN : 70000 ≤ N) : TT (f_318 N P) (fun Q => CM (mSaint M) Q ∧ fr sMo P Q) := by
  unfold f_318
  rw [c_greatest h.1 hN, Option.bind_some]
  unfold mSaint gBest
  cases hb : fb (stL M.1) (fun a b => decide (M.1.1 2 b < M.1.1 2 a)) M.1.2.1 with
  | none =>
    rw [oN_none]
    unfold f_339
    rw [c_standN, Option.bind_some, if_pos rfl, b2_some, if_pos rfl]
    exact TT_some ⟨h, fr.rf⟩
  | some b =>
    rw [oN_some]
    have hs := (fb_some hb).2
    have hl := stL_lt hs
    refine TT_b2 (c_gone h.1 hs (t := 2) (by decide) (by decide)) (fun v P1 hv => ?_)
    obtain ⟨e1, e2, e3⟩ := hv
    dsimp only at e1 e2 e3
    have ez : (sGone M.1 b 2).1 2 b = M.1.1 2 b := by simp [sGone, lTot, lSet]
    rw [e1, if_neg (by decide), c_get2 e2 (show b < M.1.2.1 from hl), Option.bind_some, ez]
    have e4 : P1.1 61 4 = M.2.2 := by rw [e3.1 61 4 (by unfold sI; omega)]; exact h.2.2
    have e5 : P1.1 61 3 = M.2.1 := by rw [e3.1 61 3 (by unfold sI; omega)]; exact h.2.1
    refine TT_lt (TT_some ⟨⟨CL_keep e2 (pI_ne (by decide)) (pI_ne (by decide)) (fun j => pI_ne (by decide)) (fun j => pI_ne (by decide)), ?_, ?_⟩, (e3.mono sI62).tr (fr.I (by unfold sMo; omega))⟩)
    · rw [pI_nj (by decide)]; exact e5
    · rw [pI_eq, e4]
theorem c_crowd {Q : ab_P → Prop} {H : Int32 → Int32 → Int32 → Int32 → ab_P → Option ab_P} {x2 x5 : Int32} (hl : ∀ x : Int32, x * (1103515245 : Int32) + (12345 : Int32) = lc x) (h : CM M P) (hpe : P.1 3 5 = iN pe) (h8 : pe ≤ 8) (hN : 70000 ≤ N) (hH : ∀ P', CM (mEnd lc z (mAll lc pe q M pe)) P' → fr sMo P P' → TT (H x2 q z (x5 + 1) P') Q) : TT (f_274_46 N H N x2 q z x5 0 P) Q := by
  refine upC (fun n p (s : ab_P) => f_274_46 N H n x2 q z x5 (iN p) s) pe (fun p s => CM (mAll lc pe q M p) s ∧ fr sMo P s) Q (fun n p P1 hp hi hK => ?_) (fun n P1 hi => ?_) N P ⟨h, fr.rf⟩ (by omega)
  · obtain ⟨e1, e2⟩ := hi
    have hpe1 : P1.1 3 5 = iN pe := by rw [e2.1 3 5 (by unfold sMo; omega)]; exact hpe
    show TT (f_274_46 N H (n + 1) x2 q z x5 (iN p) P1) Q
    unfold f_274_46
    rw [hpe1, if_pos (by rw [iN_lt (by omega) (by omega)]; exact hp), iN_succ]
    refine b2K (F := fun P => f_274_46 N H n x2 q z x5 (iN (p + 1)) P) (c_one hl e1 hpe1 h8 hp) (fun v P2 => ?_) (fun P2 h2 => hK P2 ⟨h2.1, e2.tr h2.2⟩)
    by_cases a : v < q
    · by_cases b : (1 : Int32) < P2.1 3 5
      · rw [if_pos a, if_pos b, if_pos a, if_pos b]
        cases f_317 (iN p) P2 <;> rfl
      · rw [if_pos a, if_neg b, if_pos a, if_neg b]
        rfl
    · rw [if_neg a, if_neg a]
      rfl
  · obtain ⟨e1, e2⟩ := hi
    have hpe1 : P1.1 3 5 = iN pe := by rw [e2.1 3 5 (by unfold sMo; omega)]; exact hpe
    show TT (f_274_46 N H (n + 1) x2 q z x5 (iN pe) P1) Q
    unfold f_274_46
    rw [hpe1, if_neg (by rw [iN_lt (by omega) (by omega)]; omega)]
    refine TT_b2 (c_draw hl (m := 16) e1 (by decide) (by decide)) (fun v P2 hv => ?_)
    obtain ⟨a1, a2, a3⟩ := hv
    dsimp only at a1 a2 a3
    rw [a1]
    by_cases hz : iN (drN (lc (mAll lc pe q M pe).2.1) % 16) < z
    · rw [if_pos hz]
      exact TT_bind (c_saint a2 hN) (fun P3 h3 => hH P3 (by unfold mEnd; rw [if_pos hz]; exact h3.1) ((e2.tr a3).tr h3.2))
    · rw [if_neg hz]
      exact hH P2 (by unfold mEnd; rw [if_neg hz]; exact a2) (e2.tr a3)
theorem c_run {n0 : Nat} (hl : ∀ x : Int32, x * (1103515245 : Int32) + (12345 : Int32) = lc x) (h : CW W P) (ok : OK W) (sd q z : Int32) (hn : n0 ≤ 30) (hN : 70000 ≤ N) : TT (f_274 N sd (iN n0) q z P) (fun Q => CM (mDays lc W.pe q z (W.L, sd, 0) n0) Q ∧ fr sMo P Q) := by
  have h8 := ok.1.1
  unfold f_274
  refine TT_bind (c_copy (i := 62) (i2 := 43) h.c (Or.inr (by decide))) (fun P0 h0 => ?_)
  refine TT_lt (TT_lt ?_)
  have hA : fr sMo P (ab_pI (ab_pI P0 61 3 sd) 61 4 0) := ((h0.2.mono sI62).tr (fr.I (by unfold sMo; omega))).tr (fr.I (by unfold sMo; omega))
  have hB : CM (W.L, sd, 0) (ab_pI (ab_pI P0 61 3 sd) 61 4 0) := by
    refine ⟨CL_keep (CL_keep h0.1 (pI_ne (by decide)) (pI_ne (by decide)) (fun j => pI_ne (by decide)) (fun j => pI_ne (by decide))) (pI_ne (by decide)) (pI_ne (by decide)) (fun j => pI_ne (by decide)) (fun j => pI_ne (by decide)), ?_, pI_eq⟩
    rw [pI_nj (by decide), pI_eq]
  refine upC (fun n d (s : ab_P) => f_274_24 N n (iN n0) q z (iN d) s) n0 (fun d s => CM (mDays lc W.pe q z (W.L, sd, 0) d) s ∧ fr sMo P s) _ (fun n d P1 hd hi hK => ?_) (fun n P1 hi => ?_) N _ ⟨hB, hA⟩ (by omega)
  · obtain ⟨e1, e2⟩ := hi
    show TT (f_274_24 N (n + 1) (iN n0) q z (iN d) P1) _
    unfold f_274_24
    rw [if_pos (by rw [iN_lt (by omega) (by omega)]; exact hd)]
    refine TT_lt ?_
    have g : CM (lDay (mDays lc W.pe q z (W.L, sd, 0) d).1 1, (mDays lc W.pe q z (W.L, sd, 0) d).2) (ab_pI P1 62 3 (P1.1 62 3 + 1)) := ⟨e1.1.dayU, by rw [pI_ne (by decide)]; exact e1.2.1, by rw [pI_ne (by decide)]; exact e1.2.2⟩
    have f1 : fr sMo P (ab_pI P1 62 3 (P1.1 62 3 + 1)) := e2.tr (fr.I (by unfold sMo; omega))
    refine c_crowd hl g (by rw [f1.1 3 5 (by unfold sMo; omega)]; exact h.pe) h8 hN (fun P2 h2 h3 => ?_)
    show TT (f_274_24 N n (iN n0) q z (iN d + 1) P2) _
    rw [iN_succ]
    exact hK P2 ⟨h2, f1.tr h3⟩
  · obtain ⟨e1, e2⟩ := hi
    show TT (f_274_24 N (n + 1) (iN n0) q z (iN n0) P1) _
    unfold f_274_24
    rw [if_neg (by rw [iN_lt (by omega) (by omega)]; omega)]
    exact TT_some ⟨e1, e2⟩
/-! the reference -/
theorem RMo.keep {P' : ab_P} (h : RMo M P) (e : ∀ j, P'.1 478 j = P.1 478 j) (e3 : P'.1 72 43 = P.1 72 43) (e4 : P'.1 72 44 = P.1 72 44) : RMo M P' := ⟨RL_keep h.1 e, e3.trans h.2.1, e4.trans h.2.2⟩
theorem r_draw {m : Nat} (hl : ∀ x : Int32, x * (1103515245 : Int32) + (12345 : Int32) = lc x) (h : RMo M P) (hm : 0 < m) (hm2 : m < 100) : TT (f_276 (iN m) P) (fun q => q.1 = iN (drN (lc M.2.1) % m) ∧ RMo (mDraw lc M) q.2 ∧ fr sMr P q.2) := by
  unfold f_276
  refine TT_lt ?_
  rw [h.2.1, hl]
  have e : (ab_pI P 72 43 (lc M.2.1)).1 72 43 = lc M.2.1 := pI_eq
  rw [e]
  show TT (if ¬ iN m = 0 then some (drw (lc M.2.1) - drw (lc M.2.1) / iN m * iN m, _) else none) _
  rw [(drN_p _).1, if_pos (by rw [show (0 : Int32) = iN 0 from rfl, iN_eq (by omega) (by decide)]; omega)]
  have := (drN_p (lc M.2.1)).2
  exact TT_some ⟨iN_mod (by omega) (by omega) hm, ⟨RL_keep h.1 (fun j => pI_ne (by decide)), pI_eq, by rw [pI_nj (by decide)]; exact h.2.2⟩, fr.I (Or.inr ⟨rfl, Or.inl rfl⟩)⟩
theorem r_gbest {i : Nat} {L : LG} (h : RL i L P) (hN : 70000 ≤ N) : f_277_366 i N P = (if oN (gBest L) = -1 then some P else Option.bind (f_135_366 i P (oN (gBest L)) 2) fun v1 => ab_lt (ab_pI P 72 44 ((P.1 72 44) + v1)) fun P2 => Option.bind (f_223_366 i (oN (gBest L)) (2 : Int32) P2) fun P3 => some P3) := by
  have h40 := h.1
  refine up (fun n k x => f_277_366_4 i n x (iN k) P) L.2.1 (fun k => oN (fb (stL L) (fun a b => decide (L.1 2 b < L.1 2 a)) k)) _ (fun n k hk => ?_) (fun n => ?_) N (by omega)
  · simp only [f_277_366_4, r_more h hk, r_stand h (show k < 2147483648 by omega), ↓reduceIte, Option.bind_some, bI_0, iN_succ, fb]
    cases hs : stL L k
    · cases hb : fb (stL L) (fun a b => decide (L.1 2 b < L.1 2 a)) k <;> simp
    · cases hb : fb (stL L) (fun a b => decide (L.1 2 b < L.1 2 a)) k with
      | none => simp [oN]
      | some q =>
        have hq := (fb_some hb).1
        have hql := stL_lt (fb_some hb).2
        simp only [oN_some, iN_nm1 (show q < 2147483648 by omega), r_of2 h hk, r_of2 h hql, Option.bind_some, ↓reduceIte]
        by_cases hc : L.1 2 q < L.1 2 k <;> simp [hc, oN]
  · simp only [f_277_366_4, r_end h, ↓reduceIte]
    rfl
theorem r_saint (h : RMo M P) (hN : 70000 ≤ N) : TT (f_277_366 478 N P) (fun Q => RMo (mSaint M) Q ∧ fr sMr P Q) := by
  rw [r_gbest h.1 hN]
  unfold mSaint
  cases hb : gBest M.1 with
  | none =>
    rw [oN_none, if_pos rfl]
    exact TT_some ⟨h, fr.rf⟩
  | some b =>
    have h40 := h.1.1
    have hs := (fb_some hb).2
    have hl := stL_lt hs
    rw [oN_some, if_neg (by rw [iN_nm1 (show b < 2147483648 by omega)]; exact id), r_of2 h.1 hl, Option.bind_some, h.2.2]
    refine TT_lt ?_
    have hk : RL 478 M.1 (ab_pI P 72 44 (M.2.2 + M.1.1 2 b)) := RL_keep h.1 (fun j => pI_ne (by decide))
    refine TT_bind (r_gone hk hl (t := 2) (by decide) (by decide)) (fun P1 h1 => ?_)
    refine TT_some ⟨⟨h1.1, ?_, ?_⟩, (fr.I (Or.inr ⟨rfl, Or.inr rfl⟩)).tr (h1.2.mono (fun b j e => Or.inl e))⟩
    · rw [h1.2.1 72 43 (by unfold sE; decide), pI_nj (by decide)]; exact h.2.1
    · rw [h1.2.1 72 44 (by unfold sE; decide), pI_eq]
theorem r_drawn {Q : ab_P → Prop} {F : ab_P → Option ab_P} {p : Nat} (hl : ∀ x : Int32, x * (1103515245 : Int32) + (12345 : Int32) = lc x) (h : RMo M P) (hpe : P.1 76 0 = iN pe) (h8 : pe ≤ 8) (hp : p < pe) (hF : ∀ P', RMo (mOne lc pe q p M) P' → fr sMr P P' → TT (F P') Q) : TT (ab_b2 (f_276 (16 : Int32) P) fun v9 P8 => if v9 < q then (if (P8.1 76 0) < (2 : Int32) then F P8 else ab_b2 (f_276 ((P8.1 76 0) - (1 : Int32)) P8) fun v11 P10 => if ¬ (P10.1 76 0) = 0 then ab_b2 (f_276 (9 : Int32) P10) fun v14 P13 => ab_b2 (f_197_366 478 (iN p) ((iN (p + 1) + v11) - (iN (p + 1) + v11) / (P10.1 76 0) * (P10.1 76 0)) ((1 : Int32) + v14) (1 : Int32) P13) fun v16 P15 => F P15 else none) else F P8) Q := by
  refine TT_b2 (r_draw hl (m := 16) h (by decide) (by decide)) (fun v P1 hv => ?_)
  obtain ⟨h1, h2, h3⟩ := hv
  dsimp only at h1 h2 h3
  have hpe1 : P1.1 76 0 = iN pe := by rw [h3.1 76 0 (by unfold sMr; omega)]; exact hpe
  rw [h1, hpe1]
  unfold mOne at hF
  by_cases hq : iN (drN (lc M.2.1) % 16) < q
  · rw [if_pos hq]
    by_cases h1p : 1 < pe
    · rw [if_neg (by rw [iN_ltl (by omega) (by decide)]; exact (show ¬ pe < 2 by omega)), iN_lit 1, iN_sub (by omega)]
      rw [if_pos ⟨hq, h1p⟩] at hF
      refine TT_b2 (r_draw hl (m := pe - 1) h2 (by omega) (by omega)) (fun v2 P2 hv2 => ?_)
      obtain ⟨a1, a2, a3⟩ := hv2
      dsimp only at a1 a2 a3
      have hpe2 : P2.1 76 0 = iN pe := by rw [a3.1 76 0 (by unfold sMr; omega)]; exact hpe1
      rw [hpe2, if_pos (by rw [show (0 : Int32) = iN 0 from rfl, iN_eq (by omega) (by decide)]; omega)]
      refine TT_b2 (r_draw hl (m := 9) a2 (by decide) (by decide)) (fun v3 P3 hv3 => ?_)
      obtain ⟨b1, b2, b3⟩ := hv3
      dsimp only at b1 b2 b3
      have hs2 : drN (lc (lc M.2.1)) % (pe - 1) < pe - 1 := Nat.mod_lt _ (by omega)
      have hs9 : drN (lc (lc (lc M.2.1))) % 9 < 9 := Nat.mod_lt _ (by decide)
      rw [a1, b1, show (mDraw lc M).2.1 = lc M.2.1 from rfl, show (mDraw lc (mDraw lc M)).2.1 = lc (lc M.2.1) from rfl, iN_add, iN_add 1, iN_mod (by omega) (by omega) (by omega)]
      refine TT_b2 (r_add b2.1 (iN p) (iN ((p + 1 + drN (lc (lc M.2.1)) % (pe - 1)) % pe)) (iN (1 + drN (lc (lc (lc M.2.1))) % 9)) (iN 1)) (fun v4 P4 hv4 => ?_)
      obtain ⟨c1, c2, c3⟩ := hv4
      dsimp only at c1 c2 c3
      exact hF P4 ⟨c2, by rw [c3.1 72 43 (by unfold sE; decide)]; exact b2.2.1, by rw [c3.1 72 44 (by unfold sE; decide)]; exact b2.2.2⟩ (((h3.tr a3).tr b3).tr (c3.mono (fun b j e => Or.inl e)))
    · rw [if_pos (by rw [iN_ltl (by omega) (by decide)]; exact (show pe < 2 by omega))]
      rw [if_neg (fun e => h1p e.2)] at hF
      exact hF P1 h2 h3
  · rw [if_neg hq]
    rw [if_neg (fun e => hq e.1)] at hF
    exact hF P1 h2 h3
theorem r_crowd {Q : ab_P → Prop} {H : Int32 → Int32 → Int32 → Int32 → ab_P → Option ab_P} {x2 x5 : Int32} (hl : ∀ x : Int32, x * (1103515245 : Int32) + (12345 : Int32) = lc x) (h : RMo M P) (hpe : P.1 76 0 = iN pe) (h8 : pe ≤ 8) (hN : 70000 ≤ N) (hH : ∀ P', RMo (mEnd lc z (mAll lc pe q M pe)) P' → fr sMr P P' → TT (H x2 q z (x5 + 1) P') Q) : TT (f_190_45 N H N x2 q z x5 0 P) Q := by
  refine upC (fun n p (s : ab_P) => f_190_45 N H n x2 q z x5 (iN p) s) pe (fun p s => RMo (mAll lc pe q M p) s ∧ fr sMr P s) Q (fun n p P1 hp hi hK => ?_) (fun n P1 hi => ?_) N P ⟨h, fr.rf⟩ (by omega)
  · obtain ⟨e1, e2⟩ := hi
    have hpe1 : P1.1 76 0 = iN pe := by rw [e2.1 76 0 (by unfold sMr; omega)]; exact hpe
    show TT (f_190_45 N H (n + 1) x2 q z x5 (iN p) P1) Q
    unfold f_190_45
    rw [if_pos (by rw [hpe1, iN_lt (by omega) (by omega)]; exact hp), iN_succ]
    exact r_drawn hl (F := fun P => f_190_45 N H n x2 q z x5 (iN (p + 1)) P) e1 hpe1 h8 hp (fun P2 h2 h3 => hK P2 ⟨h2, e2.tr h3⟩)
  · obtain ⟨e1, e2⟩ := hi
    have hpe1 : P1.1 76 0 = iN pe := by rw [e2.1 76 0 (by unfold sMr; omega)]; exact hpe
    show TT (f_190_45 N H (n + 1) x2 q z x5 (iN pe) P1) Q
    unfold f_190_45
    rw [if_neg (by rw [hpe1, iN_lt (by omega) (by omega)]; omega)]
    refine TT_b2 (r_draw hl (m := 16) e1 (by decide) (by decide)) (fun v P2 hv => ?_)
    obtain ⟨a1, a2, a3⟩ := hv
    dsimp only at a1 a2 a3
    rw [a1]
    by_cases hz : iN (drN (lc (mAll lc pe q M pe).2.1) % 16) < z
    · rw [if_pos hz]
      exact TT_bind (r_saint a2 hN) (fun P3 h3 => hH P3 (by unfold mEnd; rw [if_pos hz]; exact h3.1) ((e2.tr a3).tr h3.2))
    · rw [if_neg hz]
      exact hH P2 (by unfold mEnd; rw [if_neg hz]; exact a2) (e2.tr a3)
theorem r_run {n0 : Nat} (hl : ∀ x : Int32, x * (1103515245 : Int32) + (12345 : Int32) = lc x) (h : RW W P) (ok : OK W) (sd q z : Int32) (hn : n0 ≤ 30) (hN : 70000 ≤ N) : TT (f_190 N sd (iN n0) q z P) (fun Q => RMo (mDays lc W.pe q z (W.L, sd, 0) n0) Q ∧ fr sMr P Q) := by
  have h8 := ok.1.1
  unfold f_190
  refine TT_bind (r_copy (i := 477) (i2 := 478) (by decide) hN) (fun P0 h0 => ?_)
  refine TT_lt (TT_lt ?_)
  have hA : fr sMr P (ab_pI (ab_pI P0 72 43 sd) 72 44 0) := ((h0.2.mono (fun b j e => Or.inl e)).tr (fr.I (Or.inr ⟨rfl, Or.inl rfl⟩))).tr (fr.I (Or.inr ⟨rfl, Or.inr rfl⟩))
  have hB : RMo (W.L, sd, 0) (ab_pI (ab_pI P0 72 43 sd) 72 44 0) := by
    refine ⟨RL_keep (RL.of h.r h0.1) (fun j => ?_), ?_, pI_eq⟩
    · rw [pI_ne (by decide), pI_ne (by decide)]
    · rw [pI_nj (by decide), pI_eq]
  refine upC (fun n d (s : ab_P) => f_190_24 N n (iN n0) q z (iN d) s) n0 (fun d s => RMo (mDays lc W.pe q z (W.L, sd, 0) d) s ∧ fr sMr P s) _ (fun n d P1 hd hi hK => ?_) (fun n P1 hi => ?_) N _ ⟨hB, hA⟩ (by omega)
  · obtain ⟨e1, e2⟩ := hi
    show TT (f_190_24 N (n + 1) (iN n0) q z (iN d) P1) _
    unfold f_190_24
    rw [if_pos (by rw [iN_lt (by omega) (by omega)]; exact hd)]
    refine TT_lt ?_
    have g : RMo (lDay (mDays lc W.pe q z (W.L, sd, 0) d).1 1, (mDays lc W.pe q z (W.L, sd, 0) d).2) (ab_pI P1 478 361 (P1.1 478 361 + 1)) := ⟨e1.1.dayU, by rw [pI_ne (by decide)]; exact e1.2.1, by rw [pI_ne (by decide)]; exact e1.2.2⟩
    have f1 : fr sMr P (ab_pI P1 478 361 (P1.1 478 361 + 1)) := e2.tr (fr.I (Or.inl rfl))
    refine r_crowd hl g (by rw [f1.1 76 0 (by unfold sMr; omega)]; exact h.pe) h8 hN (fun P2 h2 h3 => ?_)
    show TT (f_190_24 N n (iN n0) q z (iN d + 1) P2) _
    rw [iN_succ]
    exact hK P2 ⟨h2, f1.tr h3⟩
  · obtain ⟨e1, e2⟩ := hi
    show TT (f_190_24 N (n + 1) (iN n0) q z (iN n0) P1) _
    unfold f_190_24
    rw [if_neg (by rw [iN_lt (by omega) (by omega)]; omega)]
    exact TT_some ⟨e1, e2⟩
/-! several seeds -/
def sorN (L : LG) : Nat := sumN (fun k => if stL L k then zL L k else 0) L.2.1
theorem sor_N {L : LG} (h : WF pe L) : sSorrows L = iN (sorN L) := by
  unfold sSorrows sorN
  refine sumI_N (fun k hk => ?_)
  unfold szs
  cases hs : stL L k
  · simp; rfl
  · simp only [Bool.and_true, ↓reduceIte]
    exact (zL_of h hk).1
theorem sor_le {L : LG} (h40 : L.2.1 ≤ 40) (h : WF pe L) : sorN L ≤ 399960 := by
  have : sorN L ≤ L.2.1 * 9999 := sumN_le (fun k hk => by
    split
    · exact (zL_of h hk).2.2
    · omega)
  have := Nat.mul_le_mul_right 9999 h40
  omega
def spMn (f : Nat → Nat) : Nat → Nat
  | 0 => 2147483647
  | k + 1 => min (spMn f k) (f k)
def spMx (f : Nat → Nat) : Nat → Nat
  | 0 => 0
  | k + 1 => max (spMx f k) (f k)
theorem spMn_le (f : Nat → Nat) : ∀ k, spMn f k ≤ 2147483647
  | 0 => Nat.le_refl _
  | k + 1 => Nat.le_trans (Nat.min_le_left _ _) (spMn_le f k)
theorem spMx_le {f : Nat → Nat} (h : ∀ k, f k ≤ 399960) : ∀ k, spMx f k ≤ 399960
  | 0 => Nat.zero_le _
  | k + 1 => Nat.max_le.mpr ⟨spMx_le h k, h k⟩
def spM (lc : Int32 → Int32) (W : WO) (sd q z : Int32) (n0 k : Nat) : MO := mDays lc W.pe q z (W.L, sd + iN k, 0) n0
def spV (lc : Int32 → Int32) (W : WO) (sd q z : Int32) (n0 k : Nat) : Nat := sorN (spM lc W sd q z n0 k).1
def spG (lc : Int32 → Int32) (W : WO) (sd q z : Int32) (n0 : Nat) (who : Int32) (k : Nat) : Bool := decide (oN (sRich (spM lc W sd q z n0 k).1 W.pe 1) = who)
def sSpan (lc : Int32 → Int32) (W : WO) (sd q z : Int32) (n0 many : Nat) (what who : Int32) : Int32 := if what = 0 then iN (spMn (spV lc W sd q z n0) many) else if what = 1 then iN (spMx (spV lc W sd q z n0) many) else iN (cntN (spG lc W sd q z n0 who) many)
theorem spM_OK (lc : Int32 → Int32) (ok : OK W) (sd q z : Int32) (n0 k : Nat) : WF W.pe (spM lc W sd q z n0 k).1 := mDays_OK (M := (W.L, sd + iN k, 0)) ok.1 n0
end MM2
theorem sAdd40 {L : LG} {on ho sz tr : Int32} (h : L.2.1 ≤ 40) : (sAdd L on ho sz tr).2.1 ≤ 40 := by
  unfold sAdd
  split
  · show L.2.1 + 1 ≤ 40
    omega
  · exact h
theorem sGone_m {L : LG} {k t : Nat} : (sGone L k t).2.1 = L.2.1 := by
  unfold sGone
  split <;> rfl
theorem mOne40 {lc : Int32 → Int32} {pe : Nat} {q : Int32} {p : Nat} {M : MO} (h : M.1.2.1 ≤ 40) : (mOne lc pe q p M).1.2.1 ≤ 40 := by
  unfold mOne
  split
  · exact sAdd40 h
  · exact h
theorem mAll40 {lc : Int32 → Int32} {pe : Nat} {q : Int32} {M : MO} (h : M.1.2.1 ≤ 40) : ∀ n, (mAll lc pe q M n).1.2.1 ≤ 40
  | 0 => h
  | n + 1 => mOne40 (mAll40 h n)
theorem mEnd40 {lc : Int32 → Int32} {z : Int32} {M : MO} (h : M.1.2.1 ≤ 40) : (mEnd lc z M).1.2.1 ≤ 40 := by
  unfold mEnd mSaint
  split
  · split
    · exact h
    · show (sGone _ _ _).2.1 ≤ 40
      rw [sGone_m]
      exact h
  · exact h
theorem mDays40 {lc : Int32 → Int32} {pe : Nat} {q z : Int32} {M : MO} (h : M.1.2.1 ≤ 40) : ∀ n, (mDays lc pe q z M n).1.2.1 ≤ 40
  | 0 => h
  | n + 1 => mEnd40 (mAll40 (M := (lDay (mDays lc pe q z M n).1 1, (mDays lc pe q z M n).2)) (mDays40 h n) _)
section MM3
variable {W : WO} {P : ab_P} {N pe : Nat} {M : MO} {q z : Int32} {lc : Int32 → Int32}
theorem spV_le (lc : Int32 → Int32) (h40 : W.L.2.1 ≤ 40) (ok : OK W) (sd q z : Int32) (n0 k : Nat) : spV lc W sd q z n0 k ≤ 399960 := sor_le (mDays40 (M := (W.L, sd + iN k, 0)) h40 n0) (spM_OK lc ok sd q z n0 k)
theorem c_span {many n0 : Nat} {sd q z what who : Int32} (hl : ∀ x : Int32, x * (1103515245 : Int32) + (12345 : Int32) = lc x) (hwh : what = 0 ∨ what = 1 ∨ what = 2) (h : CW W P) (ok : OK W) (h1m : 1 ≤ many) (hm : many ≤ 20) (hn : n0 ≤ 30) (hN : 70000 ≤ N) : TT (f_191_69 N N sd (iN many) (iN n0) q z what who 0 0 0 0 P) (fun Q => Q.1 = .inl (sSpan lc W sd q z n0 many what who) ∧ fr sMo P Q.2) := by
  have h8 := ok.1.1
  have h40 := h.c.1
  suffices hh : TT (f_191_69 N N sd (iN many) (iN n0) q z what who 0 (iN (spMx (spV lc W sd q z n0) 0)) (if what = 2 then iN (cntN (spG lc W sd q z n0 who) 0) else 0) (iN 0) P) (fun Q => Q.1 = .inl (sSpan lc W sd q z n0 many what who) ∧ fr sMo P Q.2) by
    rw [show (if what = 2 then iN (cntN (spG lc W sd q z n0 who) 0) else 0) = (0 : Int32) by split <;> rfl] at hh
    exact hh
  refine upC (fun n k (s : ab_P) => f_191_69 N n sd (iN many) (iN n0) q z what who (if k = 0 then 0 else iN (spMn (spV lc W sd q z n0) k)) (iN (spMx (spV lc W sd q z n0) k)) (if what = 2 then iN (cntN (spG lc W sd q z n0 who) k) else 0) (iN k) s) many (fun k s => fr sMo P s) _ (fun n k P1 hk hi hK => ?_) (fun n P1 hi => ?_) N P fr.rf (by omega)
  · show TT (f_191_69 N (n + 1) sd (iN many) (iN n0) q z what who _ _ _ (iN k) P1) _
    unfold f_191_69
    rw [if_pos (by rw [iN_lt (by omega) (by omega)]; exact hk)]
    have g := h.fr (hi.mono sMo_C)
    refine TT_bind (c_run hl g ok (sd + iN k) q z hn hN) (fun P2 h2 => ?_)
    have f2 := hi.tr h2.2
    have hpe2 : P2.1 3 5 = iN W.pe := by rw [f2.1 3 5 (by unfold sMo; omega)]; exact h.pe
    have hv : f_236 62 N P2 = some (iN (spV lc W sd q z n0 k)) := by
      rw [c_sorrows h2.1.1 hN]
      show some (sSorrows (spM lc W sd q z n0 k).1) = _
      rw [sor_N (spM_OK lc ok sd q z n0 k)]
      rfl
    have hr : f_275 N P2 = some (oN (sRich (spM lc W sd q z n0 k).1 W.pe 1)) := by
      unfold f_275
      rw [hpe2, c_rich h2.1.1 h8 1 hN]
      rfl
    have hb1 := spMn_le (spV lc W sd q z n0) k
    have hb2 := spMx_le (spV_le lc h40 ok sd q z n0) k
    have hb3 := spV_le lc h40 ok sd q z n0 k
    have hK' := hK P2 f2
    rw [if_neg (Nat.succ_ne_zero k)] at hK'
    have fin : TT (f_191_120 N (fun y0 y1 y2 y3 y4 y5 y6 y7 y8 y9 y10 y11 => f_191_69 N n y0 y1 y2 y3 y4 y5 y6 y7 y8 y9 y10 y11) sd (iN many) (iN n0) q z what who (iN (spMx (spV lc W sd q z n0) k)) (if what = 2 then iN (cntN (spG lc W sd q z n0 who) k) else 0) (iN k) (iN (spV lc W sd q z n0 k)) (iN (spMn (spV lc W sd q z n0) (k + 1))) P2) (fun Q => Q.1 = .inl (sSpan lc W sd q z n0 many what who) ∧ fr sMo P Q.2) := by
      unfold f_191_120
      rw [hr, Option.bind_some, mx_iN (by omega) (by omega), iN_succ k]
      by_cases hw : what = 2
      · rw [if_pos hw, if_pos hw]
        rw [if_pos hw] at hK'
        by_cases hc : oN (sRich (spM lc W sd q z n0 k).1 W.pe 1) = who
        · rw [if_pos hc]
          rw [cntN_y (show spG lc W sd q z n0 who k = true by unfold spG; simp [hc])] at hK'
          rw [show iN (cntN (spG lc W sd q z n0 who) k) + (1 : Int32) = iN (cntN (spG lc W sd q z n0 who) k + 1) from iN_succ _]
          exact hK'
        · rw [if_neg hc]
          rw [cntN_n (show spG lc W sd q z n0 who k = false by unfold spG; simp [hc])] at hK'
          rw [Int32.add_zero]
          exact hK'
      · rw [if_neg hw, if_neg hw]
        rw [if_neg hw] at hK'
        exact hK'
    rw [hv, Option.bind_some]
    by_cases h0 : k = 0
    · rw [if_pos (show iN k = 0 by subst h0; rfl)]
      have : spMn (spV lc W sd q z n0) (k + 1) = spV lc W sd q z n0 k := by
        subst h0
        show min 2147483647 (spV lc W sd q z n0 0) = _
        omega
      rw [this] at fin
      exact fin
    · rw [if_neg (show ¬ iN k = 0 by rw [show (0 : Int32) = iN 0 from rfl, iN_eq (by omega) (by decide)]; exact h0), if_neg h0, mn_iN (by omega) (by omega)]
      exact fin
  · show TT (f_191_69 N (n + 1) sd (iN many) (iN n0) q z what who _ _ _ (iN many) P1) _
    unfold f_191_69
    rw [if_neg (by rw [iN_lt (by omega) (by omega)]; omega), if_neg (show ¬ many = 0 by omega)]
    by_cases h0 : what = 0
    · rw [if_pos h0]
      exact TT_some ⟨by unfold sSpan; rw [if_pos h0], hi⟩
    · rw [if_neg h0]
      by_cases h1 : what = 1
      · rw [if_pos h1]
        exact TT_some ⟨by unfold sSpan; rw [if_neg h0, if_pos h1], hi⟩
      · rw [if_neg h1]
        have h2 : what = 2 := by
          rcases hwh with e | e | e
          · exact absurd e h0
          · exact absurd e h1
          · exact e
        rw [if_pos h2]
        exact TT_some ⟨by unfold sSpan; rw [if_neg h0, if_neg h1], hi⟩
theorem r_span {many n0 : Nat} {sd q z what who : Int32} (hl : ∀ x : Int32, x * (1103515245 : Int32) + (12345 : Int32) = lc x) (h : RW W P) (ok : OK W) (h1m : 1 ≤ many) (hm : many ≤ 20) (hn : n0 ≤ 30) (hN : 70000 ≤ N) : TT (f_87_94 N N sd (iN many) (iN n0) q z what who (-1) 0 0 0 P) (fun Q => Q.1 = sSpan lc W sd q z n0 many what who ∧ fr sMr P Q.2) := by
  have h8 := ok.1.1
  have h40 := h.r.1
  refine upC (fun n k (s : ab_P) => f_87_94 N n sd (iN many) (iN n0) q z what who (if k = 0 then -1 else iN (spMn (spV lc W sd q z n0) k)) (iN (spMx (spV lc W sd q z n0) k)) (iN (cntN (spG lc W sd q z n0 who) k)) (iN k) s) many (fun k s => fr sMr P s) _ (fun n k P1 hk hi hK => ?_) (fun n P1 hi => ?_) N P fr.rf (by omega)
  · show TT (f_87_94 N (n + 1) sd (iN many) (iN n0) q z what who _ _ _ (iN k) P1) _
    unfold f_87_94
    rw [if_pos (by rw [iN_lt (by omega) (by omega)]; exact hk)]
    have g := h.fr ok (hi.mono sMr_R)
    refine TT_bind (r_run hl g ok (sd + iN k) q z hn hN) (fun P2 h2 => ?_)
    have f2 := hi.tr h2.2
    have hpe2 : P2.1 76 0 = iN W.pe := by rw [f2.1 76 0 (by unfold sMr; omega)]; exact h.pe
    have hv : f_142_366 478 N P2 = some (iN (spV lc W sd q z n0 k)) := by
      rw [r_sorrows h2.1.1 hN]
      show some (sSorrows (spM lc W sd q z n0 k).1) = _
      rw [sor_N (spM_OK lc ok sd q z n0 k)]
      rfl
    have hr : f_177_366 478 N P2 1 = some (oN (sRich (spM lc W sd q z n0 k).1 W.pe 1)) := r_rich h2.1.1 (spM_OK lc ok sd q z n0 k) hpe2 1 hN
    have hb1 := spMn_le (spV lc W sd q z n0) k
    have hb2 := spMx_le (spV_le lc h40 ok sd q z n0) k
    have hb3 := spV_le lc h40 ok sd q z n0 k
    have hK' := hK P2 f2
    rw [if_neg (Nat.succ_ne_zero k)] at hK'
    have fin : TT (f_87_141 N (fun y0 y1 y2 y3 y4 y5 y6 y7 y8 y9 y10 y11 => f_87_94 N n y0 y1 y2 y3 y4 y5 y6 y7 y8 y9 y10 y11) sd (iN many) (iN n0) q z what who (iN (spMx (spV lc W sd q z n0) k)) (iN (cntN (spG lc W sd q z n0 who) k)) (iN k) (iN (spV lc W sd q z n0 k)) (iN (spMn (spV lc W sd q z n0) (k + 1))) P2) (fun Q => Q.1 = sSpan lc W sd q z n0 many what who ∧ fr sMr P Q.2) := by
      unfold f_87_141
      rw [r_mor, Option.bind_some, hr, Option.bind_some, mx_iN (by omega) (by omega), iN_succ k]
      by_cases hc : oN (sRich (spM lc W sd q z n0 k).1 W.pe 1) = who
      · rw [if_pos hc, show iN (cntN (spG lc W sd q z n0 who) k) + (1 : Int32) = iN (cntN (spG lc W sd q z n0 who) k + 1) from iN_succ _]
        rw [cntN_y (show spG lc W sd q z n0 who k = true by unfold spG; simp [hc])] at hK'
        exact hK'
      · rw [if_neg hc, Int32.add_zero]
        rw [cntN_n (show spG lc W sd q z n0 who k = false by unfold spG; simp [hc])] at hK'
        exact hK'
    rw [hv, Option.bind_some]
    by_cases h0 : k = 0
    · rw [if_pos h0, if_pos rfl]
      have : spMn (spV lc W sd q z n0) (k + 1) = spV lc W sd q z n0 k := by
        subst h0
        show min 2147483647 (spV lc W sd q z n0 0) = _
        omega
      rw [this] at fin
      exact fin
    · rw [if_neg h0, if_neg (by rw [iN_nm1 (by omega)]; exact id), r_less, Option.bind_some, mn_iN (by omega) (by omega)]
      exact fin
  · show TT (f_87_94 N (n + 1) sd (iN many) (iN n0) q z what who _ _ _ (iN many) P1) _
    unfold f_87_94
    rw [if_neg (by rw [iN_lt (by omega) (by omega)]; omega), if_neg (show ¬ many = 0 by omega)]
    by_cases h0 : what = 0
    · rw [if_pos h0]
      exact TT_some ⟨by unfold sSpan; rw [if_pos h0], hi⟩
    · rw [if_neg h0]
      by_cases h1 : what = 1
      · rw [if_pos h1]
        exact TT_some ⟨by unfold sSpan; rw [if_neg h0, if_pos h1], hi⟩
      · rw [if_neg h1]
        exact TT_some ⟨by unfold sSpan; rw [if_neg h0, if_neg h1], hi⟩
end MM3
