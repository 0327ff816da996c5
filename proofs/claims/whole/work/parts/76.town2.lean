/-! a town's text, clause by clause -/
section TN2
variable {T : TX} {D : TD} {P : ab_P} {N q i k : Nat} {s : RS}
def isF (s : RS) : Bool := match s with
  | .inl _ => false
  | .inr _ => true
theorem c_isF (h : CR T s P) : f_201 P = some (bI (isF s)) := by
  unfold f_201
  cases s with
  | inl q => rw [if_pos h.ok]; rfl
  | inr f => rw [if_neg h.no]; rfl
theorem c_go (h : CR T s P) (ok : okT T) (okd : okD D) (hd : CTd D P) (hk : k < 5) (h0 : k = 0 → D.1 < 8) (h1 : k = 1 ∨ k = 2 → D.2.2.1 < 24) (hN : 70000 ≤ N) : TT (f_283_74 9 N (iN k) P) (fun r => CTS T (clA T k D s) r ∧ fr sTn P r) := by
  have h8 := okd.1
  rcases (show k = 0 ∨ k = 1 ∨ k = 2 ∨ k = 3 ∨ k = 4 by omega) with rfl | rfl | rfl | rfl | rfl
  · show TT (f_283_104 9 N P) _
    unfold f_283_104
    refine TT_bind (c_person h ok hd (h0 rfl) hN) (fun P1 h1 => ?_)
    obtain ⟨a1, a2, a3⟩ := h1
    refine TT_bind (c_semi (D := tdP D (numS T 0 10 s).1) a1 ok a2 hN) (fun P2 h2 => TT_some ⟨h2.1, a3.tr h2.2⟩)
  · show TT (f_283_124 9 N (iN 1) P) _
    unfold f_283_124
    refine TT_bind (c_claim (t := 1) h ok okd hd (h1 (Or.inl rfl)) hN) (fun P1 h1 => ?_)
    obtain ⟨a1, a2, a3⟩ := h1
    refine TT_bind (c_semi a1 ok a2 hN) (fun P2 h2 => TT_some ⟨h2.1, a3.tr h2.2⟩)
  · show TT (f_283_124 9 N (iN 0) P) _
    unfold f_283_124
    refine TT_bind (c_claim (t := 0) h ok okd hd (h1 (Or.inr rfl)) hN) (fun P1 h1 => ?_)
    obtain ⟨a1, a2, a3⟩ := h1
    refine TT_bind (c_semi a1 ok a2 hN) (fun P2 h2 => TT_some ⟨h2.1, a3.tr h2.2⟩)
  · show TT (f_283_130 9 N P) _
    unfold f_283_130
    refine TT_b2 (c_num (lo := 0) (hb := 51) (by decide) (by decide) (by decide) h ok hN) (fun v P1 hv => ?_)
    obtain ⟨b1, b2, b3⟩ := hv
    dsimp only at b1 b2 b3
    have d1 := hd.fr b3
    refine TT_lt ?_
    refine TT_bind (c_semi (D := tdI D (numS T 0 51 s).1) (b1.keep (P' := ab_pI P1 9 7 v) (fun b j hb => by unfold kTp at hb; rw [pI_ne (by omega)])) ok (fun q' e => ?_) hN) (fun P2 h2 => TT_some ⟨h2.1, ((b3.mono sTp_n).tr (fr.I (Or.inr (by decide)))).tr h2.2⟩)
    obtain ⟨h1, h2, h3, h4, h5, h6⟩ := d1
    refine ⟨?_, ?_, ?_, ?_, fun j hj => ?_, fun j hj => ?_⟩
    · rw [pI_nj (by decide)]; exact h1
    · rw [pI_nj (by decide)]; exact h2
    · rw [pI_eq]; exact (b2 q' e).1
    · rw [pI_nj (by decide)]; exact h4
    · rw [pI_ne (by decide)]; exact h5 j hj
    · rw [pI_ne (by decide), pI_ne (by decide), pI_ne (by decide), pI_ne (by decide)]; exact h6 j hj
  · show TT (f_283_144 9 N P) _
    unfold f_283_144
    refine TT_b2 (c_num (lo := 0) (hb := 101) (by decide) (by decide) (by decide) h ok hN) (fun v P1 hv => ?_)
    obtain ⟨b1, b2, b3⟩ := hv
    dsimp only at b1 b2 b3
    have d1 := hd.fr b3
    refine TT_lt ?_
    refine TT_bind (c_semi (D := tdB D (numS T 0 101 s).1) (b1.keep (P' := ab_pI P1 9 8 v) (fun b j hb => by unfold kTp at hb; rw [pI_ne (by omega)])) ok (fun q' e => ?_) hN) (fun P2 h2 => TT_some ⟨h2.1, ((b3.mono sTp_n).tr (fr.I (Or.inr (by decide)))).tr h2.2⟩)
    obtain ⟨h1, h2, h3, h4, h5, h6⟩ := d1
    refine ⟨?_, ?_, ?_, ?_, fun j hj => ?_, fun j hj => ?_⟩
    · rw [pI_nj (by decide)]; exact h1
    · rw [pI_nj (by decide)]; exact h2
    · rw [pI_nj (by decide)]; exact h3
    · rw [pI_eq]; exact (b2 q' e).1
    · rw [pI_ne (by decide)]; exact h5 j hj
    · rw [pI_ne (by decide), pI_ne (by decide), pI_ne (by decide), pI_ne (by decide)]; exact h6 j hj
theorem c_stop {f : Nat × Nat} {x : Int32} (h : CR T (.inr f) P) : f_283_66 9 N x P = some P := by
  unfold f_283_66
  rw [c_isF h, Option.bind_some, if_neg (show ¬ bI (isF (.inr f)) = 0 from (by decide : ¬ bI true = 0))]
theorem c_full (h : CR T (.inl q) P) {p : Nat} {x : Int32} : TT (Option.bind (f_290 3 (iN p) P) fun P3 => f_283_66 9 N x P3) (fun r => CR T (.inr (3, p)) r ∧ fr sTn P r) := by
  refine TT_bind (c_blame h (k := 3) (p := p) (by decide) (by decide)) (fun P1 h1 => ?_)
  rw [c_stop h1.1]
  exact TT_some ⟨h1.1, h1.2.mono sTp_n⟩
theorem c_clause (h : CR T (.inl q) P) (ok : okT T) (okd : okD D) (hd : CTd D P) (hi : i ≤ 60) (hN : 70000 ≤ N) : TT (f_283 9 N (iN i) P) (fun r => CTS T (clS T i D q) r ∧ fr sTn P r) := by
  have h8 := okd.1
  have h24 := okd.2.1
  unfold f_283
  refine TT_b2 (c_word0 h ok hN) (fun v P1 hv => ?_)
  obtain ⟨b1, b2, b3, b4⟩ := hv
  dsimp only at b1 b2 b3 b4
  have d1 := hd.fr b4
  have e4 := b3 q rfl
  rw [e4, d1.1]
  have i60 : (iN i < (60 : Int32)) = (i < 60) := iN_ltl (by omega) (by decide)
  have p8 : (iN D.1 < (8 : Int32)) = (D.1 < 8) := iN_ltl (by omega) (by decide)
  cases hw : wIx (lw T q) wsT 0 with
  | none =>
    have ec : clS T i D q = (D, .inr (1, q)) := by unfold clS; rw [hw]
    rw [ec]
    rw [wdS_none hw] at b1 b2
    dsimp only at b1 b2
    have fin : TT (some P1) (fun r => CTS T (D, .inr (1, q)) r ∧ fr sTn P r) := TT_some ⟨⟨b2, fun q' e => by cases e⟩, b4.mono sTp_n⟩
    rw [b1, oN_none, if_neg (show ¬ (-1 : Int32) = 0 by decide), if_neg (show ¬ (-1 : Int32) = 1 by decide), if_neg (show ¬ (-1 : Int32) = 2 by decide), c_blamed b2, Option.bind_some, c_stop b2]
    split <;> exact fin
  | some k =>
    have hk : k < 5 := Nat.lt_of_lt_of_le (wIx_lt hw) (by decide)
    have ec : clS T i D q = if i = 60 ∨ (k = 0 ∧ D.1 = 8) ∨ ((k = 1 ∨ k = 2) ∧ D.2.2.1 = 24) then (D, .inr (3, q)) else clA T k D (.inl (sk T (rn isLt T q))) := by unfold clS; rw [hw]
    rw [wdS_some hw] at b1 b2
    dsimp only at b1 b2
    rw [b1, oN_some, ec]
    have k0 : (iN k = (0 : Int32)) = (k = 0) := iN_eql (by omega) (by decide)
    have k1 : (iN k = (1 : Int32)) = (k = 1) := iN_eql (by omega) (by decide)
    have k2 : (iN k = (2 : Int32)) = (k = 2) := iN_eql (by omega) (by decide)
    have full : i = 60 ∨ (k = 0 ∧ D.1 = 8) ∨ ((k = 1 ∨ k = 2) ∧ D.2.2.1 = 24) → TT (Option.bind (f_290 3 (iN q) P1) fun P3 => f_283_66 9 N (iN k) P3) (fun r => CTS T (if i = 60 ∨ (k = 0 ∧ D.1 = 8) ∨ ((k = 1 ∨ k = 2) ∧ D.2.2.1 = 24) then (D, .inr (3, q)) else clA T k D (.inl (sk T (rn isLt T q)))) r ∧ fr sTn P r) := fun hf => by
      rw [if_pos hf]
      exact (c_full b2).mono (fun r hr => ⟨⟨hr.1, fun q' e => by cases e⟩, (b4.mono sTp_n).tr hr.2⟩)
    have go : ¬ (i = 60 ∨ (k = 0 ∧ D.1 = 8) ∨ ((k = 1 ∨ k = 2) ∧ D.2.2.1 = 24)) → TT (f_283_66 9 N (iN k) P1) (fun r => CTS T (if i = 60 ∨ (k = 0 ∧ D.1 = 8) ∨ ((k = 1 ∨ k = 2) ∧ D.2.2.1 = 24) then (D, .inr (3, q)) else clA T k D (.inl (sk T (rn isLt T q)))) r ∧ fr sTn P r) := fun hf => by
      rw [if_neg hf]
      unfold f_283_66
      rw [c_isF b2, Option.bind_some, if_pos (by rfl)]
      exact (c_go b2 ok okd d1 hk (fun e => by omega) (fun e => by omega) hN).mono (fun r hr => ⟨hr.1, (b4.mono sTp_n).tr hr.2⟩)
    have at36 : (k = 1 ∨ k = 2) → i ≠ 60 → TT (f_283_36 9 N (iN k) P1) (fun r => CTS T (if i = 60 ∨ (k = 0 ∧ D.1 = 8) ∨ ((k = 1 ∨ k = 2) ∧ D.2.2.1 = 24) then (D, .inr (3, q)) else clA T k D (.inl (sk T (rn isLt T q)))) r ∧ fr sTn P r) := fun hk12 hi60 => by
      unfold f_283_36
      rw [d1.2.1, e4]
      by_cases hm : D.2.2.1 < 24
      · rw [if_pos (by rw [iN_ltl (by omega) (by decide)]; exact hm)]
        exact go (by omega)
      · rw [if_neg (by rw [iN_ltl (by omega) (by decide)]; exact hm)]
        exact full (by omega)
    simp only [i60, k0, k1, k2, p8]
    by_cases hi6 : i < 60
    · rw [if_pos hi6]
      by_cases hk0 : k = 0
      · rw [if_pos hk0]
        by_cases hd8 : D.1 < 8
        · rw [if_pos hd8, if_neg (by omega), if_neg (by omega)]
          exact go (by omega)
        · rw [if_neg hd8]
          exact full (by omega)
      · rw [if_neg hk0]
        by_cases hk1 : k = 1
        · rw [if_pos hk1]
          exact at36 (Or.inl hk1) (by omega)
        · rw [if_neg hk1]
          by_cases hk2 : k = 2
          · rw [if_pos hk2]
            exact at36 (Or.inr hk2) (by omega)
          · rw [if_neg hk2]
            exact go (by omega)
    · rw [if_neg hi6]
      exact full (by omega)
theorem c_more1 (h : CR T (.inl q) P) (ok : okT T) (hN : 70000 ≤ N) : f_282 N P = some (bI (decide (q < T.2)), ab_pI P 1 3 (iN q)) := by
  unfold f_282
  rw [if_pos h.ok, c_nxt h ok hN, b2_some]
  unfold byT
  by_cases hq : q < T.2
  · have := ok.2 q
    rw [if_pos hq, if_neg (by rw [iN_nm1 (by omega)]; exact id)]
    simp [hq, bI]
  · rw [if_neg hq, if_pos rfl]
    simp [hq, bI]
theorem c_more0 {f : Nat × Nat} (h : CR T (.inr f) P) : f_282 N P = some (0, P) := by
  unfold f_282
  rw [if_neg h.no]
theorem c_clauses (ok : okT T) (hN : 70000 ≤ N) : ∀ (c i : Nat) (D : TD) (s : RS) (P : ab_P) (n : Nat), i + c = 62 → c < n → (i = 61 → ∃ f, s = .inr f) → CTS T (D, s) P → (∀ q, s = .inl q → okD D) → TT (f_200_24 9 N n (iN i) P) (fun r => CTS T (tnL T c i D s) r ∧ fr sTn P r) := by
  intro c
  induction c with
  | zero =>
    intro i D s P n hi hn h61 h okd
    obtain ⟨n, rfl⟩ : ∃ z, n = z + 1 := ⟨n - 1, by omega⟩
    unfold f_200_24
    rw [if_pos (by rw [iN_lll (by omega) (by decide)]; exact (show 60 < i by omega))]
    exact TT_some ⟨h, fr.rf⟩
  | succ c ih =>
    intro i D s P n hi hn h61 h okd
    obtain ⟨n, rfl⟩ : ∃ z, n = z + 1 := ⟨n - 1, by omega⟩
    unfold f_200_24
    cases s with
    | inr f =>
      have e9 : tnL T (c + 1) i D (.inr f) = (D, .inr f) := rfl
      rw [e9, c_more0 h.1, b2_some, if_pos rfl]
      split <;> exact TT_some ⟨h, fr.rf⟩
    | inl q =>
      have hi61 : i ≠ 61 := fun e => by
        obtain ⟨f, hf⟩ := h61 e
        cases hf
      have okd1 := okd q rfl
      have f1 : fr sTn P (ab_pI P 1 3 (iN q)) := fr.I (Or.inl (by unfold sTp; omega))
      rw [if_neg (by rw [iN_lll (by omega) (by decide)]; exact (show ¬ 60 < i by omega)), c_more1 h.1 ok hN, b2_some]
      have e9 : tnL T (c + 1) i D (.inl q) = if q < T.2 then tnL T c (i + 1) (clS T i D q).1 (clS T i D q).2 else (D, .inl q) := rfl
      rw [e9]
      have g := h.1.at'
      have gd : CTd D (ab_pI P 1 3 (iN q)) := (h.2 q rfl).keep (fun b j hb => pI_ne (by omega))
      by_cases hq : q < T.2
      · rw [if_neg (by rw [bI_0]; simp [hq]), if_pos hq, iN_succ]
        refine TT_bind (c_clause g ok okd1 gd (by omega) hN) (fun P2 h2 => ?_)
        refine (ih (i + 1) (clS T i D q).1 (clS T i D q).2 P2 n (by omega) (by omega) (fun e => ?_) h2.1 (fun q2 e => (clS_ok okd1 e).1)).mono (fun r hr => ⟨hr.1, (f1.tr h2.2).tr hr.2⟩)
        cases hs : (clS T i D q).2 with
        | inr f => exact ⟨f, rfl⟩
        | inl q2 => exact absurd (by omega) (clS_ok okd1 hs).2
      · rw [if_pos (by rw [bI_0]; simp [hq]), if_neg hq]
        exact TT_some ⟨⟨g, fun _ _ => gd⟩, f1⟩
def townS (T : TX) : TD × RS := tnL T 62 0 td0 (.inl (sk T 0))
theorem c_townR (h : CR T (.inl (sk T 0)) P) (ok : okT T) (hN : 70000 ≤ N) : TT (f_200 9 N P) (fun r => CTS T (townS T) r ∧ fr sTn P r) := by
  unfold f_200
  refine TT_lt (TT_lt (TT_lt (TT_lt ?_)))
  have hf : fr sTn P (ab_pI (ab_pI (ab_pI (ab_pI P 9 5 0) 9 6 0) 9 7 10) 9 8 30) := (((fr.I (Or.inr (by decide))).tr (fr.I (Or.inr (by decide)))).tr (fr.I (Or.inr (by decide)))).tr (fr.I (Or.inr (by decide)))
  refine (c_clauses ok hN 62 0 td0 (.inl (sk T 0)) _ N (by decide) (by omega) (fun e => by cases e) ⟨h.keep (fun b j hb => ?_), fun q e => ⟨?_, ?_, ?_, ?_, fun j hj => absurd hj (Nat.not_lt_zero j), fun j hj => absurd hj (Nat.not_lt_zero j)⟩⟩ (fun q e => td0_ok)).mono (fun r hr => ⟨hr.1, hf.tr hr.2⟩)
  · unfold kTp at hb
    rw [pI_ne (by omega), pI_ne (by omega), pI_ne (by omega), pI_ne (by omega)]
  · rw [pI_nj (by decide), pI_nj (by decide), pI_nj (by decide), pI_eq]; rfl
  · rw [pI_nj (by decide), pI_nj (by decide), pI_eq]; rfl
  · rw [pI_nj (by decide), pI_eq]; rfl
  · rw [pI_eq]; rfl
end TN2
