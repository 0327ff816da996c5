/-! a town's text: people, how many; tempers; claims, how many; interest; bite -/
abbrev TD : Type := Nat × (Nat → Nat) × Nat × (Nat → Nat × Nat × Nat × Nat) × Nat × Nat
def td0 : TD := (0, fun _ => 0, 0, fun _ => (0, 0, 0, 0), 10, 30)
def tdP (D : TD) (t : Nat) : TD := (D.1 + 1, fun j => if j = D.1 then t else D.2.1 j, D.2.2)
def tdC (D : TD) (c : Nat × Nat × Nat × Nat) : TD := (D.1, D.2.1, D.2.2.1 + 1, fun j => if j = D.2.2.1 then c else D.2.2.2.1 j, D.2.2.2.2)
def tdI (D : TD) (x : Nat) : TD := (D.1, D.2.1, D.2.2.1, D.2.2.2.1, x, D.2.2.2.2.2)
def tdB (D : TD) (x : Nat) : TD := (D.1, D.2.1, D.2.2.1, D.2.2.2.1, D.2.2.2.2.1, x)
/-- a claim's numbers, behind its word -/
def cl3 (T : TX) (pe : Nat) (s : RS) : (Nat × Nat × Nat) × RS := (((numS T 0 pe s).1, (butS T pe (numS T 0 pe s).1 (numS T 0 pe s).2).1, (numS T 1 1000 (butS T pe (numS T 0 pe s).1 (numS T 0 pe s).2).2).1), (numS T 1 1000 (butS T pe (numS T 0 pe s).1 (numS T 0 pe s).2).2).2)
def clA (T : TX) (k : Nat) (D : TD) (s : RS) : TD × RS :=
  if k = 0 then (tdP D (numS T 0 10 s).1, sgnS T 59 (numS T 0 10 s).2)
  else if k < 3 then (tdC D ((cl3 T D.1 s).1.1, (cl3 T D.1 s).1.2.1, (cl3 T D.1 s).1.2.2, if k = 1 then 1 else 0), sgnS T 59 (cl3 T D.1 s).2)
  else if k = 3 then (tdI D (numS T 0 51 s).1, sgnS T 59 (numS T 0 51 s).2)
  else (tdB D (numS T 0 101 s).1, sgnS T 59 (numS T 0 101 s).2)
def clS (T : TX) (i : Nat) (D : TD) (q : Nat) : TD × RS := match wIx (lw T q) wsT 0 with
  | none => (D, .inr (1, q))
  | some k => if i = 60 ∨ (k = 0 ∧ D.1 = 8) ∨ ((k = 1 ∨ k = 2) ∧ D.2.2.1 = 24) then (D, .inr (3, q)) else clA T k D (.inl (sk T (rn isLt T q)))
def tnL (T : TX) : Nat → Nat → TD → RS → TD × RS
  | 0, _, D, s => (D, s)
  | c + 1, i, D, s => match s with
    | .inl q => if q < T.2 then tnL T c (i + 1) (clS T i D q).1 (clS T i D q).2 else (D, .inl q)
    | .inr f => (D, .inr f)
def okD (D : TD) : Prop := D.1 ≤ 8 ∧ D.2.2.1 ≤ 24 ∧ D.2.2.2.2.1 ≤ 50 ∧ D.2.2.2.2.2 ≤ 100 ∧ (∀ j, j < D.1 → D.2.1 j ≤ 9) ∧ ∀ j, j < D.2.2.1 → (D.2.2.2.1 j).1 < D.1 ∧ (D.2.2.2.1 j).2.1 < D.1 ∧ 1 ≤ (D.2.2.2.1 j).2.2.1 ∧ (D.2.2.2.1 j).2.2.1 ≤ 999 ∧ (D.2.2.2.1 j).2.2.2 ≤ 1
theorem numS_r {T : TX} {lo hb : Nat} {f : Nat × Nat} : numS T lo hb (.inr f) = (0, .inr f) := rfl
theorem butS_r {T : TX} {hb o : Nat} {f : Nat × Nat} : butS T hb o (.inr f) = (0, .inr f) := rfl
theorem sgnS_r {T : TX} {c : Nat} {f : Nat × Nat} : sgnS T c (.inr f) = .inr f := rfl
theorem sgnS_l {T : TX} {c : Nat} {s : RS} {q' : Nat} (h : sgnS T c s = .inl q') : ∃ q, s = .inl q := by
  cases s with
  | inl q => exact ⟨q, rfl⟩
  | inr f => cases h
theorem numS_l {T : TX} {lo hb : Nat} {s : RS} {q' : Nat} (h : (numS T lo hb s).2 = .inl q') : ∃ q, s = .inl q ∧ lo ≤ (numS T lo hb s).1 ∧ (numS T lo hb s).1 < hb := by
  cases s with
  | inl q =>
    have e : numS T lo hb (.inl q) = ((numS T lo hb (.inl q)).1, .inl q') := Prod.ext rfl h
    exact ⟨q, rfl, numS_ok e⟩
  | inr f => cases h
theorem butS_l {T : TX} {hb o : Nat} {s : RS} {q' : Nat} (h : (butS T hb o s).2 = .inl q') : ∃ q, s = .inl q ∧ (butS T hb o s).1 < hb ∧ (butS T hb o s).1 ≠ o := by
  cases s with
  | inl q =>
    refine ⟨q, rfl, ?_⟩
    change (butA q o (numS T 0 hb (.inl q))).2 = .inl q' at h
    show (butA q o (numS T 0 hb (.inl q))).1 < hb ∧ (butA q o (numS T 0 hb (.inl q))).1 ≠ o
    cases hn : numS T 0 hb (.inl q) with
    | mk w s' =>
      rw [hn] at h
      cases s' with
      | inr f => cases h
      | inl q2 =>
        by_cases hw : w = o
        · rw [show butA q o (w, .inl q2) = (0, .inr (2, q)) from if_pos hw] at h
          cases h
        · rw [show butA q o (w, .inl q2) = (w, .inl q2) from if_neg hw]
          exact ⟨(numS_ok hn).2, hw⟩
  | inr f => cases h
theorem numS_w {T : TX} {lo hb : Nat} {s : RS} (h9 : hb ≤ 10000) : (numS T lo hb s).1 < 2147483648 := by
  cases hs : (numS T lo hb s).2 with
  | inl q' =>
    obtain ⟨_, _, _, h⟩ := numS_l hs
    omega
  | inr f =>
    cases s with
    | inr f => exact (by decide : 0 < 2147483648)
    | inl q =>
      by_cases h0 : rn isDg T q = q
      · rw [show numS T lo hb (.inl q) = (0, .inr (1, q)) from if_pos h0]
        exact (by decide : 0 < 2147483648)
      · by_cases h1 : lo ≤ dv T q 0 ∧ dv T q 0 < hb
        · rw [show numS T lo hb (.inl q) = (dv T q 0, .inl (sk T (rn isDg T q))) from (if_neg h0).trans (if_pos h1)] at hs
          cases hs
        · rw [show numS T lo hb (.inl q) = (0, .inr (2, q)) from (if_neg h0).trans (if_neg h1)]
          exact (by decide : 0 < 2147483648)
theorem cl3_l {T : TX} {pe : Nat} {s : RS} {q' : Nat} (h : (cl3 T pe s).2 = .inl q') : (cl3 T pe s).1.1 < pe ∧ (cl3 T pe s).1.2.1 < pe ∧ (cl3 T pe s).1.1 ≠ (cl3 T pe s).1.2.1 ∧ 1 ≤ (cl3 T pe s).1.2.2 ∧ (cl3 T pe s).1.2.2 ≤ 999 := by
  obtain ⟨q1, e1, a1, a2⟩ := numS_l h
  obtain ⟨q2, e2, b1, b2⟩ := butS_l e1
  obtain ⟨q3, e3, c1, c2⟩ := numS_l e2
  exact ⟨c2, b1, fun e => b2 e.symm, a1, Nat.le_of_lt_succ a2⟩
theorem td_P {D : TD} {t : Nat} (h : okD D) (h8 : D.1 < 8) (ht : t ≤ 9) : okD (tdP D t) := by
  obtain ⟨h1, h2, h3, h4, h5, h6⟩ := h
  refine ⟨by show D.1 + 1 ≤ 8; omega, h2, h3, h4, fun j hj => ?_, fun j hj => ?_⟩
  · show (if j = D.1 then t else D.2.1 j) ≤ 9
    split
    · exact ht
    · have hj : j < D.1 + 1 := hj
      exact h5 j (by omega)
  · have := h6 j hj
    exact ⟨Nat.lt_succ_of_lt this.1, Nat.lt_succ_of_lt this.2.1, this.2.2⟩
theorem td_C {D : TD} {a b z t : Nat} (h : okD D) (h24 : D.2.2.1 < 24) (ha : a < D.1) (hb : b < D.1) (hz : 1 ≤ z ∧ z ≤ 999) (ht : t ≤ 1) : okD (tdC D (a, b, z, t)) := by
  obtain ⟨h1, h2, h3, h4, h5, h6⟩ := h
  refine ⟨h1, by show D.2.2.1 + 1 ≤ 24; omega, h3, h4, h5, fun j hj => ?_⟩
  by_cases e : j = D.2.2.1
  · subst e
    rw [show (tdC D (a, b, z, t)).2.2.2.1 D.2.2.1 = (a, b, z, t) from if_pos rfl]
    exact ⟨ha, hb, hz.1, hz.2, ht⟩
  · rw [show (tdC D (a, b, z, t)).2.2.2.1 j = D.2.2.2.1 j from if_neg e]
    have hj : j < D.2.2.1 + 1 := hj
    exact h6 j (by omega)
theorem clA_ok {T : TX} {k : Nat} {D : TD} {s : RS} {q' : Nat} (h : okD D) (h0 : k = 0 → D.1 < 8) (h1 : k = 1 ∨ k = 2 → D.2.2.1 < 24) (e : (clA T k D s).2 = .inl q') : okD (clA T k D s).1 := by
  unfold clA at e ⊢
  by_cases k0 : k = 0
  · rw [if_pos k0] at e ⊢
    obtain ⟨q1, e1⟩ := sgnS_l e
    obtain ⟨_, _, _, c⟩ := numS_l e1
    exact td_P h (h0 k0) (by omega)
  · rw [if_neg k0] at e ⊢
    by_cases k3 : k < 3
    · rw [if_pos k3] at e ⊢
      obtain ⟨q1, e1⟩ := sgnS_l e
      have := cl3_l e1
      refine td_C h (h1 (by omega)) this.1 this.2.1 this.2.2.2 ?_
      split <;> omega
    · rw [if_neg k3] at e ⊢
      by_cases k4 : k = 3
      · rw [if_pos k4] at e ⊢
        obtain ⟨q1, e1⟩ := sgnS_l e
        obtain ⟨_, _, _, c⟩ := numS_l e1
        exact ⟨h.1, h.2.1, Nat.le_of_lt_succ c, h.2.2.2⟩
      · rw [if_neg k4] at e ⊢
        obtain ⟨q1, e1⟩ := sgnS_l e
        obtain ⟨_, _, _, c⟩ := numS_l e1
        exact ⟨h.1, h.2.1, h.2.2.1, Nat.le_of_lt_succ c, h.2.2.2.2⟩
theorem clS_ok {T : TX} {i : Nat} {D : TD} {q q' : Nat} (h : okD D) (e : (clS T i D q).2 = .inl q') : okD (clS T i D q).1 ∧ i ≠ 60 := by
  unfold clS at e ⊢
  cases hw : wIx (lw T q) wsT 0 with
  | none => rw [hw] at e; cases e
  | some k =>
    rw [hw] at e
    dsimp only at e ⊢
    by_cases hf : i = 60 ∨ (k = 0 ∧ D.1 = 8) ∨ ((k = 1 ∨ k = 2) ∧ D.2.2.1 = 24)
    · rw [if_pos hf] at e
      cases e
    · rw [if_neg hf] at e ⊢
      have h1 := h.1
      have h2 := h.2.1
      exact ⟨clA_ok h (fun k0 => by omega) (fun k1 => by omega) e, fun i0 => hf (Or.inl i0)⟩
theorem tnL_ok {T : TX} : ∀ {c i : Nat} {D : TD} {s : RS} {q' : Nat}, okD D → (tnL T c i D s).2 = .inl q' → okD (tnL T c i D s).1
  | 0, _, _, _, _, h, _ => h
  | c + 1, i, D, .inr f, _, h, e => by cases e
  | c + 1, i, D, .inl q, q', h, e => by
    unfold tnL at e ⊢
    dsimp only at e ⊢
    by_cases hq : q < T.2
    · rw [if_pos hq] at e ⊢
      cases hs : (clS T i D q).2 with
      | inr f =>
        rw [hs] at e
        cases c with
        | zero => cases e
        | succ c => cases e
      | inl q2 =>
        rw [hs] at e
        exact tnL_ok (clS_ok h hs).1 e
    · rw [if_neg hq] at e ⊢
      exact h
theorem td0_ok : okD td0 := ⟨by decide, by decide, by decide, by decide, fun j hj => absurd hj (Nat.not_lt_zero j), fun j hj => absurd hj (Nat.not_lt_zero j)⟩
/-! as both sides hold it -/
def CTd (D : TD) (P : ab_P) : Prop := P.1 9 5 = iN D.1 ∧ P.1 9 6 = iN D.2.2.1 ∧ P.1 9 7 = iN D.2.2.2.2.1 ∧ P.1 9 8 = iN D.2.2.2.2.2 ∧ (∀ j, j < D.1 → P.1 10 j = iN (D.2.1 j)) ∧ ∀ j, j < D.2.2.1 → P.1 11 j = iN (D.2.2.2.1 j).1 ∧ P.1 12 j = iN (D.2.2.2.1 j).2.1 ∧ P.1 13 j = iN (D.2.2.2.1 j).2.2.1 ∧ P.1 14 j = iN (D.2.2.2.1 j).2.2.2
def RTd (D : TD) (P : ab_P) : Prop := P.1 75 0 = iN D.1 ∧ P.1 75 1 = iN D.2.2.1 ∧ P.1 75 2 = iN D.2.2.2.2.1 ∧ P.1 75 3 = iN D.2.2.2.2.2 ∧ (∀ j, j < D.1 → P.1 77 j = iN (D.2.1 j)) ∧ ∀ j, j < D.2.2.1 → P.1 (80 + j) 0 = iN (D.2.2.2.1 j).1 ∧ P.1 (80 + j) 1 = iN (D.2.2.2.1 j).2.1 ∧ P.1 (80 + j) 2 = iN (D.2.2.2.1 j).2.2.1 ∧ P.1 (80 + j) 3 = iN (D.2.2.2.1 j).2.2.2
theorem CTd.keep {D : TD} {P P' : ab_P} (h : CTd D P) (e : ∀ b j, 9 ≤ b ∧ b ≤ 14 → P'.1 b j = P.1 b j) : CTd D P' := by
  obtain ⟨h1, h2, h3, h4, h5, h6⟩ := h
  refine ⟨(e 9 5 (by decide)).trans h1, (e 9 6 (by decide)).trans h2, (e 9 7 (by decide)).trans h3, (e 9 8 (by decide)).trans h4, fun j hj => (e 10 j (by decide)).trans (h5 j hj), fun j hj => ?_⟩
  obtain ⟨a1, a2, a3, a4⟩ := h6 j hj
  exact ⟨(e 11 j (by decide)).trans a1, (e 12 j (by decide)).trans a2, (e 13 j (by decide)).trans a3, (e 14 j (by decide)).trans a4⟩
theorem CTd.fr {D : TD} {P P' : ab_P} (h : CTd D P) (f : fr sTp P P') : CTd D P' := h.keep (fun b j hb => f.1 b j (by unfold sTp; omega))
theorem RTd.keep {D : TD} {P P' : ab_P} (h : RTd D P) (ok : okD D) (e : ∀ b j, (b = 75 ∨ b = 77 ∨ (80 ≤ b ∧ b < 104)) → P'.1 b j = P.1 b j) : RTd D P' := by
  obtain ⟨h1, h2, h3, h4, h5, h6⟩ := h
  refine ⟨(e 75 0 (by omega)).trans h1, (e 75 1 (by omega)).trans h2, (e 75 2 (by omega)).trans h3, (e 75 3 (by omega)).trans h4, fun j hj => (e 77 j (by omega)).trans (h5 j hj), fun j hj => ?_⟩
  have h24 := ok.2.1
  obtain ⟨a1, a2, a3, a4⟩ := h6 j hj
  exact ⟨(e _ _ (by omega)).trans a1, (e _ _ (by omega)).trans a2, (e _ _ (by omega)).trans a3, (e _ _ (by omega)).trans a4⟩
def sTn (b j : Nat) : Prop := sTp b j ∨ (9 ≤ b ∧ b ≤ 14)
def sTm (b j : Nat) : Prop := sTr b j ∨ (b = 72 ∧ j = 7) ∨ b = 75 ∨ b = 77 ∨ (80 ≤ b ∧ b < 104)
theorem sTp_n : ∀ b j, sTp b j → sTn b j := fun _ _ h => Or.inl h
theorem sTr_m : ∀ b j, sTr b j → sTm b j := fun _ _ h => Or.inl h
def CTS (T : TX) (x : TD × RS) (P : ab_P) : Prop := CR T x.2 P ∧ ∀ q, x.2 = .inl q → CTd x.1 P
def RTS (T : TX) (x : TD × RS) (P : ab_P) : Prop := RR T x.2 P ∧ ∀ q, x.2 = .inl q → RTd x.1 P
theorem i_pe (n : Nat) (h : n < 2147483648) : (iN n - (1 : Int32)).toInt = (n : Int) - 1 := by
  have h1 : (1 : Int32).toInt = 1 := by decide
  rw [i_sub (by rw [iN_toInt h, h1]; omega) (by rw [iN_toInt h, h1]; omega), iN_toInt h, h1]
section TN
variable {T : TX} {D : TD} {P : ab_P} {N q : Nat} {s : RS}
theorem c_semi (h : CR T s P) (ok : okT T) (hd : ∀ q, s = .inl q → CTd D P) (hN : 70000 ≤ N) : TT (f_324 N (59 : Int32) P) (fun r => CTS T (D, sgnS T 59 s) r ∧ fr sTn P r) := by
  refine (c_sign (c := 59) (by decide) h ok hN).mono (fun r hr => ⟨⟨hr.1, fun q' e => ?_⟩, hr.2.mono sTp_n⟩)
  obtain ⟨q, e1⟩ := sgnS_l e
  exact (hd q e1).fr hr.2
theorem c_person (h : CR T s P) (ok : okT T) (hd : CTd D P) (h8 : D.1 < 8) (hN : 70000 ≤ N) : TT (f_321 9 N P) (fun P' => CR T (numS T 0 10 s).2 P' ∧ (∀ q', (numS T 0 10 s).2 = .inl q' → CTd (tdP D (numS T 0 10 s).1) P') ∧ fr sTn P P') := by
  unfold f_321
  refine TT_b2 (c_num (lo := 0) (hb := 10) (by decide) (by decide) (by decide) h ok hN) (fun v P1 hv => ?_)
  obtain ⟨b1, b2, b3⟩ := hv
  dsimp only at b1 b2 b3
  have d1 := hd.fr b3
  rw [d1.1, if_neg (by rw [iN_neg (by omega)]; exact id), if_pos (by rw [iN_ltl (by omega) (by decide)]; exact h8), if_pos (iN_gi h8 (by decide)), iN_nat (by omega)]
  refine TT_lt (TT_lt (TT_some ⟨b1.keep (fun b j hb => ?_), fun q' e => ?_, (b3.mono sTp_n).tr ((fr.I (Or.inr (by decide))).tr (fr.I (Or.inr (by decide))))⟩))
  · unfold kTp at hb
    rw [pI_ne (by omega), pI_ne (by omega)]
  · obtain ⟨c1, _⟩ := b2 q' e
    obtain ⟨h1, h2, h3, h4, h5, h6⟩ := d1
    refine ⟨?_, ?_, ?_, ?_, fun j hj => ?_, fun j hj => ?_⟩
    · rw [pI_eq, pI_ne (by decide), h1]
      exact iN_succ _
    · rw [pI_nj (by decide), pI_ne (by decide)]; exact h2
    · rw [pI_nj (by decide), pI_ne (by decide)]; exact h3
    · rw [pI_nj (by decide), pI_ne (by decide)]; exact h4
    · rw [pI_ne (by decide), pI_at]
      show _ = iN (if j = D.1 then _ else D.2.1 j)
      by_cases ej : j = D.1
      · rw [if_pos ⟨rfl, ej⟩, if_pos ej]
        exact c1
      · rw [if_neg (fun e => ej e.2), if_neg ej]
        have hj : j < D.1 + 1 := hj
        exact h5 j (by omega)
    · obtain ⟨a1, a2, a3, a4⟩ := h6 j hj
      rw [pI_ne (by decide), pI_ne (by decide), pI_ne (by decide), pI_ne (by decide), pI_ne (by decide), pI_ne (by decide), pI_ne (by decide), pI_ne (by decide)]
      exact ⟨a1, a2, a3, a4⟩
theorem c_claim {t : Nat} (h : CR T s P) (ok : okT T) (okd : okD D) (hd : CTd D P) (h24 : D.2.2.1 < 24) (hN : 70000 ≤ N) : TT (f_322 9 N (iN t) P) (fun P' => CR T (cl3 T D.1 s).2 P' ∧ (∀ q', (cl3 T D.1 s).2 = .inl q' → CTd (tdC D ((cl3 T D.1 s).1.1, (cl3 T D.1 s).1.2.1, (cl3 T D.1 s).1.2.2, t)) P') ∧ fr sTn P P') := by
  have h8 := okd.1
  unfold f_322
  rw [hd.1]
  refine TT_b2 (c_num (lo := 0) (hb := D.1) (by decide) (i_pe _ (by omega)) (by omega) h ok hN) (fun v1 P1 hv1 => ?_)
  obtain ⟨a1, a2, a3⟩ := hv1
  dsimp only at a1 a2 a3
  have d1 := hd.fr a3
  rw [d1.1]
  have o1 : (numS T 0 D.1 s).1 < 2147483648 := numS_w (by omega)
  refine TT_b2 (c_but (hb := D.1) (o := (numS T 0 D.1 s).1) (i_pe _ (by omega)) (by omega) o1 (fun q e => (a2 q e).1) a1 ok hN) (fun v2 P2 hv2 => ?_)
  obtain ⟨b1, b2, b3⟩ := hv2
  dsimp only at b1 b2 b3
  have d2 := d1.fr b3
  refine TT_b2 (c_num (lo := 1) (hb := 1000) (by decide) (by decide) (by decide) b1 ok hN) (fun v3 P3 hv3 => ?_)
  obtain ⟨c1, c2, c3⟩ := hv3
  dsimp only at c1 c2 c3
  have d3 := d2.fr c3
  have f3 := ((a3.tr b3).tr c3).mono sTp_n
  rw [d3.2.1, if_neg (by rw [iN_neg (by omega)]; exact id), if_pos (by rw [iN_ltl (by omega) (by decide)]; exact h24), if_pos (iN_gi h24 (by decide)), iN_nat (by omega)]
  refine TT_lt ?_
  have e1 : (ab_pI P3 11 D.2.2.1 v1).1 9 6 = iN D.2.2.1 := by rw [pI_ne (by decide)]; exact d3.2.1
  rw [show (ab_pI P3 (9 + 2) D.2.2.1 v1).1 9 6 = iN D.2.2.1 from e1, if_pos (iN_gi h24 (by decide)), iN_nat (by omega)]
  refine TT_lt ?_
  have e2 : (ab_pI (ab_pI P3 11 D.2.2.1 v1) 12 D.2.2.1 v2).1 9 6 = iN D.2.2.1 := by rw [pI_ne (by decide)]; exact e1
  rw [show (ab_pI (ab_pI P3 (9 + 2) D.2.2.1 v1) (9 + 3) D.2.2.1 v2).1 9 6 = iN D.2.2.1 from e2, if_pos (iN_gi h24 (by decide)), iN_nat (by omega)]
  refine TT_lt ?_
  have e3 : (ab_pI (ab_pI (ab_pI P3 11 D.2.2.1 v1) 12 D.2.2.1 v2) 13 D.2.2.1 v3).1 9 6 = iN D.2.2.1 := by rw [pI_ne (by decide)]; exact e2
  rw [show (ab_pI (ab_pI (ab_pI P3 (9 + 2) D.2.2.1 v1) (9 + 3) D.2.2.1 v2) (9 + 4) D.2.2.1 v3).1 9 6 = iN D.2.2.1 from e3, if_pos (iN_gi h24 (by decide)), iN_nat (by omega)]
  refine TT_lt (TT_lt (TT_some ⟨c1.keep (fun b j hb => ?_), fun q' e => ?_, f3.tr (((((fr.I (Or.inr (by decide))).tr (fr.I (Or.inr (by decide)))).tr (fr.I (Or.inr (by decide)))).tr (fr.I (Or.inr (by decide)))).tr (fr.I (Or.inr (by decide))))⟩))
  · unfold kTp at hb
    rw [pI_ne (by omega), pI_ne (by omega), pI_ne (by omega), pI_ne (by omega), pI_ne (by omega)]
  · obtain ⟨w1, _⟩ := c2 q' e
    obtain ⟨q1, y1, _⟩ := numS_l e
    have w2 := b2 q1 y1
    obtain ⟨q2, y2, _⟩ := butS_l y1
    have w3 := (a2 q2 y2).1
    obtain ⟨h1, h2, h3, h4, h5, h6⟩ := d3
    refine ⟨?_, ?_, ?_, ?_, fun j hj => ?_, fun j hj => ?_⟩
    · rw [pI_nj (by decide), pI_ne (by decide), pI_ne (by decide), pI_ne (by decide), pI_ne (by decide)]; exact h1
    · rw [pI_eq, pI_ne (by decide), show (ab_pI (ab_pI (ab_pI P3 (9 + 2) D.2.2.1 v1) (9 + 3) D.2.2.1 v2) (9 + 4) D.2.2.1 v3).1 9 6 = iN D.2.2.1 from e3]
      exact iN_succ _
    · rw [pI_nj (by decide), pI_ne (by decide), pI_ne (by decide), pI_ne (by decide), pI_ne (by decide)]; exact h3
    · rw [pI_nj (by decide), pI_ne (by decide), pI_ne (by decide), pI_ne (by decide), pI_ne (by decide)]; exact h4
    · rw [pI_ne (by decide), pI_ne (by decide), pI_ne (by decide), pI_ne (by decide), pI_ne (by decide)]; exact h5 j hj
    · have hj : j < D.2.2.1 + 1 := hj
      by_cases ej : j = D.2.2.1
      · subst ej
        rw [show (tdC D ((cl3 T D.1 s).1.1, (cl3 T D.1 s).1.2.1, (cl3 T D.1 s).1.2.2, t)).2.2.2.1 D.2.2.1 = ((cl3 T D.1 s).1.1, (cl3 T D.1 s).1.2.1, (cl3 T D.1 s).1.2.2, t) from if_pos rfl]
        refine ⟨?_, ?_, ?_, ?_⟩
        · rw [pI_ne (by decide), pI_ne (by decide), pI_ne (by decide), pI_ne (by decide), pI_eq]; exact w3
        · rw [pI_ne (by decide), pI_ne (by decide), pI_ne (by decide), pI_eq]; exact w2
        · rw [pI_ne (by decide), pI_ne (by decide), pI_eq]; exact w1
        · rw [pI_ne (by decide), pI_eq]
      · rw [show (tdC D ((cl3 T D.1 s).1.1, (cl3 T D.1 s).1.2.1, (cl3 T D.1 s).1.2.2, t)).2.2.2.1 j = D.2.2.2.1 j from if_neg ej]
        obtain ⟨g1, g2, g3, g4⟩ := h6 j (by omega)
        refine ⟨?_, ?_, ?_, ?_⟩
        · rw [pI_ne (by decide), pI_ne (by decide), pI_ne (by decide), pI_ne (by decide), pI_nj ej]; exact g1
        · rw [pI_ne (by decide), pI_ne (by decide), pI_ne (by decide), pI_nj ej, pI_ne (by decide)]; exact g2
        · rw [pI_ne (by decide), pI_ne (by decide), pI_nj ej, pI_ne (by decide), pI_ne (by decide)]; exact g3
        · rw [pI_ne (by decide), pI_nj ej, pI_ne (by decide), pI_ne (by decide), pI_ne (by decide)]; exact g4
end TN
