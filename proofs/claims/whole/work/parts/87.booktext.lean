/-! a book's text: both sides -/
def bkP (B : BK) (p : Nat) (z : Int) : BK := (B.1 + 1, (fun j => if j = B.1 then p else B.2.1 j), fun j => if j = B.1 then z else B.2.2 j)
def sgZ (b : Bool) (z : Nat) : Int := if b then -(z : Int) else z
def bkA (T : TX) (B : BK) (q : Nat) (r : Nat × RS) : BK × RS := match r.2 with
  | .inr f => (B, .inr f)
  | .inl q1 => if B.1 = 8 then (B, .inr (3, q)) else (bkP B r.1 (sgZ (tkS T 45 (.inl q1)).1 (numS T 0 10000 (tkS T 45 (.inl q1)).2).1), sgnS T 59 (numS T 0 10000 (tkS T 45 (.inl q1)).2).2)
def bkS (T : TX) (pe : Nat) (B : BK) (q : Nat) : BK × RS := bkA T B q (numS T 0 pe (.inl q))
def bkL (T : TX) (pe : Nat) : Nat → BK → RS → BK × RS
  | 0, B, s => (B, s)
  | c + 1, B, s => match s with
    | .inl q => if q < T.2 then bkL T pe c (bkS T pe B q).1 (bkS T pe B q).2 else (B, .inl q)
    | .inr f => (B, .inr f)
def bk0 : BK := (0, (fun _ => 0), fun _ => 0)
def bookS (T : TX) (pe : Nat) : BK × RS := bkL T pe 10 bk0 (.inl (sk T 0))
theorem bk0_ok {pe : Nat} : okB pe bk0 := ⟨by decide, fun i hi => absurd hi (Nat.not_lt_zero i)⟩
theorem bkS_ok {T : TX} {pe q q' : Nat} {B : BK} (h : okB pe B) (e : (bkS T pe B q).2 = .inl q') : okB pe (bkS T pe B q).1 ∧ (bkS T pe B q).1.1 = B.1 + 1 ∧ B.1 < 8 := by
  unfold bkS at e ⊢
  cases hn : numS T 0 pe (.inl q) with
  | mk v s =>
    rw [hn] at e
    cases s with
    | inr f => cases e
    | inl q1 =>
      have h1 := h.1
      by_cases h8 : B.1 = 8
      · rw [show bkA T B q (v, .inl q1) = (B, .inr (3, q)) from if_pos h8] at e
        cases e
      · rw [show bkA T B q (v, .inl q1) = (bkP B v (sgZ (tkS T 45 (.inl q1)).1 (numS T 0 10000 (tkS T 45 (.inl q1)).2).1), sgnS T 59 (numS T 0 10000 (tkS T 45 (.inl q1)).2).2) from if_neg h8] at e ⊢
        obtain ⟨q2, e2⟩ := sgnS_l e
        obtain ⟨_, _, _, c⟩ := numS_l e2
        have hv := (numS_ok hn).2
        refine ⟨⟨by show B.1 + 1 ≤ 8; omega, fun i hi => ?_⟩, rfl, by omega⟩
        have hi : i < B.1 + 1 := hi
        show (if i = B.1 then v else B.2.1 i) < pe ∧ -9999 ≤ (if i = B.1 then _ else B.2.2 i) ∧ (if i = B.1 then _ else B.2.2 i) ≤ 9999
        by_cases ei : i = B.1
        · rw [if_pos ei, if_pos ei]
          refine ⟨hv, ?_⟩
          unfold sgZ
          split <;> omega
        · rw [if_neg ei, if_neg ei]
          exact h.2 i (by omega)
theorem bkL_ok {T : TX} {pe : Nat} : ∀ {c : Nat} {B : BK} {s : RS} {q' : Nat}, okB pe B → (bkL T pe c B s).2 = .inl q' → okB pe (bkL T pe c B s).1
  | 0, _, _, _, h, _ => h
  | c + 1, B, .inr f, _, h, e => by cases e
  | c + 1, B, .inl q, q', h, e => by
    unfold bkL at e ⊢
    dsimp only at e ⊢
    by_cases hq : q < T.2
    · rw [if_pos hq] at e ⊢
      cases hs : (bkS T pe B q).2 with
      | inr f =>
        rw [hs] at e
        cases c with
        | zero => cases e
        | succ c => cases e
      | inl q2 =>
        rw [hs] at e
        exact bkL_ok (bkS_ok h hs).1 e
    · rw [if_neg hq] at e ⊢
      exact h
def CBd2 (B : BK) (P : ab_P) : Prop := P.1 32 2 = iN B.1 ∧ ∀ i, i < B.1 → P.1 33 i = iN (B.2.1 i) ∧ P.1 34 i = zN (B.2.2 i)
def RBd2 (B : BK) (P : ab_P) : Prop := ∀ i, i < B.1 → P.1 (435 + 1 + i) 0 = iN (B.2.1 i) ∧ P.1 (435 + 1 + i) 1 = zN (B.2.2 i)
def sBp (b j : Nat) : Prop := sTp b j ∨ (b = 32 ∧ j = 2) ∨ b = 33 ∨ b = 34
def sBr (b j : Nat) : Prop := sTr b j ∨ (436 ≤ b ∧ b < 444)
theorem sTp_B : ∀ b j, sTp b j → sBp b j := fun _ _ h => Or.inl h
theorem sTr_B : ∀ b j, sTr b j → sBr b j := fun _ _ h => Or.inl h
def CBs (T : TX) (x : BK × RS) (P : ab_P) : Prop := CR T x.2 P ∧ ∀ q, x.2 = .inl q → CBd2 x.1 P
def RBs (T : TX) (x : BK × RS) (P : ab_P) : Prop := RR T x.2 P ∧ ∀ q, x.2 = .inl q → RBd2 x.1 P
theorem sg_c (b : Bool) (z : Nat) : (if b then (-1 : Int32) else 1) * iN z = zN (sgZ b z) := by
  unfold sgZ
  cases b
  · show (1 : Int32) * iN z = zN (z : Int)
    rw [zN_nat]
    grind
  · show (-1 : Int32) * iN z = zN (-(z : Int))
    rw [← zN_neg, zN_nat]
    grind
section BT
variable {T : TX} {B : BK} {P : ab_P} {N pe q k m : Nat} {s : RS}
theorem CBd2.fr {P' : ab_P} (h : CBd2 B P) (f : fr sTp P P') : CBd2 B P' := ⟨(f.1 32 2 (by unfold sTp; omega)).trans h.1, fun i hi => by rw [f.1 33 i (by unfold sTp; omega), f.1 34 i (by unfold sTp; omega)]; exact h.2 i hi⟩
/-- behind the person -/
theorem c_49 {b : Bool} {x3 s0 : Int32} {v : Nat} (hs0 : s0 = if b then -1 else 1) (hx : ∀ q, s = .inl q → x3 = iN v) (h : CR T s P) (ok : okT T) (hd : CBd2 B P) (h8 : B.1 < 8) (hN : 70000 ≤ N) : TT (f_294_49 32 N x3 s0 P) (fun r => CBs T (bkP B v (sgZ b (numS T 0 10000 s).1), sgnS T 59 (numS T 0 10000 s).2) r ∧ fr sBp P r) := by
  unfold f_294_49
  refine TT_b2 (c_num (lo := 0) (hb := 10000) (by decide) (by decide) (by decide) h ok hN) (fun v1 P1 hv1 => ?_)
  obtain ⟨a1, a2, a3⟩ := hv1
  dsimp only at a1 a2 a3
  refine TT_bind (c_sign (c := 59) (by decide) a1 ok hN) (fun P2 h2 => ?_)
  have d2 := (hd.fr a3).fr h2.2
  rw [d2.1, if_neg (by rw [iN_neg (by omega)]; exact id), if_pos (by rw [iN_ltl (by omega) (by decide)]; exact h8), if_pos (iN_gi h8 (by decide)), iN_nat (by omega)]
  refine TT_lt ?_
  rw [show (ab_pI P2 (32 + 1) B.1 x3).1 32 2 = iN B.1 by rw [pI_ne (by decide)]; exact d2.1, if_pos (iN_gi h8 (by decide)), iN_nat (by omega)]
  refine TT_lt (TT_lt (TT_some ⟨⟨h2.1.keep (fun b j hb => by unfold kTp at hb; rw [pI_ne (by omega), pI_ne (by omega), pI_ne (by omega)]), fun q e => ?_⟩, ((a3.tr h2.2).mono sTp_B).tr (((fr.I (Or.inr (Or.inr (Or.inl rfl)))).tr (fr.I (Or.inr (Or.inr (Or.inr rfl))))).tr (fr.I (Or.inr (Or.inl ⟨rfl, rfl⟩))))⟩))
  obtain ⟨q1, e1⟩ := sgnS_l e
  obtain ⟨q2, e2, _⟩ := numS_l e1
  have y1 := (a2 q1 e1).1
  have y2 := hx q2 e2
  refine ⟨?_, fun i hi => ?_⟩
  · rw [pI_eq, pI_ne (by decide), pI_ne (by decide), d2.1]
    exact iN_succ _
  · have hi : i < B.1 + 1 := hi
    show (ab_pI (ab_pI (ab_pI P2 (32 + 1) B.1 x3) (32 + 2) B.1 (s0 * v1)) 32 2 ((ab_pI (ab_pI P2 (32 + 1) B.1 x3) (32 + 2) B.1 (s0 * v1)).1 32 2 + 1)).1 33 i = iN (if i = B.1 then v else B.2.1 i) ∧ (ab_pI (ab_pI (ab_pI P2 (32 + 1) B.1 x3) (32 + 2) B.1 (s0 * v1)) 32 2 ((ab_pI (ab_pI P2 (32 + 1) B.1 x3) (32 + 2) B.1 (s0 * v1)).1 32 2 + 1)).1 34 i = zN (if i = B.1 then sgZ b (numS T 0 10000 s).1 else B.2.2 i)
    by_cases ei : i = B.1
    · rw [if_pos ei, if_pos ei, ei]
      constructor
      · rw [pI_ne (by decide), pI_ne (by decide), pI_eq]; exact y2
      · rw [pI_ne (by decide), pI_eq, y1, hs0]
        exact sg_c b _
    · rw [if_neg ei, if_neg ei]
      constructor
      · rw [pI_ne (by decide), pI_ne (by decide), pI_nj ei]; exact (d2.2 i (by omega)).1
      · rw [pI_ne (by decide), pI_nj ei, pI_ne (by decide)]; exact (d2.2 i (by omega)).2
theorem c_27n {f : Nat × Nat} {x : Int32} (g : CR T (.inr f) P) : f_294_27 32 N x P = some P := by
  unfold f_294_27
  rw [c_isF g, Option.bind_some, if_neg (show ¬ bI (isF (.inr f)) = 0 from (by decide : ¬ bI true = 0))]
theorem c_lineB (h : CR T (.inl q) P) (ok : okT T) (hd : CBd2 B P) (hm : B.1 ≤ 8) (hpe8 : pe ≤ 8) (hN : 70000 ≤ N) : TT (f_294 32 N (iN pe) P) (fun r => CBs T (bkS T pe B q) r ∧ fr sBp P r) := by
  unfold f_294
  refine TT_b2 (c_num (lo := 0) (hb := pe) (by decide) (i_pe _ (by omega)) (by omega) h ok hN) (fun v1 P1 hv1 => ?_)
  obtain ⟨a1, a2, a3⟩ := hv1
  dsimp only at a1 a2 a3
  have d1 := hd.fr a3
  have m8 : (iN B.1 < (8 : Int32)) = (B.1 < 8) := iN_ltl (by omega) (by decide)
  rw [d1.1]
  unfold bkS
  cases hn : numS T 0 pe (.inl q) with
  | mk v s =>
    rw [hn] at a1 a2
    cases s with
    | inr f =>
      have e1 : bkA T B q (v, .inr f) = (B, .inr f) := rfl
      rw [e1, c_27n (f := f) a1, c_blamed (f := f) a1, Option.bind_some, c_27n (f := f) a1]
      have fin : TT (some P1) (fun r => CBs T (B, .inr f) r ∧ fr sBp P r) := TT_some ⟨⟨a1, fun q' e => by cases e⟩, a3.mono sTp_B⟩
      split <;> exact fin
    | inl q1 =>
      obtain ⟨c1, c2⟩ := a2 q1 rfl
      dsimp only at c1
      have c3 := c2 q rfl
      by_cases h8 : B.1 = 8
      · rw [show bkA T B q (v, .inl q1) = (B, .inr (3, q)) from if_pos h8, if_neg (by rw [m8]; omega), c3]
        refine TT_bind (c_blame a1 (k := 3) (p := q) (by decide) (by decide)) (fun P2 h2 => ?_)
        rw [c_27n h2.1]
        exact TT_some ⟨⟨h2.1, fun q' e => by cases e⟩, (a3.tr h2.2).mono sTp_B⟩
      · rw [show bkA T B q (v, .inl q1) = (bkP B v (sgZ (tkS T 45 (.inl q1)).1 (numS T 0 10000 (tkS T 45 (.inl q1)).2).1), sgnS T 59 (numS T 0 10000 (tkS T 45 (.inl q1)).2).2) from if_neg h8, if_pos (by rw [m8]; omega)]
        unfold f_294_27
        rw [c_isF (s := .inl q1) a1, Option.bind_some, if_pos (by rfl)]
        unfold f_294_35
        refine TT_b2 (c_takes (c := 45) (by decide) a1 ok hN) (fun v2 P2 hv2 => ?_)
        obtain ⟨b1, b2, b3⟩ := hv2
        dsimp only at b1 b2 b3
        have d2 := d1.fr b3
        cases hb : (tkS T 45 (.inl q1)).1 with
        | false =>
          rw [hb] at b1
          rw [b1, if_pos (show bI false = 0 from rfl)]
          exact (c_49 (b := false) (v := v) rfl (fun _ _ => c1) b2 ok d2 (by omega) hN).mono (fun r hr => ⟨hr.1, ((a3.tr b3).mono sTp_B).tr hr.2⟩)
        | true =>
          rw [hb] at b1
          rw [b1, if_neg (show ¬ bI true = 0 by decide)]
          exact (c_49 (b := true) (v := v) rfl (fun _ _ => c1) b2 ok d2 (by omega) hN).mono (fun r hr => ⟨hr.1, ((a3.tr b3).mono sTp_B).tr hr.2⟩)
theorem c_bookL (ok : okT T) (h8 : pe ≤ 8) (hN : 70000 ≤ N) : ∀ (c i : Nat) (B : BK) (s : RS) (P : ab_P) (n : Nat), i + c = 10 → c < n → (∀ q, s = .inl q → B.1 = i ∧ i ≤ 8) → CBs T (B, s) P → (∀ q, s = .inl q → okB pe B) → TT (f_224_7 32 N n (iN pe) (iN i) P) (fun r => CBs T (bkL T pe c B s) r ∧ fr sBp P r) := by
  intro c
  induction c with
  | zero =>
    intro i B s P n hi hn hDi h okd
    obtain ⟨n, rfl⟩ : ∃ z, n = z + 1 := ⟨n - 1, by omega⟩
    unfold f_224_7
    rw [if_pos (by rw [iN_lll (by omega) (by decide)]; exact (show 8 < i by omega))]
    exact TT_some ⟨h, fr.rf⟩
  | succ c ih =>
    intro i B s P n hi hn hDi h okd
    obtain ⟨n, rfl⟩ : ∃ z, n = z + 1 := ⟨n - 1, by omega⟩
    unfold f_224_7
    cases s with
    | inr f =>
      have e9 : bkL T pe (c + 1) B (.inr f) = (B, .inr f) := rfl
      rw [e9, c_more0 h.1, b2_some, if_pos rfl]
      split <;> exact TT_some ⟨h, fr.rf⟩
    | inl q =>
      obtain ⟨hDi1, hi30⟩ := hDi q rfl
      have okd1 := okd q rfl
      have f1 : fr sBp P (ab_pI P 1 3 (iN q)) := fr.I (Or.inl (by unfold sTp; omega))
      rw [if_neg (by rw [iN_lll (by omega) (by decide)]; exact (show ¬ 8 < i by omega)), c_more1 h.1 ok hN, b2_some]
      have e9 : bkL T pe (c + 1) B (.inl q) = if q < T.2 then bkL T pe c (bkS T pe B q).1 (bkS T pe B q).2 else (B, .inl q) := rfl
      rw [e9]
      have g := CR.at' h.1
      have gd : CBd2 B (ab_pI P 1 3 (iN q)) := (h.2 q rfl).fr (fr.I (by unfold sTp; omega))
      by_cases hq : q < T.2
      · rw [if_neg (by rw [bI_0]; simp [hq]), if_pos hq, iN_succ]
        refine TT_bind (c_lineB g ok gd okd1.1 h8 hN) (fun P2 h2 => ?_)
        refine (ih (i + 1) (bkS T pe B q).1 (bkS T pe B q).2 P2 n (by omega) (by omega) (fun q2 e => ?_) h2.1 (fun q2 e => (bkS_ok okd1 e).1)).mono (fun r hr => ⟨hr.1, (f1.tr h2.2).tr hr.2⟩)
        have := bkS_ok okd1 e
        omega
      · rw [if_pos (by rw [bI_0]; simp [hq]), if_neg hq]
        exact TT_some ⟨⟨g, fun _ _ => gd⟩, f1⟩
theorem c_bookR (h : CR T (.inl (sk T 0)) P) (ok : okT T) (h8 : pe ≤ 8) (hN : 70000 ≤ N) : TT (f_224 32 N (iN pe) P) (fun r => CBs T (bookS T pe) r ∧ fr sBp P r) := by
  unfold f_224
  refine TT_lt ?_
  refine (c_bookL (pe := pe) ok h8 hN 10 0 bk0 (.inl (sk T 0)) _ N (by decide) (by omega) (fun q e => ⟨rfl, by decide⟩) ⟨h.keep (fun b j hb => ?_), fun q e => ⟨pI_eq, fun i hi => absurd hi (Nat.not_lt_zero i)⟩⟩ (fun q e => bk0_ok)).mono (fun r hr => ⟨hr.1, (fr.I (by unfold sBp; omega)).tr hr.2⟩)
  unfold kTp at hb
  rw [pI_ne (by omega)]
/-! the reference -/
theorem r_95 {Q : Int32 × ab_P → Prop} {H : Int32 → ab_P → Option (Int32 × ab_P)} {v : Nat} (h : RR T (.inl q) P) (ok : okT T) (hd : RBd2 B P) (h8 : B.1 < 8) (hN : 70000 ≤ N) (hQ : ∀ r x2, RR T (sgnS T 59 (numS T 0 10000 (tkS T 45 (.inl q)).2).2) r → (∀ q', sgnS T 59 (numS T 0 10000 (tkS T 45 (.inl q)).2).2 = .inl q' → RBd2 (bkP B v (sgZ (tkS T 45 (.inl q)).1 (numS T 0 10000 (tkS T 45 (.inl q)).2).1)) r ∧ x2 = iN (B.1 + 1) ∧ r.1 72 4 = iN q') → fr sBr P r → TT (H x2 r) Q) : TT (f_13_95 N H (iN B.1) (iN v) P) Q := by
  unfold f_13_95
  refine TT_b2 (r_takes (c := 45) (by decide) h ok hN) (fun v2 P2 hv2 => ?_)
  obtain ⟨b1, b2, b3⟩ := hv2
  dsimp only at b1 b2 b3
  refine TT_b2 (r_num (lo := 0) (hb := 10000) (by decide) (by decide) (by decide) b2 ok hN) (fun v3 P3 hv3 => ?_)
  obtain ⟨c1, c2, c3⟩ := hv3
  dsimp only at c1 c2 c3
  refine TT_bind (r_sign (c := 59) (by decide) c1 ok hN) (fun P4 h4 => ?_)
  have f4 : fr sTr P P4 := (b3.tr c3).tr h4.2
  cases hs : sgnS T 59 (numS T 0 10000 (tkS T 45 (.inl q)).2).2 with
  | inr f =>
    have h41 := h4.1
    rw [hs] at h41 hQ
    rw [if_neg h41.no]
    exact TT_bind (r_blankF h41 ok hN) (fun P5 h5 => hQ P5 _ h5.1 (fun q' e => by cases e) ((f4.tr h5.2).mono sTr_B))
  | inl q2 =>
    have h41 := h4.1
    rw [hs] at h41 hQ
    obtain ⟨q3, e3⟩ := sgnS_l hs
    have y := c2 q3 e3
    rw [if_pos h41.ok, if_pos (iN_gi h8 (by decide))]
    refine TT_lt ?_
    rw [if_pos (iN_gi h8 (by decide)), iN_nat (by omega), iN_succ]
    have main : ∀ x : Int32, x = zN (sgZ (tkS T 45 (.inl q)).1 (numS T 0 10000 (tkS T 45 (.inl q)).2).1) → TT (ab_lt (ab_pI (ab_pI P4 (435 + 1 + B.1) 0 (iN v)) (435 + 1 + B.1) 1 x) fun P22 => Option.bind (f_116 N P22) fun P23 => H (iN (B.1 + 1)) P23) Q := fun x hx => by
      refine TT_lt ?_
      have g5 : RR T (.inl q2) (ab_pI (ab_pI P4 (435 + 1 + B.1) 0 (iN v)) (435 + 1 + B.1) 1 x) := h41.keep (fun b j hb => by unfold kTr at hb; rw [pI_ne (by omega), pI_ne (by omega)])
      rw [r_blank g5 ok hN, Option.bind_some]
      refine hQ _ _ g5.at' (fun q' e => ⟨fun i hi => ?_, rfl, ?_⟩) (((f4.mono sTr_B).tr ((fr.I (by unfold sBr; omega)).tr (fr.I (by unfold sBr; omega)))).tr (fr.I (Or.inl (by unfold sTr; omega))))
      · have hi : i < B.1 + 1 := hi
        have w72 : ∀ y, (ab_pI (ab_pI (ab_pI P4 (435 + 1 + B.1) 0 (iN v)) (435 + 1 + B.1) 1 x) 72 4 (iN q2)).1 (435 + 1 + i) y = (ab_pI (ab_pI P4 (435 + 1 + B.1) 0 (iN v)) (435 + 1 + B.1) 1 x).1 (435 + 1 + i) y := fun y => pI_ne (by omega)
        rw [w72, w72]
        show _ = iN (if i = B.1 then v else B.2.1 i) ∧ _ = zN (if i = B.1 then _ else B.2.2 i)
        by_cases ei : i = B.1
        · rw [if_pos ei, if_pos ei, ei]
          constructor
          · rw [pI_nj (by decide), pI_eq]
          · rw [pI_eq]; exact hx
        · rw [if_neg ei, if_neg ei, pI_ne (by omega), pI_ne (by omega), pI_ne (by omega), pI_ne (by omega), f4.1 _ _ (by unfold sTr; omega), f4.1 _ _ (by unfold sTr; omega)]
          exact hd i (by omega)
      · cases e
        exact pI_eq
    rw [b1]
    cases hb : (tkS T 45 (.inl q)).1 with
    | false =>
      rw [if_pos (show bI false = 0 from rfl)]
      rw [hb] at main
      exact main v3 (by rw [y]; rfl)
    | true =>
      rw [if_neg (show ¬ bI true = 0 by decide)]
      rw [hb] at main
      exact main (-v3) (by rw [y, ← zN_nat, zN_neg]; rfl)
theorem r_95n {Q : Int32 × ab_P → Prop} {H : Int32 → ab_P → Option (Int32 × ab_P)} {f : Nat × Nat} {x2 x4 : Int32} (h : RR T (.inr f) P) (ok : okT T) (hN : 70000 ≤ N) (hQ : ∀ r, RR T (.inr f) r → fr sTr P r → TT (H x2 r) Q) : TT (f_13_95 N H x2 x4 P) Q := by
  unfold f_13_95
  refine TT_b2 (r_takes (c := 45) (by decide) h ok hN) (fun v2 P2 hv2 => ?_)
  obtain ⟨b1, b2, b3⟩ := hv2
  dsimp only at b1 b2 b3
  rw [show tkS T 45 (.inr f) = (false, .inr f) from rfl] at b2
  refine TT_b2 (r_num (lo := 0) (hb := 10000) (by decide) (by decide) (by decide) b2 ok hN) (fun v3 P3 hv3 => ?_)
  obtain ⟨c1, c2, c3⟩ := hv3
  dsimp only at c1 c2 c3
  rw [numS_r] at c1
  refine TT_bind (r_sign (c := 59) (by decide) c1 ok hN) (fun P4 h4 => ?_)
  have h41 : RR T (.inr f) P4 := h4.1
  rw [if_neg h41.no]
  exact TT_bind (r_blankF h41 ok hN) (fun P5 h5 => hQ P5 h5.1 (((b3.tr c3).tr h4.2).tr h5.2))
theorem r_bookL {Q : Int32 × ab_P → Prop} (ok : okT T) (h8 : pe ≤ 8) (hN : 70000 ≤ N) : ∀ (c i : Nat) (B : BK) (s : RS) (P : ab_P) (n : Nat) (x : Int32), i + c = 10 → c < n → (∀ q, s = .inl q → B.1 = i ∧ i ≤ 8 ∧ P.1 72 4 = iN q ∧ x = iN i) → RBs T (B, s) P → P.1 76 0 = iN pe → (∀ q, s = .inl q → okB pe B) → (∀ r x2, RBs T (bkL T pe c B s) r → (∀ q, (bkL T pe c B s).2 = .inl q → x2 = iN (bkL T pe c B s).1.1) → fr sBr P r → TT (f_13_167 N x2 r) Q) → TT (f_13_47 N n x P) Q := by
  intro c
  induction c with
  | zero =>
    intro i B s P n x hi hn hDi h hpe okd hQ
    obtain ⟨n, rfl⟩ : ∃ z, n = z + 1 := ⟨n - 1, by omega⟩
    unfold f_13_47
    cases s with
    | inr f =>
      rw [if_neg (RR.no (f := f) h.1)]
      exact hQ P _ h (fun q e => by cases e) fr.rf
    | inl q =>
      have := hDi q rfl
      omega
  | succ c ih =>
    intro i B s P n x hi hn hDi h hpe okd hQ
    obtain ⟨n, rfl⟩ : ∃ z, n = z + 1 := ⟨n - 1, by omega⟩
    unfold f_13_47
    cases s with
    | inr f =>
      rw [if_neg (RR.no (f := f) h.1)]
      exact hQ P _ h (fun q e => by cases e) fr.rf
    | inl q =>
      obtain ⟨hDi1, hi30, hp, hx⟩ := hDi q rfl
      have okd1 := okd q rfl
      have hq := (RR.qq (q := q) h.1).1
      have h6 := ok.1
      rw [if_pos (RR.ok (q := q) h.1), hp, h.1.1.1, hx]
      have e9 : bkL T pe (c + 1) B (.inl q) = if q < T.2 then bkL T pe c (bkS T pe B q).1 (bkS T pe B q).2 else (B, .inl q) := rfl
      rw [e9] at hQ
      by_cases hl : q < T.2
      · rw [if_pos (by rw [iN_lt (by omega) (by omega)]; exact hl)]
        rw [if_pos hl] at hQ
        refine TT_b2 (r_pers h.1 ok hpe h8 hN) (fun v1 P2 hv1 => ?_)
        obtain ⟨a1, a2, a3⟩ := hv1
        dsimp only at a1 a2 a3
        have hpe2 : P2.1 76 0 = iN pe := (a3.1 76 0 (by unfold sTr; omega)).trans hpe
        have hd2 : RBd2 B P2 := fun i hi => by
          have := okd1.1
          rw [a3.1 _ _ (by unfold sTr; omega), a3.1 _ _ (by unfold sTr; omega)]
          exact h.2 q rfl i hi
        have hfail : ∀ (f : Nat × Nat) (P3 : ab_P), bkS T pe B q = (B, .inr f) → RR T (.inr f) P3 → P3.1 76 0 = iN pe → fr sBr P P3 → TT (f_13_95 N (fun y0 y1 => f_13_47 N n y0 y1) (iN i) v1 P3) Q := fun f P3 hS h3 hp3 f3 => by
          refine r_95n h3 ok hN (fun r hr hf => ?_)
          refine ih (i + 1) (bkS T pe B q).1 (bkS T pe B q).2 r n _ (by omega) (by omega) (fun q3 e => by rw [hS] at e; cases e) ⟨by rw [hS]; exact hr, fun q3 e => by rw [hS] at e; cases e⟩ ((hf.1 76 0 (by unfold sTr; omega)).trans hp3) (fun q3 e => by rw [hS] at e; cases e) (fun r2 x2 hr2 hx2 hf2 => hQ r2 x2 hr2 hx2 ((f3.tr (hf.mono sTr_B)).tr hf2))
        cases hn2 : numS T 0 pe (.inl q) with
        | mk v s2 =>
          rw [hn2] at a1 a2
          cases s2 with
          | inr f =>
            rw [if_neg (RR.no (f := f) a1)]
            exact hfail f P2 (by unfold bkS; rw [hn2]; rfl) a1 hpe2 (a3.mono sTr_B)
          | inl q1 =>
            have c1 := a2 q1 rfl
            dsimp only at c1
            rw [if_pos (RR.ok (q := q1) a1)]
            have i8 : (iN i = (8 : Int32)) = (i = 8) := iN_eql (by omega) (by decide)
            simp only [i8]
            by_cases hb8 : i = 8
            · rw [if_pos hb8]
              refine TT_bind (r_wrong a1 (k := 3) (p := q) (by decide) (by decide)) (fun P3 h3 => ?_)
              refine hfail (3, q) P3 ?_ h3.1 ((h3.2.1 76 0 (by unfold sTr; omega)).trans hpe2) ((a3.tr h3.2).mono sTr_B)
              unfold bkS
              rw [hn2]
              exact if_pos (by omega)
            · rw [if_neg hb8, c1, ← hDi1]
              have hS : bkS T pe B q = (bkP B v (sgZ (tkS T 45 (.inl q1)).1 (numS T 0 10000 (tkS T 45 (.inl q1)).2).1), sgnS T 59 (numS T 0 10000 (tkS T 45 (.inl q1)).2).2) := by
                unfold bkS
                rw [hn2]
                exact if_neg (by omega)
              refine r_95 (B := B) (v := v) a1 ok hd2 (by omega) hN (fun r x2 hr hx2 hf => ?_)
              refine ih (i + 1) (bkS T pe B q).1 (bkS T pe B q).2 r n _ (by omega) (by omega) (fun q3 e => ?_) ⟨by rw [hS]; exact hr, fun q3 e => ?_⟩ ((hf.1 76 0 (by unfold sBr sTr; omega)).trans hpe2) (fun q3 e => (bkS_ok okd1 e).1) (fun r2 x3 hr2 hx3 hf2 => hQ r2 x3 hr2 hx3 (((a3.mono sTr_B).tr hf).tr hf2))
              · have hok := bkS_ok okd1 e
                rw [hS] at e
                obtain ⟨y1, y2, y3⟩ := hx2 q3 e
                exact ⟨by omega, by omega, y3, by rw [y2, hDi1]⟩
              · rw [hS] at e ⊢
                exact (hx2 q3 e).1
      · rw [if_neg (by rw [iN_lt (by omega) (by omega)]; exact hl)]
        rw [if_neg hl] at hQ
        exact hQ P _ h (fun q e => by rw [hDi1]) fr.rf
end BT
