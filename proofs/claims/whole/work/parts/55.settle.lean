/-! who settles with whom -/
section ST
variable {W : WO} {P : ab_P} {N n0 k : Nat}
/-- who is left before each group -/
def lf (W : WO) : Nat → Nat
  | 0 => uS W
  | j + 1 => lf W j ^^^ gn (wS W) (lf W j)
def gU (W : WO) : Nat := GT (wS W) (uS W)
theorem gU_8 (ok : OK W) : gU W ≤ 8 := GT_8 (uS_lt ok)
theorem lf_p (ok : OK W) : ∀ j, j ≤ gU W → lf W j < 256 ∧ lf W j &&& uS W = lf W j ∧ wS W (lf W j) = 0 ∧ GT (wS W) (lf W j) + j = gU W
  | 0, _ => ⟨uS_lt ok, Nat.and_self _, uS_even ok, rfl⟩
  | j + 1, h => by
    obtain ⟨h1, h2, h3, h4⟩ := lf_p ok j (by omega)
    have h0 : lf W j ≠ 0 := fun e => by
      rw [e, GT_z (Or.inl rfl)] at h4
      omega
    obtain ⟨g1, g2, g3, _⟩ := gn_p h0 h1 h3
    unfold gq at g1
    rw [Bool.and_eq_true, decide_eq_true_eq] at g1
    have gp := grp_pos g1.1
    refine ⟨?_, sb_rest h2 (grp_sb g1.1).1, wt_rest (wt := wS W) (fun t s h => wS_x (t := t) (s := s) h) h3 g1.1, ?_⟩
    · show lf W j ^^^ _ < 256
      omega
    · show GT (wS W) (lf W j ^^^ _) + (j + 1) = _
      have := g1.2
      omega
theorem lf_0 (ok : OK W) {j : Nat} (h : j ≤ gU W) : lf W j = 0 ↔ j = gU W := by
  obtain ⟨h1, h2, h3, h4⟩ := lf_p ok j h
  constructor
  · intro e
    rw [e, GT_z (Or.inl rfl)] at h4
    omega
  · intro e
    by_cases h0 : lf W j = 0
    · exact h0
    · have := GT_pos h0 h1 h3
      omega
def sGroup (W : WO) (a : Int32) : Int32 := if a < 0 then -1 else if a < iN (gU W) then iN (gn (wS W) (lf W a.toNatClampNeg)) else -1
/-- the groups that the component lists -/
def CG (W : WO) (P : ab_P) : Prop := P.1 54 6 = iN (uS W) ∧ P.1 54 7 = iN (gU W) ∧ ∀ j, j < gU W → P.1 57 j = iN (gn (wS W) (lf W j))
theorem c_next {s : Nat} (hT : TC W 256 P) (h0 : s ≠ 0) (hs : s < 256) (hu : s &&& uS W = s) (hw : wS W s = 0) (hN : 70000 ≤ N) : f_305 N P (iN s) = some (iN (gn (wS W) s)) := by
  obtain ⟨g1, g2, g3, g4⟩ := gn_p h0 hs hw
  obtain ⟨t1, t2, t3⟩ := hT
  unfold f_305
  have hig : ∀ a, a ≤ s → f_304 P (iN a) (iN s) = some (bI (grp (wS W) a s)) := fun a ha => c_isGroup hs (by omega) (fun hsb => (t3 _ (by omega) (sb_tr hsb hu)).1)
  have gi3 := iN_gi (k := s) (n := 256) hs (by omega)
  have hGs := (t3 s hs hu).2
  have hG8 := GT_8 (W := W) hs
  refine up (fun n j (_ : Unit) => f_305_2 P n (iN s) (iN (1 + j))) (gn (wS W) s - 1) (fun _ => ()) _ (fun n j hj => ?_) (fun n => ?_) N (by omega)
  · have hq := g4 (1 + j) (by omega) (by omega)
    simp only [f_305_2, iN_lt (show 1 + j < 2147483648 by omega) (show s < 2147483648 by omega), show 1 + j < s by omega, hig (1 + j) (by omega), bI_0, Option.bind_some, iN_succ, iN_xor, if_pos gi3, iN_nat (show s < 2147483648 by omega), hGs, ↓reduceIte]
    cases hg : grp (wS W) (1 + j) s with
    | false => rw [if_pos rfl]; rfl
    | true =>
      have hp := grp_pos hg
      have hx8 := GT_8 (W := W) (n0 := s ^^^ (1 + j)) (by omega)
      rw [if_neg (by decide), if_pos (iN_gi (show s ^^^ (1 + j) < 256 by omega) (by omega)), iN_nat (by omega), (t3 (s ^^^ (1 + j)) (by omega) (sb_rest hu (grp_sb hg).1)).2, iN_lit 1, iN_add]
      unfold gq at hq
      rw [hg, Bool.true_and, decide_eq_false_iff_not] at hq
      rw [if_neg (by rw [iN_eq (by omega) (by omega)]; exact hq)]
      rfl
  · have he : 1 + (gn (wS W) s - 1) = gn (wS W) s := by omega
    rw [he]
    by_cases hl : gn (wS W) s < s
    · have hq := g1
      unfold gq at hq
      rw [Bool.and_eq_true, decide_eq_true_eq] at hq
      have hp := grp_pos hq.1
      have hx8 := GT_8 (W := W) (n0 := s ^^^ gn (wS W) s) (by omega)
      simp only [f_305_2, iN_lt (show gn (wS W) s < 2147483648 by omega) (show s < 2147483648 by omega), hl, hig (gn (wS W) s) (by omega), hq.1, bI_0, Option.bind_some, iN_xor, if_pos gi3, iN_nat (show s < 2147483648 by omega), iN_nat (show s ^^^ gn (wS W) s < 2147483648 by omega), hGs, (t3 (s ^^^ gn (wS W) s) (by omega) (sb_rest hu (grp_sb hq.1).1)).2, ↓reduceIte, iN_gT (show s ^^^ gn (wS W) s < 256 by omega) (show 256 ≤ 2147483648 by decide)]
      rw [if_neg (by decide), iN_lit 1, iN_add, if_pos (by rw [hq.2])]
    · have hl2 : gn (wS W) s = s := by omega
      simp only [hl2, f_305_2, iN_lt (show s < 2147483648 by omega) (show s < 2147483648 by omega), Nat.lt_irrefl, ↓reduceIte]
theorem s547 : ∀ b j : Nat, (b = 54 ∨ b = 55 ∨ b = 56 ∨ b = 57) → scC b j := fun b j h => by unfold scC; omega
theorem c_list (ok : OK W) (hT : TC W 256 P) (hN : 70000 ≤ N) : TT (f_250 N P) (fun q => CG W q ∧ fr scC P q) := by
  have h8 := gU_8 ok
  unfold f_250
  refine TT_lt ?_
  have hx : (ab_pI P 54 7 0).1 54 6 = iN (lf W 0) := by rw [pI_nj (by decide)]; exact hT.1
  rw [hx]
  refine upT (fun n j (q : ab_P) => f_250_12 N n (iN (lf W j)) (iN j) q) (gU W) (fun j q => q.1 54 7 = iN j ∧ (∀ i, i < j → q.1 57 i = iN (gn (wS W) (lf W i))) ∧ (∀ b j, ¬ (b = 57 ∨ (b = 54 ∧ j = 7)) → q.1 b j = P.1 b j) ∧ fr scC P q) _ (fun n j P1 hj hi => ?_) (fun n P1 hi => ?_) N (ab_pI P 54 7 0) ⟨pI_eq, fun i hi => absurd hi (Nat.not_lt_zero _), fun b j hb => ?_, fr.I (s547 54 7 (Or.inl rfl))⟩ (by omega)
  · obtain ⟨e1, e2, e3, e4⟩ := hi
    obtain ⟨l1, l2, l3, l4⟩ := lf_p ok j (by omega)
    have l0 : lf W j ≠ 0 := fun e => by have := (lf_0 ok (by omega : j ≤ gU W)).mp e; omega
    have hT1 : TC W 256 P1 := by
      refine ⟨by rw [e3 54 6 (by omega)]; exact hT.1, fun p hp => by rw [e3 55 _ (by omega)]; exact hT.2.1 p hp, fun s h1 h2 => ?_⟩
      rw [e3 55 _ (by omega), e3 56 _ (by omega)]
      exact hT.2.2 s h1 h2
    show ∃ s', f_250_12 N (n + 1) (iN (lf W j)) (iN j) P1 = _ ∧ _
    simp only [f_250_12, iN_ltl (show j < 2147483648 by omega) (show 8 < 2147483648 by decide), show j < 8 by omega, iN_eql (show lf W j < 2147483648 by omega) (show 0 < 2147483648 by decide), l0, c_next hT1 l0 l1 l2 l3 hN, Option.bind_some, iN_gT (show j < 8 by omega) (show 8 ≤ 2147483648 by decide), iN_nat (show j < 2147483648 by omega), iN_succ, iN_xor, ab_lt, ↓reduceIte]
    refine ⟨_, rfl, ?_, fun i hi => ?_, fun b i hb => ?_, (e4.tr (fr.I (s547 57 j (by omega)))).tr (fr.I (s547 54 7 (Or.inl rfl)))⟩
    · rw [pI_eq]
      show ab_upI P1.1 57 _ _ 54 7 + 1 = _
      rw [uI_ne (by decide), e1, iN_succ]
    · rw [pI_ne (by decide), pI_at]
      by_cases h : i = j
      · rw [if_pos ⟨rfl, h⟩, h]
      · rw [if_neg (fun e => h e.2)]; exact e2 i (by omega)
    · rw [pI_at, if_neg (by omega), pI_ne (by omega)]
      exact e3 b i hb
  · obtain ⟨e1, e2, e3, e4⟩ := hi
    have l0 : lf W (gU W) = 0 := (lf_0 ok (Nat.le_refl _)).mpr rfl
    have fin : TT (some P1) (fun q => CG W q ∧ fr scC P q) := TT_some ⟨⟨by rw [e3 54 6 (by omega)]; exact hT.1, e1, e2⟩, e4⟩
    rw [l0]
    unfold f_250_12
    split
    · rw [if_pos (show iN 0 = 0 from rfl)]; exact fin
    · exact fin
  · rw [pI_at, if_neg (by omega)]
theorem c_settle (h : CW W P) (ok : OK W) (hN : 70000 ≤ N) : TT (f_159 N P) (fun q => CG W q ∧ fr scC P q) := by
  have h8 := ok.1.1
  unfold f_159
  refine TT_lt (TT_lt (TT_lt ?_))
  refine upT (fun n p (q : ab_P) => f_159_21 N n (iN p) q) W.pe (fun p q => q.1 54 6 = iN (uN (wrP W.L) p) ∧ (∀ i, i < p → q.1 55 (2 ^ i) = wrP W.L i) ∧ q.1 55 0 = 0 ∧ q.1 56 0 = 0 ∧ fr scC P q) _ (fun n p P1 hp hi => ?_) (fun n P1 hi => ?_) N _ ⟨?_, fun i hi => absurd hi (Nat.not_lt_zero _), ?_, ?_, ((fr.I (s547 54 6 (by omega))).tr (fr.I (s547 55 0 (by omega)))).tr (fr.I (s547 56 0 (by omega)))⟩ (by omega)
  · obtain ⟨e1, e2, e3, e4, e5⟩ := hi
    have g := h.fr e5
    have hp2 : 2 ^ p < 256 := by
      have : 2 ^ p < 2 ^ 8 := Nat.pow_lt_pow_right (by decide) (by omega)
      omega
    have hpp := Nat.two_pow_pos p
    show ∃ s', f_159_21 N (n + 1) (iN p) P1 = _ ∧ _
    simp only [f_159_21, g.pe, iN_lt (show p < 2147483648 by omega) (show W.pe < 2147483648 by omega), hp, iN_ltl (show p < 2147483648 by omega) (show 8 < 2147483648 by decide), show p < 8 by omega, c_worth0 g.c hN, Option.bind_some, iN_one p (by omega), iN_gT hp2 (show 256 ≤ 2147483648 by decide), iN_nat (show 2 ^ p < 2147483648 by omega), iN_succ, ab_lt, ↓reduceIte]
    have h6 : (ab_pI P1 55 (2 ^ p) (sWorth W.L (iN p) false)).1 54 6 = iN (uN (wrP W.L) p) := by rw [pI_ne (by decide)]; exact e1
    have fin : ∀ v, v = iN (uN (wrP W.L) (p + 1)) → (ab_pI (ab_pI P1 55 (2 ^ p) (sWorth W.L (iN p) false)) 54 6 v).1 54 6 = iN (uN (wrP W.L) (p + 1)) ∧ (∀ i, i < p + 1 → (ab_pI (ab_pI P1 55 (2 ^ p) (sWorth W.L (iN p) false)) 54 6 v).1 55 (2 ^ i) = wrP W.L i) ∧ (ab_pI (ab_pI P1 55 (2 ^ p) (sWorth W.L (iN p) false)) 54 6 v).1 55 0 = 0 ∧ (ab_pI (ab_pI P1 55 (2 ^ p) (sWorth W.L (iN p) false)) 54 6 v).1 56 0 = 0 ∧ fr scC P (ab_pI (ab_pI P1 55 (2 ^ p) (sWorth W.L (iN p) false)) 54 6 v) := fun v hv => by
      refine ⟨by rw [pI_eq]; exact hv, fun i hi => ?_, ?_, ?_, (e5.tr (fr.I (s547 55 _ (by omega)))).tr (fr.I (s547 54 6 (by omega)))⟩
      · rw [pI_ne (by decide), pI_at]
        by_cases hip : i = p
        · rw [if_pos ⟨rfl, by rw [hip]⟩, hip]; rfl
        · have : ¬ 2 ^ i = 2 ^ p := fun e => hip (by
            have := congrArg (fun x => x.testBit i) e
            simp only [Nat.testBit_two_pow, decide_true] at this
            exact (of_decide_eq_true this.symm).symm)
          rw [if_neg (fun e => this e.2)]
          exact e2 i (by omega)
      · rw [pI_ne (by decide), pI_nj (by omega)]; exact e3
      · rw [pI_ne (by decide), pI_ne (by decide)]; exact e4
    have h6' : ab_upI P1.1 55 (2 ^ p) (sWorth W.L (iN p) false) 54 6 = iN (uN (wrP W.L) p) := h6
    rw [h6']
    by_cases h0 : sWorth W.L (iN p) false = 0
    · rw [if_pos h0]
      refine ⟨_, rfl, fin _ ?_⟩
      rw [show (0 : Int32) = iN 0 from rfl, iN_or]
      show _ = iN (uN (wrP W.L) p ||| if wrP W.L p = 0 then 0 else 2 ^ p)
      rw [if_pos (by exact h0)]
    · rw [if_neg h0]
      refine ⟨_, rfl, fin _ ?_⟩
      rw [iN_or]
      show _ = iN (uN (wrP W.L) p ||| if wrP W.L p = 0 then 0 else 2 ^ p)
      rw [if_neg (by exact h0)]
  · obtain ⟨e1, e2, e3, e4, e5⟩ := hi
    have g := h.fr e5
    simp only [f_159_21, g.pe, iN_lt (show W.pe < 2147483648 by omega) (show W.pe < 2147483648 by omega), Nat.lt_irrefl, ↓reduceIte]
    refine upT (fun n j (q : ab_P) => f_159_85 N n (iN (1 + j)) q) 255 (fun j q => TC W (1 + j) q ∧ q.1 55 0 = 0 ∧ fr scC P q) _ (fun n j P2 hj hi => ?_) (fun n P2 hi => ?_) N P1 ⟨⟨e1, e2, fun s hs hu => ?_⟩, e3, e5⟩ (by omega)
    · obtain ⟨i1, i2, i3⟩ := hi
      have hc : (iN (1 + j) &&& (P2.1 54 6 ^^^ (-1 : Int32)) = 0) = ((1 + j) &&& uS W = 1 + j) := by
        rw [i1.1]
        exact iN_sb (by omega)
      show ∃ s', f_159_85 N (n + 1) (iN (1 + j)) P2 = _ ∧ _
      simp only [f_159_85, iN_ltl (show 1 + j < 2147483648 by omega) (show 256 < 2147483648 by decide), show 1 + j < 256 by omega, hc, iN_succ, ↓reduceIte]
      by_cases hs : (1 + j) &&& uS W = 1 + j
      · rw [if_pos hs]
        obtain ⟨P3, k1, k2, k3, k4⟩ := c_weighSet (N := N) ok (by omega) (by omega) hs i1 i2 hN
        rw [k1]
        exact ⟨P3, rfl, k2, k3, i3.tr k4⟩
      · rw [if_neg hs]
        refine ⟨P2, rfl, ⟨i1.1, i1.2.1, fun s h1 h2 => i1.2.2 s ?_ h2⟩, i2, i3⟩
        by_cases he : s = 1 + j
        · rw [he] at h2; exact absurd h2 hs
        · omega
    · obtain ⟨i1, i2, i3⟩ := hi
      simp only [f_159_85, iN_ltl (show 1 + 255 < 2147483648 by omega) (show 256 < 2147483648 by decide), show ¬ 1 + 255 < 256 by omega, ↓reduceIte]
      obtain ⟨P3, k1, k2, k3⟩ := c_list (N := N) ok i1 hN
      rw [k1]
      exact TT_some ⟨k2, i3.tr k3⟩
    · have : s = 0 := by omega
      subst this
      rw [e3, e4, show wS W 0 = 0 from wtS_0 _, GT_z (Or.inl rfl)]
      exact ⟨rfl, rfl⟩
  · rw [pI_ne (by decide), pI_ne (by decide), pI_eq]; rfl
  · rw [pI_ne (by decide), pI_eq]
  · rw [pI_eq]
theorem c_group (ok : OK W) (h : CG W P) (a : Int32) : f_160 P a = some (sGroup W a) := by
  have h8 := gU_8 ok
  unfold f_160 sGroup
  by_cases h0 : a < 0
  · rw [if_pos h0, if_pos h0]
  · rw [if_neg h0, if_neg h0, h.2.1]
    by_cases h1 : a < iN (gU W)
    · rw [if_pos h1, if_pos h1]
      obtain ⟨k, hk, rfl⟩ := iN_of h0 (by omega) h1
      rw [if_pos (by rw [iN_ltl (by omega) (by decide)]; exact (by omega : k < 8)), if_pos (iN_gi (by omega) (by omega)), iN_nat (by omega), h.2.2 k hk]
    · rw [if_neg h1, if_neg h1]
theorem c_bits (P : ab_P) {u : Nat} (hu : u < 256) : f_303 P (iN u) = some (iN (pc u)) := by
  have : ∀ u, u < 256 → f_303 ((fun _ _ => 0), (fun _ _ => 0), (fun _ _ => none), (fun _ => (0, 0, 0)), 0, 0, 0) (iN u) = some (iN (pc u)) := by decide +kernel
  exact this u hu
end ST
