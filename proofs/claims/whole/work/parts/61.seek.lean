/-! which claims are false: the component seeks -/
theorem sumZ_bdr {f : Nat → Int} {c : Int} : ∀ {n : Nat}, (∀ k, k < n → -c ≤ f k ∧ f k ≤ c) → -(c * n) ≤ sumZ f n ∧ sumZ f n ≤ c * n
  | 0, _ => by simp [sumZ]
  | n + 1, h => by
    have h1 := sumZ_bdr (f := f) (c := c) (n := n) (fun k hk => h k (by omega))
    have h2 := h n (by omega)
    rw [sumZ_s]
    have : c * ((n + 1 : Nat) : Int) = c * n + c := by
      rw [Int.natCast_add, Int.mul_add]
      simp
    omega
section SK
variable {W : WO} {B : BK} {P : ab_P} {N n0 k : Nat}
theorem shZ_bd (ok : OK W) {p k : Nat} (hk : k < W.L.2.1) : -9999 ≤ shZ W.L p k ∧ shZ W.L p k ≤ 9999 := by
  have := (ok.1.sz hk).2.2
  unfold shZ
  split <;> split <;> omega
theorem m16 {m : Nat} (h : m ≤ 16) : (9999 : Int) * m ≤ 159984 := by omega
theorem aZ_bd (ok : OK W) (hm : mS W.L ≤ 16) (p : Nat) : -159984 ≤ aZ W.L p ∧ aZ W.L p ≤ 159984 := by
  have h1 := m16 hm
  have := sumZ_bdr (f := fun e => shZ W.L p (kf W.L e)) (c := 9999) (n := mS W.L) (fun e he => shZ_bd ok (kf_p he).1)
  unfold aZ
  omega
theorem UD_bd (ok : OK W) (hm : mS W.L ≤ 16) (q u p : Nat) : -159984 ≤ UD W.L q u p ∧ UD W.L q u p ≤ 159984 := by
  have h1 := m16 (show mS W.L - u ≤ 16 by omega)
  have := sumZ_bdr (f := fun e => if q.testBit e then shZ W.L p (kf W.L (u + e)) else 0) (c := 9999) (n := mS W.L - u) (fun e he => by
    have := shZ_bd (p := p) ok (kf_p (show u + e < mS W.L by omega)).1
    split <;> omega)
  unfold UD
  omega
theorem loZ_bd (ok : OK W) (hm : mS W.L ≤ 16) {u : Nat} (hu : u ≤ mS W.L) (p : Nat) : -159984 ≤ loZ W.L u p ∧ loZ W.L u p ≤ 159984 := by
  have h1 := m16 (show u ≤ 16 by omega)
  have := sumZ_bdr (f := fun e => if W.L.1 0 (kf W.L e) = iN p then (szP W.L (kf W.L e) : Int) else 0) (c := 9999) (n := u) (fun e he => by
    have := (ok.1.sz (kf_p (show e < mS W.L by omega)).1).2.2
    split <;> omega)
  unfold loZ
  omega
theorem hiZ_bd (ok : OK W) (hm : mS W.L ≤ 16) {u : Nat} (hu : u ≤ mS W.L) (p : Nat) : -159984 ≤ hiZ W.L u p ∧ hiZ W.L u p ≤ 159984 := by
  have h1 := m16 (show u ≤ 16 by omega)
  have := sumZ_bdr (f := fun e => if W.L.1 1 (kf W.L e) = iN p then (szP W.L (kf W.L e) : Int) else 0) (c := 9999) (n := u) (fun e he => by
    have := (ok.1.sz (kf_p (show e < mS W.L by omega)).1).2.2
    split <;> omega)
  unfold hiZ
  omega
/-- the open places of the preparation -/
def sG (b j : Nat) : Prop := (b = 21 ∧ j = 7) ∨ (24 ≤ b ∧ b ≤ 31)
theorem sG_C : ∀ b j, sG b j → scC b j := fun b j h => by
  unfold sG at h
  unfold scC
  omega
def CJ (W : WO) (k : Nat) (P : ab_P) : Prop := P.1 21 7 = iN (cntN (stL W.L) k) ∧ ∀ e, e < cntN (stL W.L) k → P.1 24 e = iN (kfA W.L k e) ∧ P.1 25 e = W.L.1 0 (kfA W.L k e) ∧ P.1 26 e = W.L.1 1 (kfA W.L k e) ∧ P.1 27 e = iN (szP W.L (kfA W.L k e))
theorem cntN_mono {p : Nat → Bool} {a b : Nat} (h : a ≤ b) : cntN p a ≤ cntN p b := by
  have := cntN_split p a (b - a)
  rw [show a + (b - a) = b by omega] at this
  omega
theorem c_gather (h : CW W P) (ok : OK W) (hm : mS W.L ≤ 16) (hN : 70000 ≤ N) : TT (f_311 21 43 N P) (fun q => CJ W W.L.2.1 q ∧ fr sG P q) := by
  have h40 := h.c.m40
  unfold f_311
  refine TT_lt ?_
  refine upT (fun n k (q : ab_P) => f_311_7 21 43 n (iN k) q) W.L.2.1 (fun k q => CJ W k q ∧ fr sG P q) _ (fun n k P1 hk hi => ?_) (fun n P1 hi => ?_) N _ ⟨⟨pI_eq, fun e he => absurd he (Nat.not_lt_zero _)⟩, fr.I (by unfold sG; omega)⟩ (by omega)
  · obtain ⟨e1, e2⟩ := hi
    have g := h.fr (e2.mono sG_C)
    show ∃ s', f_311_7 21 43 (n + 1) (iN k) P1 = _ ∧ _
    simp only [f_311_7, c_more g.c hk, c_stand g.c (show k < 2147483648 by omega), bI_0, Option.bind_some, iN_succ, ↓reduceIte]
    cases hs : stL W.L k with
    | false =>
      rw [if_pos rfl]
      refine ⟨P1, rfl, ?_, e2⟩
      unfold CJ
      rw [cntN_n hs, kfA_n hs]
      exact e1
    | true =>
      have hc : cntN (stL W.L) k < 16 := by
        have h1 := cntN_mono (p := stL W.L) (show k + 1 ≤ W.L.2.1 by omega)
        rw [cntN_y hs] at h1
        unfold mS at hm
        omega
      obtain ⟨z1, z2, z3⟩ := ok.1.sz hk
      have e7 := e1.1
      rw [if_neg (by decide), e7, if_pos (by rw [iN_ltl (by omega) (by decide)]; exact hc), if_pos (iN_gi hc (by omega))]
      simp only [Nat.reduceAdd, ab_lt, g231 (show 24 ≠ 44 by decide), g231 (show 25 ≠ 44 by decide), g231 (show 26 ≠ 44 by decide), c_get0 g.c hk, c_get1 g.c hk, c_get2 g.c hk, Option.bind_some, iN_nat (show cntN (stL W.L) k < 2147483648 by omega), uI_ne (show 21 ≠ 24 by decide), uI_ne (show 21 ≠ 25 by decide), uI_ne (show 21 ≠ 26 by decide), uI_ne (show 21 ≠ 27 by decide), e7, if_pos (iN_gi hc (show 16 ≤ 2147483648 by decide)), iN_succ]
      have f4 : fr sG P1 (ab_pI (ab_pI (ab_pI (ab_pI (ab_pI P1 24 (cntN (stL W.L) k) (iN k)) 25 (cntN (stL W.L) k) (W.L.1 0 k)) 26 (cntN (stL W.L) k) (W.L.1 1 k)) 27 (cntN (stL W.L) k) (W.L.1 2 k)) 21 7 (iN (cntN (stL W.L) k + 1))) :=
        ((((fr.I (by unfold sG; omega)).tr (fr.I (by unfold sG; omega))).tr (fr.I (by unfold sG; omega))).tr (fr.I (by unfold sG; omega))).tr (fr.I (by unfold sG; omega))
      refine ⟨_, rfl, ⟨by rw [pI_eq, cntN_y hs], fun e he => ?_⟩, e2.tr f4⟩
      rw [cntN_y hs] at he
      rw [kfA_y hs]
      dsimp only
      simp only [uI_at]
      by_cases hee : e = cntN (stL W.L) k
      · rw [if_pos hee]
        refine ⟨?_, ?_, ?_, ?_⟩ <;> simp [hee, z1]
      · rw [if_neg hee]
        have := e1.2 e (by omega)
        refine ⟨?_, ?_, ?_, ?_⟩ <;> simp [hee, this]
  · obtain ⟨e1, e2⟩ := hi
    simp only [f_311_7, c_end (h.fr (e2.mono sG_C)).c, ↓reduceIte]
    exact TT_some ⟨e1, e2⟩
/-- what is needed, after so many lines -/
def CNd (W : WO) (B : BK) (n : Nat) (P : ab_P) : Prop := ∀ p, p < 8 → P.1 28 p = bI (gp W.L B n p).isSome ∧ P.1 29 p = zN ((gp W.L B n p).getD 0)
theorem s289 {b j : Nat} (h : b = 28 ∨ b = 29) : sG b j := by unfold sG; omega
theorem c_needed (h : CW W P) (ok : OK W) (hm : mS W.L ≤ 16) (hB : CB B P) (okb : okB W.pe B) (hN : 70000 ≤ N) : TT (f_312 21 43 N P) (fun q => ((q.1 = 1 ∧ agree B B.1 ∧ CNd W B B.1 q.2) ∨ (q.1 = 0 ∧ ¬ agree B B.1)) ∧ fr (fun b _ => b = 28 ∨ b = 29) P q.2) := by
  have h8 := ok.1.1
  have hb8 := okb.1
  unfold f_312
  have fill : TT (f_306_8 (21 + 8) N 0 P) (fun q => (∀ s, s < 8 → q.1 29 s = 0) ∧ fr (fun b _ => b = 28 ∨ b = 29) P q) := by
    unfold f_306_8
    refine upT (fun n k (s : ab_P) => f_306_8_5 (21 + 8) n 0 (iN k) 8 s) 8 (fun k q => (∀ s, s < k → q.1 29 s = 0) ∧ fr (fun b _ => b = 28 ∨ b = 29) P q) _ (fun n k P1 hk hi => ?_) (fun n P1 hi => ?_) N P ⟨fun s hs => absurd hs (Nat.not_lt_zero _), fr.rf⟩ (by omega)
    · obtain ⟨e1, e2⟩ := hi
      show ∃ s', f_306_8_5 29 (n + 1) 0 (iN k) 8 P1 = f_306_8_5 29 n 0 (iN (k + 1)) 8 s' ∧ _
      simp only [f_306_8_5, iN_ltl (show k < 2147483648 by omega) (show 8 < 2147483648 by decide), hk, iN_gT hk (show 8 ≤ 2147483648 by decide), iN_nat (show k < 2147483648 by omega), iN_succ, ab_lt, ↓reduceIte]
      refine ⟨_, rfl, fun s hs => ?_, e2.tr (fr.I (Or.inr rfl))⟩
      rw [pI_at]
      split
      · rfl
      · exact e1 s (by omega)
    · obtain ⟨e1, e2⟩ := hi
      simp only [f_306_8_5, iN_ltl (show 8 < 2147483648 by omega) (show 8 < 2147483648 by decide), Nat.lt_irrefl, ↓reduceIte]
      exact TT_some ⟨e1, e2⟩
  refine TT_bind fill (fun P0 h0 => ?_)
  refine upT (fun n k (s : ab_P) => f_312_10 21 43 N n (iN k) s) 8 (fun k q => (∀ s, s < k → q.1 28 s = 0) ∧ (∀ s, s < 8 → q.1 29 s = 0) ∧ fr (fun b _ => b = 28 ∨ b = 29) P q) _ (fun n k P1 hk hi => ?_) (fun n P1 hi => ?_) N P0 ⟨fun s hs => absurd hs (Nat.not_lt_zero _), h0.1, h0.2⟩ (by omega)
  · obtain ⟨e1, e3, e2⟩ := hi
    show ∃ s', f_312_10 21 43 N (n + 1) (iN k) P1 = _ ∧ _
    simp only [f_312_10, Nat.reduceAdd, iN_ltl (show k < 2147483648 by omega) (show 8 < 2147483648 by decide), hk, iN_gT hk (show 8 ≤ 2147483648 by decide), iN_nat (show k < 2147483648 by omega), iN_succ, ab_lt, ↓reduceIte]
    refine ⟨_, rfl, fun s hs => ?_, fun s hs => by rw [pI_ne (by decide)]; exact e3 s hs, e2.tr (fr.I (Or.inl rfl))⟩
    rw [pI_at]
    split
    · rfl
    · exact e1 s (by omega)
  · obtain ⟨e1, e3, e2⟩ := hi
    simp only [f_312_10, iN_ltl (show 8 < 2147483648 by omega) (show 8 < 2147483648 by decide), Nat.lt_irrefl, ↓reduceIte]
    have key : ∀ c i n P2, i + c = B.1 → c < n → agree B i → CNd W B i P2 → fr (fun b _ => b = 28 ∨ b = 29) P P2 → TT (f_312_31 21 43 N n (iN i) P2) (fun q => ((q.1 = 1 ∧ agree B B.1 ∧ CNd W B B.1 q.2) ∨ (q.1 = 0 ∧ ¬ agree B B.1)) ∧ fr (fun b _ => b = 28 ∨ b = 29) P q.2) := by
      intro c
      induction c with
      | zero =>
        intro i n P2 hi hn ha hc hf
        obtain ⟨n, rfl⟩ : ∃ z, n = z + 1 := ⟨n - 1, by omega⟩
        have : i = B.1 := by omega
        subst this
        have hl : P2.1 21 2 = iN B.1 := by rw [hf.1 21 2 (by decide)]; exact hB.1
        unfold f_312_31
        rw [hl, if_neg (by rw [iN_lt (by omega) (by omega)]; omega)]
        exact TT_some ⟨Or.inl ⟨rfl, ha, hc⟩, hf⟩
      | succ c ih =>
        intro i n P2 hi hn ha hc hf
        obtain ⟨n, rfl⟩ : ∃ z, n = z + 1 := ⟨n - 1, by omega⟩
        have hib : i < B.1 := by omega
        obtain ⟨b1, b2, b3⟩ := okb.2 i hib
        have hl : P2.1 21 2 = iN B.1 := by rw [hf.1 21 2 (by decide)]; exact hB.1
        have hpp : P2.1 22 i = iN (B.2.1 i) := by rw [hf.1 22 i (show ¬ (22 = 28 ∨ 22 = 29) by decide)]; exact (hB.2 i hib).1
        have hpw : P2.1 23 i = zN (B.2.2 i) := by rw [hf.1 23 i (show ¬ (23 = 28 ∨ 23 = 29) by decide)]; exact (hB.2 i hib).2
        have g := h.fr (hf.mono (fun b j e => sG_C b j (s289 e)))
        have hA := aZ_bd ok hm (B.2.1 i)
        obtain ⟨c1, c2⟩ := hc (B.2.1 i) (by omega)
        have hgap : sWorth W.L (iN (B.2.1 i)) false - zN (B.2.2 i) = zN (aZ W.L (B.2.1 i) - B.2.2 i) := by rw [worth_Z ok.1, zN_sub]
        unfold f_312_31
        simp only [Nat.reduceAdd, hl, iN_lt (show i < 2147483648 by omega) (show B.1 < 2147483648 by omega), hib, iN_ltl (show i < 2147483648 by omega) (show 8 < 2147483648 by decide), show i < 8 by omega, iN_gT (show i < 8 by omega) (show 8 ≤ 2147483648 by decide), iN_nat (show i < 2147483648 by omega), hpp, iN_neg (show B.2.1 i < 2147483648 by omega), iN_ltl (show B.2.1 i < 2147483648 by omega) (show 8 < 2147483648 by decide), show B.2.1 i < 8 by omega, c_worth0 g.c hN, Option.bind_some, iN_gT (show B.2.1 i < 8 by omega) (show 8 ≤ 2147483648 by decide), iN_nat (show B.2.1 i < 2147483648 by omega), c1, c2, bI_0, hpw, hgap, iN_succ, ab_lt, ↓reduceIte]
        have wr : agree B (i + 1) → CNd W B (i + 1) (ab_pI (ab_pI P2 28 (B.2.1 i) 1) 29 (B.2.1 i) (zN (aZ W.L (B.2.1 i) - B.2.2 i))) ∧ fr (fun b _ => b = 28 ∨ b = 29) P (ab_pI (ab_pI P2 28 (B.2.1 i) 1) 29 (B.2.1 i) (zN (aZ W.L (B.2.1 i) - B.2.2 i))) := fun ha1 => by
          refine ⟨fun p hp => ?_, (hf.tr (fr.I (Or.inl rfl))).tr (fr.I (Or.inr rfl))⟩
          simp only [uI_at]
          show _ = bI (if B.2.1 i = p then some (aZ W.L p - B.2.2 i) else gp W.L B i p).isSome ∧ _ = zN ((if B.2.1 i = p then some (aZ W.L p - B.2.2 i) else gp W.L B i p).getD 0)
          by_cases hpe : B.2.1 i = p
          · subst hpe
            simp [bI]
          · have : ¬ p = B.2.1 i := fun e => hpe e.symm
            simp only [this, hpe, and_false, if_false]
            have := hc p hp
            simpa using this
        cases hg : gp W.L B i (B.2.1 i) with
        | none =>
          rw [if_pos (show (none : Option Int).isSome = false from rfl)]
          have ha1 : agree B (i + 1) := fun a b h1 h2 hab => by
            by_cases ea : a = i
            · by_cases eb : b = i
              · rw [ea, eb]
              · have := gp_at (L := W.L) ha (show b < i by omega)
                rw [← hab, ea, hg] at this
                cases this
            · by_cases eb : b = i
              · have := gp_at (L := W.L) ha (show a < i by omega)
                rw [hab, eb, hg] at this
                cases this
              · exact ha a b (by omega) (by omega) hab
          obtain ⟨w1, w2⟩ := wr ha1
          exact ih (i + 1) n _ (by omega) (by omega) ha1 w1 w2
        | some x =>
          obtain ⟨j, j1, j2, j3⟩ := gp_some hg
          obtain ⟨d1, d2, d3⟩ := okb.2 j (by omega)
          rw [if_neg (show ¬ (some x).isSome = false by simp)]
          show TT (if zN x = zN (aZ W.L (B.2.1 i) - B.2.2 i) then _ else _) _
          by_cases hx : x = aZ W.L (B.2.1 i) - B.2.2 i
          · rw [if_pos (by rw [hx])]
            have hw : B.2.2 j = B.2.2 i := by omega
            have ha1 : agree B (i + 1) := fun a b h1 h2 hab => by
              by_cases ea : a = i
              · by_cases eb : b = i
                · rw [ea, eb]
                · have := ha b j (by omega) j1 (by rw [← hab, ea, j2])
                  rw [ea]; omega
              · by_cases eb : b = i
                · have := ha a j (by omega) j1 (by rw [hab, eb, j2])
                  rw [eb]; omega
                · exact ha a b (by omega) (by omega) hab
            obtain ⟨w1, w2⟩ := wr ha1
            exact ih (i + 1) n _ (by omega) (by omega) ha1 w1 w2
          · rw [if_neg (by rw [zN_eq (by omega) (by omega)]; exact hx)]
            refine TT_some ⟨Or.inr ⟨rfl, fun hag => hx ?_⟩, hf⟩
            have := hag j i (by omega) hib j2
            omega
    exact key B.1 0 N P1 (by omega) (by omega) (fun a b h1 => absurd h1 (Nat.not_lt_zero _)) (fun p hp => ⟨by rw [e1 p hp]; rfl, by rw [e3 p hp]; rfl⟩) e2
/-- the bounds, of the first u -/
def CBd (W : WO) (n : Nat) (P : ab_P) : Prop := ∀ u, u ≤ n → ∀ p, p < 8 → P.1 30 (u * 8 + p) = zN (loZ W.L u p) ∧ P.1 31 (u * 8 + p) = zN (hiZ W.L u p)
theorem c_fill136 {i0 : Nat} (hN : 70000 ≤ N) : TT (f_253_136 i0 N 0 8 0 P) (fun q => (∀ s, s < 8 → q.1 i0 s = 0) ∧ fr (fun b _ => b = i0) P q) := by
  unfold f_253_136 f_308
  rw [if_neg (by decide), if_neg (by decide), if_neg (by decide), Option.bind_some]
  refine upT (fun n k (s : ab_P) => f_253_136_10 i0 n 8 0 (iN k) s) 8 (fun k q => (∀ s, s < k → q.1 i0 s = 0) ∧ fr (fun b _ => b = i0) P q) _ (fun n k P1 hk hi => ?_) (fun n P1 hi => ?_) N P ⟨fun s hs => absurd hs (Nat.not_lt_zero _), fr.rf⟩ (by omega)
  · obtain ⟨e1, e2⟩ := hi
    show ∃ s', f_253_136_10 i0 (n + 1) 8 0 (iN k) P1 = _ ∧ _
    simp only [f_253_136_10, iN_ltl (show k < 2147483648 by omega) (show 8 < 2147483648 by decide), hk, iN_gT (show k < 136 by omega) (show 136 ≤ 2147483648 by decide), iN_nat (show k < 2147483648 by omega), iN_succ, ab_lt, ↓reduceIte]
    refine ⟨_, rfl, fun s hs => ?_, e2.tr (fr.I rfl)⟩
    rw [pI_at]
    split
    · rfl
    · exact e1 s (by omega)
  · obtain ⟨e1, e2⟩ := hi
    simp only [f_253_136_10, iN_ltl (show 8 < 2147483648 by omega) (show 8 < 2147483648 by decide), Nat.lt_irrefl, ↓reduceIte]
    exact TT_some ⟨e1, e2⟩
theorem c_bounds (ok : OK W) (h40 : W.L.2.1 ≤ 40) (hm : mS W.L ≤ 16) (hJ : CJ W W.L.2.1 P) (hN : 70000 ≤ N) : TT (f_313 21 N P) (fun q => CBd W (mS W.L) q ∧ fr (fun b _ => b = 30 ∨ b = 31) P q) := by
  unfold f_313
  refine TT_bind (c_fill136 (i0 := 30) hN) (fun P0 h0 => ?_)
  refine TT_bind (c_fill136 (i0 := 31) hN) (fun P1 h1 => ?_)
  have f01 : fr (fun b _ => b = 30 ∨ b = 31) P P1 := (h0.2.mono (fun _ _ e => Or.inl e)).tr (h1.2.mono (fun _ _ e => Or.inr e))
  have key : ∀ c i n P2, i + c = mS W.L → c < n → CBd W i P2 → fr (fun b _ => b = 30 ∨ b = 31) P P2 → TT (f_313_24 21 N n (iN i) P2) (fun q => CBd W (mS W.L) q ∧ fr (fun b _ => b = 30 ∨ b = 31) P q) := by
    intro c
    induction c with
    | zero =>
      intro i n P2 hi hn hC hf
      obtain ⟨n, rfl⟩ : ∃ z, n = z + 1 := ⟨n - 1, by omega⟩
      have : i = mS W.L := by omega
      subst this
      have h7 : P2.1 21 7 = iN (mS W.L) := by rw [hf.1 21 7 (by decide)]; exact hJ.1
      unfold f_313_24
      rw [h7, if_neg (by rw [iN_lt (by omega) (by omega)]; omega)]
      exact TT_some ⟨hC, hf⟩
    | succ c ih =>
      intro i n P2 hi hn hC hf
      obtain ⟨n, rfl⟩ : ∃ z, n = z + 1 := ⟨n - 1, by omega⟩
      have him : i < mS W.L := by omega
      have h7 : P2.1 21 7 = iN (mS W.L) := by rw [hf.1 21 7 (by decide)]; exact hJ.1
      unfold f_313_24
      rw [h7, if_pos (by rw [iN_lt (by omega) (by omega)]; exact him), if_pos (by rw [iN_ltl (by omega) (by decide)]; exact (by omega : i < 16))]
      have hx2 : (iN i + (1 : Int32)) * (8 : Int32) = iN ((i + 1) * 8) := by rw [iN_succ, iN_lit 8, iN_mul]
      rw [hx2]
      refine upT (fun m p (q : ab_P) => f_313_47 21 (fun y0 y1 => f_313_24 21 N n y0 y1) m (iN i) (iN ((i + 1) * 8)) (iN p) q) 8 (fun p q => CBd W i q ∧ (∀ r, r < p → q.1 30 ((i + 1) * 8 + r) = zN (loZ W.L (i + 1) r) ∧ q.1 31 ((i + 1) * 8 + r) = zN (hiZ W.L (i + 1) r)) ∧ fr (fun b _ => b = 30 ∨ b = 31) P q) _ (fun m p P3 hp hI => ?_) (fun m P3 hI => ?_) N P2 ⟨hC, fun r hr => absurd hr (Nat.not_lt_zero _), hf⟩ (by omega)
      · obtain ⟨e1, e2, e3⟩ := hI
        obtain ⟨_, j2⟩ := hJ
        obtain ⟨k1, k2, k3, k4⟩ := j2 i him
        obtain ⟨r1, r2⟩ := e1 i (Nat.le_refl _) p hp
        have q25 : P3.1 25 i = W.L.1 0 (kf W.L i) := by rw [e3.1 25 i (show ¬ (25 = 30 ∨ 25 = 31) by decide)]; exact k2
        have q26 : P3.1 26 i = W.L.1 1 (kf W.L i) := by rw [e3.1 26 i (show ¬ (26 = 30 ∨ 26 = 31) by decide)]; exact k3
        have q27 : P3.1 27 i = iN (szP W.L (kf W.L i)) := by rw [e3.1 27 i (show ¬ (27 = 30 ∨ 27 = 31) by decide)]; exact k4
        have hs1 : iN ((i + 1) * 8) + iN p = iN ((i + 1) * 8 + p) := iN_add _ _
        have hs2 : iN ((i + 1) * 8 + p) - (8 : Int32) = iN (i * 8 + p) := by
          rw [iN_lit 8, iN_sub (by omega)]; congr 1; omega
        have lo1 : loZ W.L (i + 1) p = loZ W.L i p - (if W.L.1 0 (kf W.L i) = iN p then (szP W.L (kf W.L i) : Int) else 0) := by
          unfold loZ
          rw [sumZ_s]
          omega
        have hi1 : hiZ W.L (i + 1) p = hiZ W.L i p + (if W.L.1 1 (kf W.L i) = iN p then (szP W.L (kf W.L i) : Int) else 0) := by
          unfold hiZ
          rw [sumZ_s]
        have wr : ∀ v w, v = zN (loZ W.L (i + 1) p) → w = zN (hiZ W.L (i + 1) p) → CBd W i (ab_pI (ab_pI P3 30 ((i + 1) * 8 + p) v) 31 ((i + 1) * 8 + p) w) ∧ (∀ r, r < p + 1 → (ab_pI (ab_pI P3 30 ((i + 1) * 8 + p) v) 31 ((i + 1) * 8 + p) w).1 30 ((i + 1) * 8 + r) = zN (loZ W.L (i + 1) r) ∧ (ab_pI (ab_pI P3 30 ((i + 1) * 8 + p) v) 31 ((i + 1) * 8 + p) w).1 31 ((i + 1) * 8 + r) = zN (hiZ W.L (i + 1) r)) ∧ fr (fun b _ => b = 30 ∨ b = 31) P (ab_pI (ab_pI P3 30 ((i + 1) * 8 + p) v) 31 ((i + 1) * 8 + p) w) := fun v w hv hw => by
          refine ⟨fun u hu r hr => ?_, fun r hr => ?_, (e3.tr (fr.I (Or.inl rfl))).tr (fr.I (Or.inr rfl))⟩
          · rw [pI_ne (by decide), pI_nj (by omega), pI_nj (by omega), pI_ne (by decide)]
            exact e1 u hu r hr
          · by_cases hrp : r = p
            · subst hrp
              rw [pI_ne (by decide), pI_eq, pI_eq]
              exact ⟨hv, hw⟩
            · rw [pI_ne (by decide), pI_nj (by omega), pI_nj (by omega), pI_ne (by decide)]
              exact e2 r (by omega)
        show ∃ s', f_313_47 21 _ (m + 1) (iN i) (iN ((i + 1) * 8)) (iN p) P3 = _ ∧ _
        simp only [f_313_47, f_313_91, Nat.reduceAdd, iN_ltl (show p < 2147483648 by omega) (show 8 < 2147483648 by decide), hp, hs1, hs2, iN_gT (show i * 8 + p < 136 by omega) (show 136 ≤ 2147483648 by decide), iN_gT (show (i + 1) * 8 + p < 136 by omega) (show 136 ≤ 2147483648 by decide), iN_gT (show i < 16 by omega) (show 16 ≤ 2147483648 by decide), iN_nat (show i < 2147483648 by omega), iN_nat (show i * 8 + p < 2147483648 by omega), iN_nat (show (i + 1) * 8 + p < 2147483648 by omega), q25, r1, uI_ne (show 26 ≠ 30 by decide), uI_ne (show 31 ≠ 30 by decide), uI_ne (show 27 ≠ 30 by decide), q26, q27, r2, iN_succ, ab_lt, ↓reduceIte]
        by_cases h0 : W.L.1 0 (kf W.L i) = iN p
        · rw [if_pos h0] at lo1
          have v1 : zN (loZ W.L i p) - iN (szP W.L (kf W.L i)) = zN (loZ W.L (i + 1) p) := by
            rw [lo1, ← zN_nat, zN_sub]
          rw [if_pos h0]
          by_cases h1' : W.L.1 1 (kf W.L i) = iN p
          · rw [if_pos h1'] at hi1
            rw [if_pos h1']
            exact ⟨_, rfl, wr _ _ v1 (by rw [hi1, ← zN_nat, zN_add])⟩
          · rw [if_neg h1'] at hi1
            rw [if_neg h1']
            exact ⟨_, rfl, wr _ _ v1 (by rw [hi1]; simp [Int32.add_zero])⟩
        · rw [if_neg h0] at lo1
          have v1 : zN (loZ W.L i p) - 0 = zN (loZ W.L (i + 1) p) := by
            rw [lo1]; simp
          rw [if_neg h0]
          by_cases h1' : W.L.1 1 (kf W.L i) = iN p
          · rw [if_pos h1'] at hi1
            rw [if_pos h1']
            exact ⟨_, rfl, wr _ _ v1 (by rw [hi1, ← zN_nat, zN_add])⟩
          · rw [if_neg h1'] at hi1
            rw [if_neg h1']
            exact ⟨_, rfl, wr _ _ v1 (by rw [hi1]; simp [Int32.add_zero])⟩
      · obtain ⟨e1, e2, e3⟩ := hI
        simp only [f_313_47, iN_ltl (show 8 < 2147483648 by omega) (show 8 < 2147483648 by decide), Nat.lt_irrefl, iN_succ, ↓reduceIte]
        refine ih (i + 1) n P3 (by omega) (by omega) (fun u hu r hr => ?_) e3
        by_cases hu1 : u = i + 1
        · rw [hu1]; exact e2 r hr
        · exact e1 u (by omega) r hr
  refine key (mS W.L) 0 N P1 (by omega) (by omega) (fun u hu p hp => ?_) f01
  have : u = 0 := by omega
  subst this
  rw [show 0 * 8 + p = p by omega, h1.2.1 30 p (show ¬ 30 = 31 by decide), h0.1 p hp, h1.1 p hp]
  exact ⟨rfl, rfl⟩
end SK
