/-! cover, ways, lacking -/
def LF (q : Nat → Bool) (a : Nat) (r : Int32) : Prop := (∃ s, a ≤ s ∧ q s = true ∧ (∀ t, a ≤ t → t < s → q t = false) ∧ r = iN s) ∨ ((∀ t, a ≤ t → q t = false) ∧ r = -1)
theorem LF_one {q : Nat → Bool} {a : Nat} {r r' : Int32} (h : LF q a r) (h' : LF q a r') : r = r' := by
  rcases h with ⟨s, h1, h2, h3, h4⟩ | ⟨h1, h2⟩
  · rcases h' with ⟨s', h1', h2', h3', h4'⟩ | ⟨h1', h2'⟩
    · have : s = s' := by
        rcases Nat.lt_trichotomy s s' with g | g | g
        · have := h3' s h1 g
          rw [h2] at this
          cases this
        · exact g
        · have := h3 s' h1' g
          rw [h2'] at this
          cases this
      rw [h4, h4', this]
    · have := h1' s h1
      rw [h2] at this
      cases this
  · rcases h' with ⟨s', h1', h2', h3', h4'⟩ | ⟨h1', h2'⟩
    · have := h1 s' h1'
      rw [h2'] at this
      cases this
    · rw [h2, h2']
theorem least_ex {q : Nat → Bool} {a : Nat} : ∀ (c : Nat), q (a + c) = true → ∃ m, a ≤ m ∧ m ≤ a + c ∧ q m = true ∧ ∀ t, a ≤ t → t < m → q t = false := by
  intro c
  induction c generalizing a with
  | zero => exact fun h => ⟨a, Nat.le_refl _, by omega, by simpa using h, fun t h1 h2 => by omega⟩
  | succ c ih =>
    intro h
    cases ha : q a with
    | true => exact ⟨a, Nat.le_refl _, by omega, ha, fun t h1 h2 => by omega⟩
    | false =>
      obtain ⟨m, m1, m2, m3, m4⟩ := ih (a := a + 1) (by rw [show a + 1 + c = a + (c + 1) by omega]; exact h)
      refine ⟨m, by omega, by omega, m3, fun t h1 h2 => ?_⟩
      by_cases he : t = a
      · rw [he]; exact ha
      · exact m4 t (by omega) h2
theorem most_ex {q : Nat → Bool} (h0 : q 0 = true) : ∀ (a : Nat), ∃ m, m ≤ a ∧ q m = true ∧ ∀ t, m < t → t ≤ a → q t = false
  | 0 => ⟨0, Nat.le_refl _, h0, fun t h1 h2 => by omega⟩
  | a + 1 => by
    cases ha : q (a + 1) with
    | true => exact ⟨a + 1, Nat.le_refl _, ha, fun t h1 h2 => by omega⟩
    | false =>
      obtain ⟨m, m1, m2, m3⟩ := most_ex h0 a
      refine ⟨m, by omega, m2, fun t h1 h2 => ?_⟩
      by_cases he : t = a + 1
      · rw [he]; exact ha
      · exact m3 t h1 (by omega)
def RI (el : Nat → Bool) (z : Nat → Nat) (n : Nat) (P : ab_P) : Prop := ∀ s, s < 20000 → P.1 546 s = bI (SS el z n s)
theorem s546 : ∀ b j : Nat, b = 546 → scR b j := fun b j h => by unfold scR; omega
section COV
variable {W : WO} {P : ab_P} {N n0 k : Nat} {p : Int32} {el : Nat → Bool} {z : Nat → Nat}
theorem r_sumrow {Q : ab_P → Prop} {H : Int32 → Int32 → ab_P → Option ab_P} (h : RW W P) (ok : OK W) (hk : k < W.L.2.1) (he : elP W.L p k = true) (hF : RI (elP W.L p) (szP W.L) k P) (hN : 70000 ≤ N) (hH : ∀ P', RI (elP W.L p) (szP W.L) (k + 1) P' → fr scR P P' → TT (H p (iN (k + 1)) P') Q) : TT (f_154_81 H N p (iN k) 19999 P) Q := by
  obtain ⟨z1, z2, z3⟩ := ok.1.sz hk
  have h40 := h.r.m40
  refine upT (fun n j (q : ab_P) => f_154_81 H n p (iN k) (iN (19999 - j)) q) (20000 - szP W.L k) (fun j q => (∀ s, s < 20000 → q.1 546 s = bI (SS (elP W.L p) (szP W.L) (if 20000 - j ≤ s then k + 1 else k) s)) ∧ fr scR P q) _ (fun n j P1 hj hi => ?_) (fun n P1 hi => ?_) N P ⟨fun s hs => by rw [if_neg (by omega)]; exact hF s hs, fr.rf⟩ (by omega)
  · obtain ⟨e1, e2⟩ := hi
    have g := h.fr ok e2
    have hsub : iN (19999 - j) - iN (szP W.L k) = iN (19999 - j - szP W.L k) := iN_sub (by omega)
    have hnx : iN (19999 - j) + (-1) = iN (19999 - (j + 1)) := by rw [iN_pred (by omega), Nat.sub_sub]
    have r1 : P1.1 546 (19999 - j) = bI (SS (elP W.L p) (szP W.L) k (19999 - j)) := by rw [e1 _ (by omega), if_neg (by omega)]
    have r2 : P1.1 546 (19999 - j - szP W.L k) = bI (SS (elP W.L p) (szP W.L) k (19999 - j - szP W.L k)) := by rw [e1 _ (by omega), if_neg (by omega)]
    have wr : ∀ v, v = bI (SS (elP W.L p) (szP W.L) (k + 1) (19999 - j)) → (∀ s, s < 20000 → (ab_pI P1 546 (19999 - j) v).1 546 s = bI (SS (elP W.L p) (szP W.L) (if 20000 - (j + 1) ≤ s then k + 1 else k) s)) ∧ fr scR P (ab_pI P1 546 (19999 - j) v) := fun v hv => by
      refine ⟨fun s hs => ?_, e2.tr (fr.I (s546 546 _ rfl))⟩
      rw [pI_at]
      by_cases h1 : s = 19999 - j
      · rw [if_pos ⟨rfl, h1⟩, if_pos (by omega), h1]; exact hv
      · rw [if_neg (fun e => h1 e.2), e1 s hs]
        by_cases hc : 20000 - j ≤ s
        · rw [if_pos hc, if_pos (by omega)]
        · rw [if_neg hc, if_neg (by omega)]
    have hSS : SS (elP W.L p) (szP W.L) (k + 1) (19999 - j) = (SS (elP W.L p) (szP W.L) k (19999 - j) || SS (elP W.L p) (szP W.L) k (19999 - j - szP W.L k)) := by
      rw [SS_y he, decide_eq_true (by omega : szP W.L k ≤ 19999 - j), Bool.true_and]
    show ∃ s', f_154_81 H (n + 1) p (iN k) (iN (19999 - j)) P1 = _ ∧ _
    simp only [f_154_81, r_of2 g.r hk, z1, Option.bind_some, iN_lt (show 19999 - j < 2147483648 by omega) (show szP W.L k < 2147483648 by omega), show ¬ 19999 - j < szP W.L k by omega, iN_gT (show 19999 - j < 20000 by omega) (show 20000 ≤ 2147483648 by decide), iN_gT (show 19999 - j - szP W.L k < 20000 by omega) (show 20000 ≤ 2147483648 by decide), iN_nat (show 19999 - j < 2147483648 by omega), iN_nat (show 19999 - j - szP W.L k < 2147483648 by omega), hsub, hnx, r1, r2, bI_0, ab_lt, ↓reduceIte]
    cases ha : SS (elP W.L p) (szP W.L) k (19999 - j) with
    | true =>
      rw [if_neg (by decide)]
      exact ⟨_, rfl, wr _ (by rw [hSS, ha]; rfl)⟩
    | false =>
      rw [if_pos rfl]
      cases hb : SS (elP W.L p) (szP W.L) k (19999 - j - szP W.L k) with
      | true =>
        rw [if_neg (by decide)]
        exact ⟨_, rfl, wr _ (by rw [hSS, ha, hb]; rfl)⟩
      | false =>
        rw [if_pos rfl]
        exact ⟨_, rfl, wr _ (by rw [hSS, ha, hb]; rfl)⟩
  · obtain ⟨e1, e2⟩ := hi
    have g := h.fr ok e2
    simp only [f_154_81, r_of2 g.r hk, z1, Option.bind_some, iN_lt (show 19999 - (20000 - szP W.L k) < 2147483648 by omega) (show szP W.L k < 2147483648 by omega), show 19999 - (20000 - szP W.L k) < szP W.L k by omega, iN_succ, ↓reduceIte]
    refine hH P1 (fun s hs => ?_) e2
    rw [e1 s hs]
    split
    · rfl
    · rw [SS_y he, decide_eq_false (by omega)]
      simp
theorem r_sums (h : RW W P) (ok : OK W) (hN : 70000 ≤ N) : TT (f_154 N p P) (fun q => RI (elP W.L p) (szP W.L) W.L.2.1 q ∧ fr scR P q) := by
  have h40 := h.r.m40
  unfold f_154
  refine upT (fun n k (s : ab_P) => f_154_2 N n p (iN k) s) 20000 (fun k q => (∀ s, s < k → q.1 546 s = bI (decide (s = 0))) ∧ fr scR P q) _ (fun n k P1 hk hi => ?_) (fun n P1 hi => ?_) N P ⟨fun s hs => absurd hs (Nat.not_lt_zero _), fr.rf⟩ (by omega)
  · obtain ⟨e1, e2⟩ := hi
    have wr : ∀ v, v = bI (decide (k = 0)) → (∀ s, s < k + 1 → (ab_pI P1 546 k v).1 546 s = bI (decide (s = 0))) ∧ fr scR P (ab_pI P1 546 k v) := fun v hv => by
      refine ⟨fun s hs => ?_, e2.tr (fr.I (s546 546 _ rfl))⟩
      rw [pI_at]
      by_cases h1 : s = k
      · rw [if_pos ⟨rfl, h1⟩, h1]; exact hv
      · rw [if_neg (fun e => h1 e.2)]; exact e1 s (by omega)
    show ∃ s', f_154_2 N (n + 1) p (iN k) P1 = _ ∧ _
    simp only [f_154_2, iN_ltl (show k < 2147483648 by omega) (show 20000 < 2147483648 by decide), hk, iN_eql (show k < 2147483648 by omega) (show 0 < 2147483648 by decide), iN_gT hk (show 20000 ≤ 2147483648 by decide), iN_nat (show k < 2147483648 by omega), iN_succ, ab_lt, ↓reduceIte]
    by_cases h0 : k = 0
    · rw [if_pos h0]
      exact ⟨_, rfl, wr _ (by rw [h0]; rfl)⟩
    · rw [if_neg h0]
      exact ⟨_, rfl, wr _ (by rw [decide_eq_false h0]; rfl)⟩
  · obtain ⟨e1, e2⟩ := hi
    simp only [f_154_2, iN_ltl (show 20000 < 2147483648 by omega) (show 20000 < 2147483648 by decide), Nat.lt_irrefl, ↓reduceIte]
    have key : ∀ c k n P2, k + c = W.L.2.1 → c < n → RI (elP W.L p) (szP W.L) k P2 → fr scR P P2 → TT (f_154_34 N n p (iN k) P2) (fun q => RI (elP W.L p) (szP W.L) W.L.2.1 q ∧ fr scR P q) := by
      intro c
      induction c with
      | zero =>
        intro k n P2 hk hn hF hf
        obtain ⟨n, rfl⟩ : ∃ z, n = z + 1 := ⟨n - 1, by omega⟩
        have : k = W.L.2.1 := by omega
        subst this
        simp only [f_154_34, r_end (h.fr ok hf).r, ↓reduceIte]
        exact TT_some ⟨hF, hf⟩
      | succ c ih =>
        intro k n P2 hk hn hF hf
        obtain ⟨n, rfl⟩ : ∃ z, n = z + 1 := ⟨n - 1, by omega⟩
        have g := h.fr ok hf
        have hl : k < W.L.2.1 := by omega
        simp only [f_154_34, r_more g.r hl, r_stand g.r (show k < 2147483648 by omega), r_of1 g.r hl, bI_0, Option.bind_some, iN_succ, ↓reduceIte]
        have stay : elP W.L p k = false → RI (elP W.L p) (szP W.L) (k + 1) P2 := fun he s hs => by
          rw [hF s hs]
          simp [SS, he]
        by_cases hs : stL W.L k = false
        · rw [if_pos hs]
          exact ih (k + 1) n P2 (by omega) (by omega) (stay (by simp [elP, hs])) hf
        · rw [if_neg hs]
          have hs : stL W.L k = true := by simpa using hs
          by_cases hp : W.L.1 1 k = p
          · rw [if_pos hp]
            exact r_sumrow g ok hl (by simp [elP, hs, hp]) hF hN (fun P' k1 k2 => ih (k + 1) n P' (by omega) (by omega) k1 (hf.tr k2))
          · rw [if_neg hp]
            exact ih (k + 1) n P2 (by omega) (by omega) (stay (by simp [elP, hp])) hf
    exact key W.L.2.1 0 N P1 (by omega) (by omega) (fun s hs => e1 s hs) e2
/-! cover -/
theorem c_cover (h : CW W P) (ok : OK W) (hn : n0 ≤ 9999) (hN : 70000 ≤ N) : TT (f_246 N p (iN n0) P) (fun q => LF (sSS W.L p) n0 q.1 ∧ fr scC P q.2) := by
  have h40 := h.c.m40
  unfold f_246
  refine TT_b2 (c_reach (p := p) h ok hN) (fun v P1 hv => ?_)
  obtain ⟨e1, e2, e3⟩ := hv
  dsimp only at e1 e2 e3
  have can : ∀ {s : Nat}, s < 20032 → f_302 P1 (iN s) = some (bI (sSS W.L p s)) := fun hs => c_can e2 hs
  have hT := sTS_le (p := p) h40 ok
  rw [e1]
  by_cases hle : n0 ≤ sTS W.L p
  · obtain ⟨s, s1, s2, s3⟩ := SS_near (fun k _ e => el_sz (p := p) ok e) hle
    obtain ⟨m, m1, m2, m3, m4⟩ := least_ex (q := sSS W.L p) (a := n0) (s - n0) (by rw [show n0 + (s - n0) = s by omega]; exact s1)
    have mT := SS_le m3
    refine TT_eq (a := (iN m, P1)) ?_ ⟨Or.inl ⟨m, m1, m3, m4, rfl⟩, e3⟩
    refine up (fun n j (_ : Unit) => f_246_9 n (iN (sTS W.L p)) (iN (n0 + j)) P1) (m - n0) (fun _ => ()) _ (fun n j hj => ?_) (fun n => ?_) N (by omega)
    · have hT2 : n0 + j ≤ sTS W.L p := by unfold sTS; omega
      simp only [f_246_9, iN_ltl (show n0 + j < 2147483648 by omega) (show 20032 < 2147483648 by decide), show n0 + j < 20032 by omega, iN_lt (show sTS W.L p < 2147483648 by omega) (show n0 + j < 2147483648 by omega), show ¬ sTS W.L p < n0 + j by omega, can (show n0 + j < 20032 by omega), bI_0, Option.bind_some, iN_succ, ↓reduceIte]
      rw [if_pos (m4 _ (by omega) (by omega))]
      rfl
    · have hm : n0 + (m - n0) = m := by omega
      have hT2 : m ≤ sTS W.L p := mT
      simp only [hm, f_246_9, iN_ltl (show m < 2147483648 by omega) (show 20032 < 2147483648 by decide), show m < 20032 by omega, iN_lt (show sTS W.L p < 2147483648 by omega) (show m < 2147483648 by omega), show ¬ sTS W.L p < m by omega, can (show m < 20032 by omega), bI_0, Option.bind_some, ↓reduceIte]
      rw [m3, if_neg (by decide)]
  · obtain ⟨n, rfl⟩ : ∃ n, N = n + 1 := ⟨N - 1, by omega⟩
    simp only [f_246_9, iN_ltl (show n0 < 2147483648 by omega) (show 20032 < 2147483648 by decide), show n0 < 20032 by omega, iN_lt (show sTS W.L p < 2147483648 by omega) (show n0 < 2147483648 by omega), show sTS W.L p < n0 by omega, ↓reduceIte]
    refine TT_some ⟨Or.inr ⟨fun t ht => ?_, rfl⟩, e3⟩
    cases hc : sSS W.L p t with
    | false => rfl
    | true =>
      have := SS_le hc
      exact absurd this (by unfold sTS at hle; omega)
theorem r_cover (h40 : W.L.2.1 ≤ 40) (ok : OK W) (hR : RI (elP W.L p) (szP W.L) W.L.2.1 P) (hn : n0 ≤ 9999) (hN : 70000 ≤ N) : TT (f_39_61 N (iN n0) P) (fun q => LF (sSS W.L p) n0 q.1 ∧ q.2 = P) := by
  have hR' : ∀ s, s < 20000 → P.1 546 s = bI (sSS W.L p s) := hR
  by_cases hle : n0 ≤ sTS W.L p
  · obtain ⟨s, s1, s2, s3⟩ := SS_near (fun k _ e => el_sz (p := p) ok e) hle
    obtain ⟨m, m1, m2, m3, m4⟩ := least_ex (q := sSS W.L p) (a := n0) (s - n0) (by rw [show n0 + (s - n0) = s by omega]; exact s1)
    refine TT_eq (a := (iN m, P)) ?_ ⟨Or.inl ⟨m, m1, m3, m4, rfl⟩, rfl⟩
    refine up (fun n j (_ : Unit) => f_39_61 n (iN (n0 + j)) P) (m - n0) (fun _ => ()) _ (fun n j hj => ?_) (fun n => ?_) N (by omega)
    · simp only [f_39_61, iN_ltl (show n0 + j < 2147483648 by omega) (show 20000 < 2147483648 by decide), show n0 + j < 20000 by omega, iN_gT (show n0 + j < 20000 by omega) (show 20000 ≤ 2147483648 by decide), iN_nat (show n0 + j < 2147483648 by omega), hR' (n0 + j) (by omega), bI_0, iN_succ, ↓reduceIte]
      rw [if_pos (m4 _ (by omega) (by omega))]
      rfl
    · have hm : n0 + (m - n0) = m := by omega
      simp only [hm, f_39_61, iN_ltl (show m < 2147483648 by omega) (show 20000 < 2147483648 by decide), show m < 20000 by omega, iN_gT (show m < 20000 by omega) (show 20000 ≤ 2147483648 by decide), iN_nat (show m < 2147483648 by omega), hR' m (by omega), bI_0, ↓reduceIte]
      rw [m3, if_neg (by decide)]
  · have hno : ∀ t, n0 ≤ t → sSS W.L p t = false := fun t ht => by
      cases hc : sSS W.L p t with
      | false => rfl
      | true =>
        have := SS_le hc
        exact absurd this (by unfold sTS at hle; omega)
    refine TT_eq (a := (-1, P)) ?_ ⟨Or.inr ⟨hno, rfl⟩, rfl⟩
    refine up (fun n j (_ : Unit) => f_39_61 n (iN (n0 + j)) P) (20000 - n0) (fun _ => ()) _ (fun n j hj => ?_) (fun n => ?_) N (by omega)
    · simp only [f_39_61, iN_ltl (show n0 + j < 2147483648 by omega) (show 20000 < 2147483648 by decide), show n0 + j < 20000 by omega, iN_gT (show n0 + j < 20000 by omega) (show 20000 ≤ 2147483648 by decide), iN_nat (show n0 + j < 2147483648 by omega), hR' (n0 + j) (by omega), bI_0, iN_succ, ↓reduceIte]
      rw [if_pos (hno _ (by omega))]
      rfl
    · have hm : n0 + (20000 - n0) = 20000 := by omega
      simp only [hm, f_39_61, iN_ltl (show 20000 < 2147483648 by omega) (show 20000 < 2147483648 by decide), Nat.lt_irrefl, ↓reduceIte]
/-! ways -/
def sWays (L : LG) (p : Int32) : Nat := cntN (fun j => sSS L p (j + 1)) 9999
theorem c_ways (h : CW W P) (ok : OK W) (hN : 70000 ≤ N) : TT (f_247 N p P) (fun q => q.1 = iN (sWays W.L p) ∧ fr scC P q.2) := by
  have h40 := h.c.m40
  unfold f_247
  refine TT_b2 (c_reach (p := p) h ok hN) (fun v P1 hv => ?_)
  obtain ⟨e1, e2, e3⟩ := hv
  dsimp only at e1 e2 e3
  have can : ∀ {s : Nat}, s < 20032 → f_302 P1 (iN s) = some (bI (sSS W.L p s)) := fun hs => c_can e2 hs
  have hT := sTS_le (p := p) h40 ok
  rw [e1]
  have hfin : ∀ m, (m = 9999 ∨ (sTS W.L p ≤ m ∧ m ≤ 9999)) → cntN (fun j => sSS W.L p (j + 1)) m = sWays W.L p := fun m hm => by
    rcases hm with rfl | ⟨h1, h2⟩
    · rfl
    · have := cntN_ext (p := fun j => sSS W.L p (j + 1)) (m := m) (fun k e => by
        have := SS_le e
        unfold sTS at h1
        omega) (9999 - m)
      unfold sWays
      rw [← this]
      congr 1
      omega
  refine TT_eq (a := (iN (sWays W.L p), P1)) ?_ ⟨rfl, e3⟩
  refine up (fun n j x => f_247_11 n (iN (sTS W.L p)) x (iN (1 + j)) P1) (if sTS W.L p ≤ 9999 then sTS W.L p else 9999) (fun j => iN (cntN (fun j => sSS W.L p (j + 1)) j)) _ (fun n j hj => ?_) (fun n => ?_) N (by split <;> omega)
  · have hj1 : j < 9999 := by split at hj <;> omega
    have hj2 : j < sTS W.L p := by split at hj <;> omega
    simp only [f_247_11, iN_lll (show 1 + j < 2147483648 by omega) (show 9999 < 2147483648 by decide), show ¬ 9999 < 1 + j by omega, iN_lt (show sTS W.L p < 2147483648 by omega) (show 1 + j < 2147483648 by omega), show ¬ sTS W.L p < 1 + j by omega, can (show 1 + j < 20032 by omega), bI_0, Option.bind_some, iN_succ, Int32.add_zero, ↓reduceIte]
    have hq : sSS W.L p (1 + j) = sSS W.L p (j + 1) := by rw [Nat.add_comm]
    rw [hq]
    cases hc : sSS W.L p (j + 1) with
    | false =>
      rw [if_pos rfl, show cntN (fun j => sSS W.L p (j + 1)) (j + 1) = cntN (fun j => sSS W.L p (j + 1)) j by simp [cntN, hc]]
      rfl
    | true =>
      rw [if_neg (by decide), show cntN (fun j => sSS W.L p (j + 1)) (j + 1) = cntN (fun j => sSS W.L p (j + 1)) j + 1 by simp [cntN, hc]]
      rfl
  · rw [hfin (if sTS W.L p ≤ 9999 then sTS W.L p else 9999) (by split <;> omega)]
    by_cases hc : sTS W.L p ≤ 9999
    · simp only [if_pos hc, f_247_11, iN_lll (show 1 + sTS W.L p < 2147483648 by omega) (show 9999 < 2147483648 by decide), iN_lt (show sTS W.L p < 2147483648 by omega) (show 1 + sTS W.L p < 2147483648 by omega), show sTS W.L p < 1 + sTS W.L p by omega, ↓reduceIte]
      split <;> rfl
    · simp only [if_neg hc, f_247_11, iN_lll (show 1 + 9999 < 2147483648 by omega) (show 9999 < 2147483648 by decide), show 9999 < 1 + 9999 by omega, ↓reduceIte]
theorem r_ways (hR : RI (elP W.L p) (szP W.L) W.L.2.1 P) (hN : 70000 ≤ N) : f_41_38 N 0 1 P = some (iN (sWays W.L p), P) := by
  have hR' : ∀ s, s < 20000 → P.1 546 s = bI (sSS W.L p s) := hR
  refine up (fun n j x => f_41_38 n x (iN (1 + j)) P) 9999 (fun j => iN (cntN (fun j => sSS W.L p (j + 1)) j)) _ (fun n j hj => ?_) (fun n => ?_) N (by omega)
  · simp only [f_41_38, iN_lll (show 1 + j < 2147483648 by omega) (show 9999 < 2147483648 by decide), show ¬ 9999 < 1 + j by omega, iN_gT (show 1 + j < 20000 by omega) (show 20000 ≤ 2147483648 by decide), iN_nat (show 1 + j < 2147483648 by omega), hR' (1 + j) (by omega), bI_0, iN_succ, Int32.add_zero, ↓reduceIte]
    have hq : sSS W.L p (1 + j) = sSS W.L p (j + 1) := by rw [Nat.add_comm]
    rw [hq]
    cases hc : sSS W.L p (j + 1) with
    | false =>
      rw [if_pos rfl, show cntN (fun j => sSS W.L p (j + 1)) (j + 1) = cntN (fun j => sSS W.L p (j + 1)) j by simp [cntN, hc]]
      rfl
    | true =>
      rw [if_neg (by decide), show cntN (fun j => sSS W.L p (j + 1)) (j + 1) = cntN (fun j => sSS W.L p (j + 1)) j + 1 by simp [cntN, hc]]
      rfl
  · simp only [f_41_38, iN_lll (show 1 + 9999 < 2147483648 by omega) (show 9999 < 2147483648 by decide), show 9999 < 1 + 9999 by omega, ↓reduceIte]
    rfl
/-! lacking -/
def MB (q : Nat → Bool) (a m : Nat) : Prop := m ≤ a ∧ q m = true ∧ ∀ t, m < t → t ≤ a → q t = false
theorem MB_one {q : Nat → Bool} {a m m' : Nat} (h : MB q a m) (h' : MB q a m') : m = m' := by
  rcases Nat.lt_trichotomy m m' with g | g | g
  · have := h.2.2 m' g h'.1
    rw [h'.2.1] at this
    cases this
  · exact g
  · have := h'.2.2 m g h.1
    rw [h.2.1] at this
    cases this
theorem c_lack (h : CW W P) (ok : OK W) (hn : n0 ≤ 9999) (hN : 70000 ≤ N) : TT (f_269 N p (iN n0) P) (fun q => (∃ m, MB (sSS W.L p) n0 m ∧ q.1 = iN m) ∧ fr scC P q.2) := by
  unfold f_269
  refine TT_b2 (c_reach (p := p) h ok hN) (fun v P1 hv => ?_)
  obtain ⟨e1, e2, e3⟩ := hv
  dsimp only at e1 e2 e3
  have can : ∀ {s : Nat}, s < 20032 → f_302 P1 (iN s) = some (bI (sSS W.L p s)) := fun hs => c_can e2 hs
  obtain ⟨m, m1, m2, m3⟩ := most_ex (q := sSS W.L p) (SS_0 _) n0
  refine TT_eq (a := (iN m, P1)) ?_ ⟨⟨m, ⟨m1, m2, m3⟩, rfl⟩, e3⟩
  refine up (fun n j (_ : Unit) => f_269_8 n (iN (n0 - j)) P1) (n0 - m) (fun _ => ()) _ (fun n j hj => ?_) (fun n => ?_) N (by omega)
  · simp only [f_269_8, iN_lll (show n0 - j < 2147483648 by omega) (show 0 < 2147483648 by decide), show 0 < n0 - j by omega, can (show n0 - j < 20032 by omega), bI_0, Option.bind_some, iN_pred (show 0 < n0 - j by omega), Nat.sub_sub, ↓reduceIte]
    rw [if_pos (m3 _ (by omega) (by omega))]
  · have hm : n0 - (n0 - m) = m := by omega
    by_cases h0 : 0 < m
    · simp only [hm, f_269_8, iN_lll (show m < 2147483648 by omega) (show 0 < 2147483648 by decide), h0, can (show m < 20032 by omega), bI_0, Option.bind_some, ↓reduceIte]
      rw [m2, if_neg (by decide)]
    · simp only [hm, f_269_8, iN_lll (show m < 2147483648 by omega) (show 0 < 2147483648 by decide), h0, ↓reduceIte]
      rw [show m = 0 by omega]
      rfl
theorem r_lack (hR : RI (elP W.L p) (szP W.L) W.L.2.1 P) (hn : n0 ≤ 9999) (hN : 70000 ≤ N) : TT (f_75_61 N (iN n0) (iN n0) P) (fun q => (∃ m, MB (sSS W.L p) n0 m ∧ q.1 = iN n0 - iN m) ∧ q.2 = P) := by
  have hR' : ∀ s, s < 20000 → P.1 546 s = bI (sSS W.L p s) := hR
  obtain ⟨m, m1, m2, m3⟩ := most_ex (q := sSS W.L p) (SS_0 _) n0
  refine TT_eq (a := (iN n0 - iN m, P)) ?_ ⟨⟨m, ⟨m1, m2, m3⟩, rfl⟩, rfl⟩
  refine up (fun n j (_ : Unit) => f_75_61 n (iN n0) (iN (n0 - j)) P) (n0 - m) (fun _ => ()) _ (fun n j hj => ?_) (fun n => ?_) N (by omega)
  · simp only [f_75_61, iN_gT (show n0 - j < 20000 by omega) (show 20000 ≤ 2147483648 by decide), iN_nat (show n0 - j < 2147483648 by omega), hR' (n0 - j) (by omega), bI_0, iN_pred (show 0 < n0 - j by omega), Nat.sub_sub, ↓reduceIte]
    rw [if_pos (m3 _ (by omega) (by omega))]
  · have hm : n0 - (n0 - m) = m := by omega
    simp only [hm, f_75_61, iN_gT (show m < 20000 by omega) (show 20000 ≤ 2147483648 by decide), iN_nat (show m < 2147483648 by omega), hR' m (by omega), bI_0, ↓reduceIte]
    rw [m2, if_neg (by decide)]
end COV
