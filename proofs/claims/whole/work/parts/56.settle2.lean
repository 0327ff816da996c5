/-! who settles with whom: the reference -/
def encV (k : Nat) : Int32 := match k with
  | 0 => -1
  | k + 1 => iN (k + 1)
theorem encV_mx {k g : Nat} (hk : k < 1000) (hg : g < 1000) : ab_mx (encV k) (iN g + 1) = encV (max k (g + 1)) := by
  rw [iN_succ]
  rcases k with _ | k
  · rw [Nat.max_eq_right (by omega)]
    show ab_mx (-1) (iN (g + 1)) = iN (g + 1)
    unfold ab_mx
    rw [if_pos]
    rw [Int32.lt_iff_toInt_lt, iN_toInt (by omega)]
    show (-1 : Int) < _
    omega
  · show ab_mx (iN (k + 1)) (iN (g + 1)) = _
    rw [mx_iN (by omega) (by omega)]
    have : max (k + 1) (g + 1) = (max k g) + 1 := by omega
    rw [this]; rfl
theorem mxN_cut {f : Nat → Nat} {o n : Nat} (h : o < n) : mxN (fun p => if o ≤ p then f p else 0) n = max (mxN (fun p => if o < p then f p else 0) n) (f o) := by
  apply Nat.le_antisymm
  · rcases mxN_at (f := fun p => if o ≤ p then f p else 0) (n := n) with e | ⟨k, k1, k2⟩
    · omega
    · rw [k2]
      by_cases h1 : o = k
      · subst h1
        simp only [Nat.le_refl, if_true]
        omega
      · have := mxN_ge (f := fun p => if o < p then f p else 0) k1
        by_cases h2 : o ≤ k
        · rw [if_pos (by omega)] at this
          rw [if_pos h2]
          omega
        · rw [if_neg h2]
          omega
  · have h1 := mxN_ge (f := fun p => if o ≤ p then f p else 0) h
    simp only [Nat.le_refl, if_true] at h1
    rcases mxN_at (f := fun p => if o < p then f p else 0) (n := n) with e | ⟨k, k1, k2⟩
    · omega
    · have h2 := mxN_ge (f := fun p => if o ≤ p then f p else 0) k1
      rw [k2]
      by_cases h3 : o < k
      · rw [if_pos (by omega)] at h2
        rw [if_pos h3]
        omega
      · rw [if_neg h3]
        omega
section SR
variable {W : WO} {P : ab_P} {N n0 k : Nat}
/-- the entry for a set -/
def eR (W : WO) (s : Nat) : Int32 := if wS W s = 0 then iN (GT (wS W) s) else -1
def TR (W : WO) (n : Nat) (P : ab_P) : Prop := P.1 72 38 = iN (uS W) ∧ ∀ s, s < n → P.1 547 s = wS W s ∧ (s &&& uS W = s → P.1 548 s = eR W s)
def ff (W : WO) (s p : Nat) : Nat := if wS W s = 0 then gf (wS W) s p else 0
theorem ff_le (s p : Nat) (hs : s < 256) : ff W s p ≤ 9 := by
  unfold ff gf
  split
  · split
    · rename_i hg
      have := grp_pos hg
      have := GT_8 (W := W) (n0 := s ^^^ p) (by omega)
      omega
    · omega
  · omega
theorem mx9 {f : Nat → Nat} {n : Nat} (h : ∀ k, f k ≤ 9) : mxN f n ≤ 9 := by
  rcases mxN_at (f := f) (n := n) with e | ⟨k, k1, k2⟩
  · omega
  · rw [k2]; exact h k
theorem ff_no {s p : Nat} (h : grp (wS W) p s = false) : ff W s p = 0 := by
  unfold ff gf
  rw [h]
  simp
theorem s548 : ∀ b j : Nat, (b = 547 ∨ b = 548) → scR b j := fun b j h => by unfold scR; omega
theorem r_ones {Q : ab_P → Prop} {H : Int32 → ab_P → Option ab_P} {s : Nat} (hs : s < 256) (hu : s &&& uS W = s) (hfin : ∀ P', TR W s P' → P'.1 547 s = wS W s → P'.1 548 s = encV (mxN (ff W s) (s + 1)) → fr scR P P' → TT (H (iN s + 1) P') Q) : ∀ o, o ≤ s → (o &&& s = o) → ∀ n P1, o < n → TR W s P1 → P1.1 547 s = wS W s → P1.1 548 s = encV (mxN (fun p => if o < p then ff W s p else 0) (s + 1)) → fr scR P P1 → TT (f_157_152 H n (iN s) (iN o) P1) Q := by
  intro o
  induction o using Nat.strongRecOn with
  | ind o ih =>
    intro ho hsb n P1 hn hT h7 h8 hf
    obtain ⟨n, rfl⟩ : ∃ z, n = z + 1 := ⟨n - 1, by omega⟩
    by_cases h0 : o = 0
    · subst h0
      unfold f_157_152
      rw [if_neg (by decide)]
      refine hfin P1 hT h7 ?_ hf
      rw [h8]
      congr 1
      refine mxN_ext (fun p _ => ?_)
      by_cases hp : 0 < p
      · rw [if_pos hp]
      · have : p = 0 := by omega
        subst this
        rw [if_neg (by omega), ff_no]
        unfold grp
        simp
    · -- the next smaller one
      have hnx : (iN o - 1) &&& iN s = iN ((o - 1) &&& s) := by
        rw [iN_lit 1, iN_sub (by omega), iN_and]
      have hlt : (o - 1) &&& s < o := by
        have : (o - 1) &&& s ≤ o - 1 := Nat.and_le_left
        omega
      have hnsb : ((o - 1) &&& s) &&& s = (o - 1) &&& s := by rw [Nat.and_assoc, Nat.and_self]
      have hmx : mxN (fun p => if (o - 1) &&& s < p then ff W s p else 0) (s + 1) = max (mxN (fun p => if o < p then ff W s p else 0) (s + 1)) (ff W s o) := by
        rw [← mxN_cut (by omega)]
        refine mxN_ext (fun p _ => ?_)
        by_cases h1 : o ≤ p
        · rw [if_pos h1, if_pos (by omega)]
        · rw [if_neg h1]
          by_cases h2 : (o - 1) &&& s < p
          · rw [if_pos h2, ff_no]
            cases hg : grp (wS W) p s with
            | false => rfl
            | true =>
              have := sb_down o s p (grp_sb hg).1 hsb (by omega)
              omega
          · rw [if_neg h2]
      have go : ∀ P2, TR W s P2 → P2.1 547 s = wS W s → P2.1 548 s = encV (max (mxN (fun p => if o < p then ff W s p else 0) (s + 1)) (ff W s o)) → fr scR P P2 → TT (f_157_152 H n (iN s) (iN ((o - 1) &&& s)) P2) Q := fun P2 a1 a2 a3 a4 => by
        rw [← hmx] at a3
        exact ih ((o - 1) &&& s) hlt (by omega) hnsb n P2 (by omega) a1 a2 a3 a4
      have skip : grp (wS W) o s = false ∨ wS W s ≠ 0 → TT (f_157_152 H n (iN s) (iN ((o - 1) &&& s)) P1) Q := fun hc => by
        refine go P1 hT h7 ?_ hf
        have : ff W s o = 0 := by
          rcases hc with hc | hc
          · exact ff_no hc
          · unfold ff
            rw [if_neg hc]
        rw [this, Nat.max_eq_left (by omega)]
        exact h8
      unfold f_157_152
      rw [hnx, if_pos (by rw [show (0 : Int32) = iN 0 from rfl, iN_lt (by decide) (by omega)]; omega), i_andlow hs]
      have hle : o &&& low s < 2147483648 := Nat.lt_of_le_of_lt Nat.and_le_left (by omega)
      by_cases h1 : o &&& low s = 0
      · rw [if_pos (by rw [h1]; rfl)]
        exact skip (Or.inl (by unfold grp; simp [h1]))
      · rw [if_neg (by rw [show (0 : Int32) = iN 0 from rfl, iN_eq hle (by decide)]; exact h1), if_pos (iN_gi (by omega) (by omega))]
        have h7o : P1.1 547 o = wS W o := by
          by_cases he : o = s
          · rw [he]; exact h7
          · exact (hT.2 o (by omega)).1
        simp only [iN_nat (show o < 2147483648 by omega), h7o]
        by_cases h2 : wS W o = 0
        · rw [if_pos h2]
          have hg : grp (wS W) o s = true := by unfold grp; simp [h1, h2, hsb]
          have hp := grp_pos hg
          have hgi := iN_gi (k := s ^^^ o) (n := 256) (by omega) (by omega)
          have hgs := iN_gi (k := s) (n := 256) hs (by omega)
          simp only [iN_mns hsb, if_pos hgi, if_pos hgs, iN_nat (show s ^^^ o < 2147483648 by omega), iN_nat (show s < 2147483648 by omega), (hT.2 (s ^^^ o) hp.2.2).2 (sb_rest hu hsb)]
          by_cases h3 : wS W s = 0
          · have hr := wt_rest (wt := wS W) (fun t s h => wS_x (t := t) (s := s) h) h3 hg
            have hG8 := GT_8 (W := W) (n0 := s ^^^ o) (by omega)
            have heR : eR W (s ^^^ o) = iN (GT (wS W) (s ^^^ o)) := by unfold eR; rw [if_pos hr]
            have h9 : mxN (fun p => if o < p then ff W s p else 0) (s + 1) ≤ 9 := mx9 (fun k => by
              have := ff_le (W := W) s k hs
              split <;> omega)
            rw [heR, if_neg (by rw [iN_nm1 (by omega)]; exact id), r_mor, Option.bind_some, h8, encV_mx (by omega) (by omega)]
            refine TT_lt (go _ ⟨?_, fun t ht => ⟨?_, fun htu => ?_⟩⟩ ?_ ?_ (hf.tr (fr.I (s548 548 s (Or.inr rfl)))))
            · rw [pI_ne (by decide)]; exact hT.1
            · rw [pI_ne (by decide)]; exact (hT.2 t ht).1
            · rw [pI_nj (by omega)]; exact (hT.2 t ht).2 htu
            · rw [pI_ne (by decide)]; exact h7
            · rw [pI_eq]
              congr 2
              unfold ff gf
              rw [if_pos h3, if_pos hg]
              omega
          · have heR : eR W (s ^^^ o) = -1 := by
              unfold eR
              rw [if_neg (fun e => h3 ?_)]
              have := wS_x (W := W) hsb
              rw [this, e, h2]
              rfl
            rw [heR, if_pos rfl]
            exact skip (Or.inr h3)
        · rw [if_neg h2]
          exact skip (Or.inl (by unfold grp; simp [h2]))
theorem wS_pe (ok : OK W) {s : Nat} (hs : s < 2 ^ W.pe) : sumI (fun p => if s.testBit p then wrP W.L p else 0) W.pe = wS W s := by
  have h8 := ok.1.1
  unfold wS wtS
  rw [show sumI (fun p => if s.testBit p then wrP W.L p else 0) 8 = sumI (fun p => if s.testBit p then wrP W.L p else 0) (W.pe + (8 - W.pe)) by congr 1; omega]
  refine (sumI_more _ (fun p hp => ?_)).symm
  rw [Nat.testBit_lt_two_pow (Nat.lt_of_lt_of_le hs (Nat.pow_le_pow_right (by decide) hp))]
  rfl
theorem encV_end {s : Nat} (h0 : s ≠ 0) (hs : s < 256) : encV (mxN (ff W s) (s + 1)) = eR W s := by
  unfold eR
  by_cases h : wS W s = 0
  · have e : mxN (ff W s) (s + 1) = GT (wS W) s := by
      rw [GT_eq h0 h]
      exact mxN_ext (fun p _ => by unfold ff; rw [if_pos h])
    have := GT_pos h0 hs h
    rw [e, if_pos h]
    obtain ⟨g, hg⟩ : ∃ g, GT (wS W) s = g + 1 := ⟨GT (wS W) s - 1, by omega⟩
    rw [hg]; rfl
  · have e : mxN (ff W s) (s + 1) = 0 := mxN_0 (fun p _ => by unfold ff; rw [if_neg h])
    rw [e, if_neg h]; rfl
theorem shr_tb {s p : Nat} (hs : s < 2147483648) (hp : p < 31) : ((iN s >>> (iN p &&& 31)) &&& (1 : Int32) = 1) = (s.testBit p = true) := by
  rw [i31 p (by omega), iN_shr hs (by omega), show (1 : Int32) = iN 1 from rfl, iN_and]
  have h1 : (s >>> p) &&& 1 ≤ 1 := Nat.and_le_right
  rw [iN_eq (by omega) (by decide)]
  have : Nat.testBit s p = (1 &&& (s >>> p) != 0) := rfl
  have hc : 1 &&& (s >>> p) = (s >>> p) &&& 1 := Nat.and_comm _ _
  rw [this, hc]
  generalize (s >>> p) &&& 1 = v at *
  apply propext
  rcases (show v = 0 ∨ v = 1 by omega) with rfl | rfl <;> decide
theorem r_set {Q : ab_P → Prop} {H : Int32 → ab_P → Option ab_P} {s : Nat} (h : RW W P) (ok : OK W) (hs : s < 2 ^ W.pe) (hT : TR W s P) (h0 : P.1 547 s = 0) (hN : 70000 ≤ N) (hfin : ∀ P', TR W (s + 1) P' → fr scR P P' → TT (H (iN (s + 1)) P') Q) : TT (f_157_74 N H N (iN s) 0 P) Q := by
  have h8 := ok.1.1
  have hp8 := p8_le h8
  have hgs := iN_gi (k := s) (n := 256) (by omega) (by omega)
  refine upT (fun n p (q : ab_P) => f_157_74 N H n (iN s) (iN p) q) W.pe (fun p q => q.1 547 s = sumI (fun p => if s.testBit p then wrP W.L p else 0) p ∧ TR W s q ∧ fr scR P q) _ (fun n p P1 hp hi => ?_) (fun n P1 hi => ?_) N P ⟨h0, hT, fr.rf⟩ (by omega)
  · obtain ⟨e1, e2, e3⟩ := hi
    have g := h.fr ok e3
    have wr : ∀ v, v = (if s.testBit p then wrP W.L p else 0) → (ab_pI P1 547 s (P1.1 547 s + v)).1 547 s = sumI (fun p => if s.testBit p then wrP W.L p else 0) (p + 1) ∧ TR W s (ab_pI P1 547 s (P1.1 547 s + v)) ∧ fr scR P (ab_pI P1 547 s (P1.1 547 s + v)) := fun v hv => by
      refine ⟨by rw [pI_eq, e1, hv]; rfl, ⟨by rw [pI_ne (by decide)]; exact e2.1, fun t ht => ⟨?_, fun htu => ?_⟩⟩, e3.tr (fr.I (s548 547 s (Or.inl rfl)))⟩
      · rw [pI_nj (by omega)]; exact (e2.2 t ht).1
      · rw [pI_ne (by decide)]; exact (e2.2 t ht).2 htu
    show ∃ s', f_157_74 N H (n + 1) (iN s) (iN p) P1 = _ ∧ _
    simp only [f_157_74, g.pe, iN_lt (show p < 2147483648 by omega) (show W.pe < 2147483648 by omega), hp, if_pos hgs, shr_tb (show s < 2147483648 by omega) (show p < 31 by omega), r_worth0 g.r ok.1 hN, Option.bind_some, iN_nat (show s < 2147483648 by omega), iN_succ, ab_lt, ↓reduceIte]
    by_cases hb : s.testBit p = true
    · rw [if_pos hb]
      exact ⟨_, rfl, wr _ (by rw [if_pos hb]; rfl)⟩
    · rw [if_neg hb]
      exact ⟨_, rfl, wr _ (by rw [if_neg hb])⟩
  · obtain ⟨e1, e2, e3⟩ := hi
    have g := h.fr ok e3
    rw [wS_pe ok hs] at e1
    have wr : ∀ v, TR W s (ab_pI P1 548 s v) ∧ fr scR P (ab_pI P1 548 s v) ∧ (ab_pI P1 548 s v).1 547 s = wS W s ∧ (ab_pI P1 548 s v).1 72 38 = iN (uS W) := fun v => by
      refine ⟨⟨by rw [pI_ne (by decide)]; exact e2.1, fun t ht => ⟨?_, fun htu => ?_⟩⟩, e3.tr (fr.I (s548 548 s (Or.inr rfl))), by rw [pI_ne (by decide)]; exact e1, by rw [pI_ne (by decide)]; exact e2.1⟩
      · rw [pI_ne (by decide)]; exact (e2.2 t ht).1
      · rw [pI_nj (by omega)]; exact (e2.2 t ht).2 htu
    -- what goes on behind it
    have goon : ∀ v, v = (if s = 0 then 0 else -1) → TT (if iN s &&& ((ab_pI P1 548 s v).1 72 38 ^^^ (-1 : Int32)) = 0 then f_157_152 H N (iN s) (iN s) (ab_pI P1 548 s v) else H (iN s + 1) (ab_pI P1 548 s v)) Q := fun v hv => by
      obtain ⟨w1, w2, w3, w4⟩ := wr v
      rw [w4]
      have fin2 : ∀ P' : ab_P, TR W s P' → P'.1 547 s = wS W s → (s &&& uS W = s → P'.1 548 s = eR W s) → fr scR P P' → TT (H (iN s + 1) P') Q := fun P' a1 a2 a3 a4 => by
        rw [iN_succ]
        refine hfin P' ⟨a1.1, fun t ht => ?_⟩ a4
        by_cases he : t = s
        · rw [he]; exact ⟨a2, a3⟩
        · exact a1.2 t (by omega)
      by_cases hu : s &&& uS W = s
      · rw [if_pos (by rw [iN_sb (by omega)]; exact hu)]
        by_cases hz : s = 0
        · obtain ⟨n, hn⟩ : ∃ n, N = n + 1 := ⟨N - 1, by omega⟩
          have e : f_157_152 H N (iN s) (iN s) (ab_pI P1 548 s v) = H (iN s + 1) (ab_pI P1 548 s v) := by
            rw [hn, hz]
            unfold f_157_152
            rw [if_neg (by decide)]
          rw [e]
          refine fin2 _ w1 w3 (fun _ => ?_) w2
          rw [pI_eq, hv, if_pos hz, hz]
          unfold eR
          rw [if_pos (show wS W 0 = 0 from wtS_0 _), GT_z (Or.inl rfl)]; rfl
        · refine r_ones (P := P) (by omega) hu (fun P' a1 a2 a3 a4 => fin2 P' a1 a2 (fun _ => ?_) a4) s (Nat.le_refl _) (Nat.and_self _) N _ (by omega) w1 w3 ?_ w2
          · rw [a3]
            exact encV_end hz (by omega)
          · rw [pI_eq, hv, if_neg hz, mxN_0 (fun p hp => if_neg (by omega))]; rfl
      · rw [if_neg (by rw [iN_sb (by omega)]; exact hu)]
        exact fin2 _ w1 w3 (fun e => absurd e hu) w2
    simp only [f_157_74, g.pe, iN_lt (show W.pe < 2147483648 by omega) (show W.pe < 2147483648 by omega), Nat.lt_irrefl, if_pos hgs, iN_eql (show s < 2147483648 by omega) (show 0 < 2147483648 by decide), iN_nat (show s < 2147483648 by omega), ab_lt, ↓reduceIte]
    by_cases hz : s = 0
    · rw [if_pos hz]
      exact goon _ (by rw [if_pos hz])
    · rw [if_neg hz]
      exact goon _ (by rw [if_neg hz])
theorem r_settle (h : RW W P) (ok : OK W) (hN : 70000 ≤ N) : TT (f_157 N P) (fun q => TR W (2 ^ W.pe) q ∧ fr scR P q) := by
  have h8 := ok.1.1
  have hp8 := p8_le h8
  unfold f_157
  refine TT_lt ?_
  have s38 : scR 72 38 := by unfold scR; omega
  refine upT (fun n p (q : ab_P) => f_157_7 N n (iN p) q) W.pe (fun p q => q.1 72 38 = iN (uN (wrP W.L) p) ∧ fr scR P q) _ (fun n p P1 hp hi => ?_) (fun n P1 hi => ?_) N _ ⟨pI_eq, fr.I s38⟩ (by omega)
  · obtain ⟨e1, e2⟩ := hi
    have g := h.fr ok e2
    show ∃ s', f_157_7 N (n + 1) (iN p) P1 = _ ∧ _
    simp only [f_157_7, g.pe, iN_lt (show p < 2147483648 by omega) (show W.pe < 2147483648 by omega), hp, r_worth0 g.r ok.1 hN, Option.bind_some, iN_one p (by omega), iN_succ, e1, ab_lt, ↓reduceIte]
    by_cases h0 : sWorth W.L (iN p) false = 0
    · rw [if_pos h0]
      refine ⟨_, rfl, ?_, e2.tr (fr.I s38)⟩
      rw [pI_eq, show (0 : Int32) = iN 0 from rfl, iN_or]
      show _ = iN (uN (wrP W.L) p ||| if wrP W.L p = 0 then 0 else 2 ^ p)
      rw [if_pos (by exact h0)]
    · rw [if_neg h0]
      refine ⟨_, rfl, ?_, e2.tr (fr.I s38)⟩
      rw [pI_eq, iN_or]
      show _ = iN (uN (wrP W.L) p ||| if wrP W.L p = 0 then 0 else 2 ^ p)
      rw [if_neg (by exact h0)]
  · obtain ⟨e1, e2⟩ := hi
    have g := h.fr ok e2
    simp only [f_157_7, g.pe, iN_lt (show W.pe < 2147483648 by omega) (show W.pe < 2147483648 by omega), Nat.lt_irrefl, ↓reduceIte]
    have key : ∀ c s n P2, s + c = 2 ^ W.pe → c < n → TR W s P2 → fr scR P P2 → TT (f_157_53 N n (iN s) P2) (fun q => TR W (2 ^ W.pe) q ∧ fr scR P q) := by
      intro c
      induction c with
      | zero =>
        intro s n P2 hs hn hT hf
        obtain ⟨n, rfl⟩ : ∃ z, n = z + 1 := ⟨n - 1, by omega⟩
        have : s = 2 ^ W.pe := by omega
        subst this
        simp only [f_157_53, (h.fr ok hf).pe, iN_one W.pe (by omega), iN_lt (show 2 ^ W.pe < 2147483648 by omega) (show 2 ^ W.pe < 2147483648 by omega), Nat.lt_irrefl, ↓reduceIte]
        exact TT_some ⟨hT, hf⟩
      | succ c ih =>
        intro s n P2 hs hn hT hf
        obtain ⟨n, rfl⟩ : ∃ z, n = z + 1 := ⟨n - 1, by omega⟩
        have hlt : s < 2 ^ W.pe := by omega
        simp only [f_157_53, (h.fr ok hf).pe, iN_one W.pe (by omega), iN_lt (show s < 2147483648 by omega) (show 2 ^ W.pe < 2147483648 by omega), hlt, iN_gT (show s < 256 by omega) (show 256 ≤ 2147483648 by decide), iN_nat (show s < 2147483648 by omega), ab_lt, ↓reduceIte]
        have f3 : fr scR P (ab_pI P2 547 s 0) := hf.tr (fr.I (s548 547 s (Or.inl rfl)))
        refine r_set (h.fr ok f3) ok hlt ⟨by rw [pI_ne (by decide)]; exact hT.1, fun t ht => ⟨?_, fun htu => ?_⟩⟩ pI_eq hN (fun P' k1 k2 => ih (s + 1) n P' (by omega) (by omega) k1 (f3.tr k2))
        · rw [pI_nj (by omega)]; exact (hT.2 t ht).1
        · rw [pI_ne (by decide)]; exact (hT.2 t ht).2 htu
    exact key (2 ^ W.pe) 0 N P1 (by omega) (by omega) ⟨e1, fun s hs => absurd hs (Nat.not_lt_zero _)⟩ e2
theorem uS_pe : uS W < 2 ^ W.pe := uN_lt (wrP W.L) W.pe
theorem cntN_more {p : Nat → Bool} {m : Nat} (h : ∀ k, m ≤ k → p k = false) (d : Nat) : cntN p (m + d) = cntN p m := cntN_ext (fun k e => by
  by_cases hk : k < m
  · exact hk
  · rw [h k (by omega)] at e
    cases e) d
theorem r_bits (P : ab_P) {u : Nat} (hu : u < 256) (hN : 70000 ≤ N) : f_158 N P (iN u) = some (iN (pc u)) := by
  unfold f_158
  have e16 : cntN (fun i => u.testBit i) 16 = pc u := cntN_more (m := 8) (fun k hk => Nat.testBit_lt_two_pow (Nat.lt_of_lt_of_le (by omega : u < 2 ^ 8) (Nat.pow_le_pow_right (by decide) hk))) 8
  rw [← e16]
  refine up (fun n j x => f_158_4 P n (iN u) x (iN j)) 16 (fun j => iN (cntN (fun i => u.testBit i) j)) _ (fun n j hj => ?_) (fun n => ?_) N (by omega)
  · simp only [f_158_4, iN_ltl (show j < 2147483648 by omega) (show 16 < 2147483648 by decide), hj, iN_succ, ↓reduceIte]
    have hv : (iN u >>> (iN j &&& 31)) &&& (1 : Int32) = iN (if u.testBit j then 1 else 0) := by
      have h := shr_tb (s := u) (p := j) (by omega) (by omega)
      cases hb : u.testBit j with
      | true => rw [hb] at h; exact h.mpr rfl
      | false =>
        rw [i31 j (by omega), iN_shr (by omega) (by omega), show (1 : Int32) = iN 1 from rfl, iN_and]
        have : Nat.testBit u j = (1 &&& (u >>> j) != 0) := rfl
        rw [this, Nat.and_comm] at hb
        have : u >>> j &&& 1 = 0 := by simpa using hb
        rw [this]; rfl
    rw [hv, iN_add]
    rfl
  · simp only [f_158_4, iN_ltl (show 16 < 2147483648 by omega) (show 16 < 2147483648 by decide), Nat.lt_irrefl, ↓reduceIte]
theorem r_group (ok : OK W) (hT : TR W (2 ^ W.pe) P) {a : Int32} (h0 : ¬ a < 0) (hN : 70000 ≤ N) : TT (f_45_22 N N a (P.1 72 38) 0 P) (fun q => q.1 = sGroup W a ∧ q.2 = P) := by
  have h8 := gU_8 ok
  have hpe := p8_le ok.1.1
  rw [hT.1]
  have key : ∀ c j n, j + c = gU W → c < n → (∀ t, t < j → a ≠ iN t) → TT (f_45_22 N n a (iN (lf W j)) (iN j) P) (fun q => q.1 = sGroup W a ∧ q.2 = P) := by
    intro c
    induction c with
    | zero =>
      intro j n hj hn hne
      obtain ⟨n, rfl⟩ : ∃ z, n = z + 1 := ⟨n - 1, by omega⟩
      have l0 : lf W j = 0 := (lf_0 ok (by omega)).mpr (by omega)
      unfold f_45_22
      rw [l0, if_pos (show iN 0 = 0 from rfl)]
      refine TT_some ⟨?_, rfl⟩
      unfold sGroup
      rw [if_neg h0, if_neg (fun h1 => ?_)]
      obtain ⟨t, ht, e⟩ := iN_of h0 (by omega) h1
      exact hne t (by omega) e
    | succ c ih =>
      intro j n hj hn hne
      obtain ⟨n, rfl⟩ : ∃ z, n = z + 1 := ⟨n - 1, by omega⟩
      obtain ⟨l1, l2, l3, l4⟩ := lf_p ok j (by omega)
      have l0 : lf W j ≠ 0 := fun e => by have := (lf_0 ok (by omega : j ≤ gU W)).mp e; omega
      have hlpe : ∀ t, t ≤ lf W j → t < 2 ^ W.pe := fun t ht => by
        have := sb_le l2
        have := uS_pe (W := W)
        omega
      obtain ⟨g1, g2, g3, g4⟩ := gn_p l0 l1 l3
      have hG8 := GT_8 (W := W) l1
      unfold f_45_22
      rw [if_neg (by rw [show (0 : Int32) = iN 0 from rfl, iN_eq (by omega) (by decide)]; exact l0)]
      -- the way out, once it is found
      have out : TT (if iN j = a then some (iN (gn (wS W) (lf W j)), P) else f_45_22 N n a (iN (lf W j) &&& (iN (gn (wS W) (lf W j)) ^^^ (-1 : Int32))) (iN j + 1) P) (fun q => q.1 = sGroup W a ∧ q.2 = P) := by
        by_cases he : iN j = a
        · rw [if_pos he]
          refine TT_some ⟨?_, rfl⟩
          unfold sGroup
          rw [if_neg h0, ← he, if_pos (by rw [iN_lt (by omega) (by omega)]; omega), iN_nat (by omega)]
        · rw [if_neg he]
          unfold gq at g1
          rw [Bool.and_eq_true] at g1
          rw [iN_mns (grp_sb g1.1).1, iN_succ]
          refine ih (j + 1) n (by omega) (by omega) (fun t ht => ?_)
          by_cases htj : t = j
          · rw [htj]; exact fun e => he e.symm
          · exact hne t (by omega)
      have hgs := iN_gi (k := lf W j) (n := 256) l1 (by omega)
      have hes : P.1 548 (lf W j) = iN (GT (wS W) (lf W j)) := by
        rw [(hT.2 _ (hlpe _ (Nat.le_refl _))).2 l2]
        unfold eR
        rw [if_pos l3]
      have hpos := GT_pos l0 l1 l3
      -- one of them tried
      have step : ∀ m t H, 1 ≤ t → t ≤ lf W j → f_45_32 H (m + 1) a (iN (lf W j)) (iN j) 0 (iN t) P = f_45_32 H m a (iN (lf W j)) (iN j) (if gq (wS W) (lf W j) t then iN t else 0) (iN (t + 1)) P := fun m t H ht1 ht2 => by
        have hle : t &&& low (lf W j) < 2147483648 := Nat.lt_of_le_of_lt Nat.and_le_left (by omega)
        conv => lhs; unfold f_45_32
        rw [if_neg (by rw [iN_lt (by omega) (by omega)]; omega), if_pos rfl, iN_succ]
        by_cases hsb : t &&& lf W j = t
        · rw [if_pos (by rw [iN_sb (by omega)]; exact hsb), i_andlow l1]
          by_cases hlow : t &&& low (lf W j) = 0
          · rw [if_pos (by rw [hlow]; rfl)]
            have : gq (wS W) (lf W j) t = false := by unfold gq grp; simp [hlow]
            rw [this]; rfl
          · rw [if_neg (by rw [show (0 : Int32) = iN 0 from rfl, iN_eq hle (by decide)]; exact hlow), if_pos (iN_gi (by omega) (by omega))]
            simp only [iN_nat (show t < 2147483648 by omega), (hT.2 t (hlpe t ht2)).1]
            by_cases hw : wS W t = 0
            · have hg : grp (wS W) t (lf W j) = true := by unfold grp; simp [hlow, hsb, hw]
              have hp := grp_pos hg
              have hgi := iN_gi (k := lf W j ^^^ t) (n := 256) (by omega) (by omega)
              have hG8' := GT_8 (W := W) (n0 := lf W j ^^^ t) (by omega)
              have her : P.1 548 (lf W j ^^^ t) = iN (GT (wS W) (lf W j ^^^ t)) := by
                rw [(hT.2 _ (hlpe _ (by omega))).2 (sb_rest l2 hsb)]
                unfold eR
                rw [if_pos (wt_rest (wt := wS W) (fun t s h => wS_x (t := t) (s := s) h) l3 hg)]
              rw [if_pos hw]
              simp only [iN_mns hsb, if_pos hgi, if_pos hgs, iN_nat (show lf W j ^^^ t < 2147483648 by omega), iN_nat (show lf W j < 2147483648 by omega), her, hes]
              have e1 : (iN (GT (wS W) (lf W j ^^^ t)) = iN (GT (wS W) (lf W j)) - 1) = (1 + GT (wS W) (lf W j ^^^ t) = GT (wS W) (lf W j)) := by
                rw [iN_lit 1, iN_sub (by omega), iN_eq (by omega) (by omega)]
                exact propext ⟨fun h => by omega, fun h => by omega⟩
              unfold gq
              rw [hg, Bool.true_and]
              by_cases hq : 1 + GT (wS W) (lf W j ^^^ t) = GT (wS W) (lf W j)
              · rw [if_pos (by rw [e1]; exact hq), decide_eq_true hq]; rfl
              · rw [if_neg (by rw [e1]; exact hq), decide_eq_false hq]; rfl
            · rw [if_neg hw]
              have : gq (wS W) (lf W j) t = false := by unfold gq grp; simp [hw]
              rw [this]; rfl
        · rw [if_neg (by rw [iN_sb (by omega)]; exact hsb)]
          have : gq (wS W) (lf W j) t = false := by unfold gq grp; simp [hsb]
          rw [this]; rfl
      have hNN : gn (wS W) (lf W j) + 1 ≤ 257 := by omega
      refine upT (fun m i (x : Int32) => f_45_32 (fun y0 y1 y2 y3 => f_45_22 N n y0 y1 y2 y3) m a (iN (lf W j)) (iN j) x (iN (1 + i)) P) (gn (wS W) (lf W j)) (fun i x => x = if i = gn (wS W) (lf W j) then iN (gn (wS W) (lf W j)) else 0) _ (fun m i x hi hx => ?_) (fun m x hx => ?_) N 0 (by rw [if_neg (by omega)]) (by omega)
      · rw [if_neg (by omega)] at hx
        subst hx
        refine ⟨if i + 1 = gn (wS W) (lf W j) then iN (gn (wS W) (lf W j)) else 0, ?_, rfl⟩
        show f_45_32 _ (m + 1) a (iN (lf W j)) (iN j) 0 (iN (1 + i)) P = f_45_32 _ m a (iN (lf W j)) (iN j) _ (iN (1 + (i + 1))) P
        rw [step m (1 + i) _ (by omega) (by omega)]
        by_cases he : i + 1 = gn (wS W) (lf W j)
        · rw [if_pos he, show 1 + i = gn (wS W) (lf W j) by omega, g1]
          rw [show 1 + (i + 1) = gn (wS W) (lf W j) + 1 by omega]
          rfl
        · rw [if_neg he, g4 (1 + i) (by omega) (by omega)]
          rfl
      · rw [if_pos rfl] at hx
        subst hx
        show TT (f_45_32 _ (m + 1) a (iN (lf W j)) (iN j) (iN (gn (wS W) (lf W j))) (iN (1 + gn (wS W) (lf W j))) P) _
        unfold f_45_32
        by_cases hl : lf W j < 1 + gn (wS W) (lf W j)
        · rw [if_pos (by rw [iN_lt (by omega) (by omega)]; exact hl)]
          exact out
        · rw [if_neg (by rw [iN_lt (by omega) (by omega)]; exact hl), if_neg (by rw [show (0 : Int32) = iN 0 from rfl, iN_eq (by omega) (by decide)]; omega)]
          exact out
  exact key (gU W) 0 N (by omega) (by omega) (fun t ht => absurd ht (Nat.not_lt_zero _))
end SR
