/-! settling in groups -/
def wrP (L : LG) (p : Nat) : Int32 := sWorth L (iN p) false
/-- those who aren't even -/
def uN (wr : Nat → Int32) : Nat → Nat
  | 0 => 0
  | n + 1 => uN wr n ||| (if wr n = 0 then 0 else 2 ^ n)
theorem uN_tb (wr : Nat → Int32) : ∀ n i, (uN wr n).testBit i = (decide (i < n) && !decide (wr i = 0))
  | 0, i => by
    show Nat.testBit 0 i = _
    simp
  | n + 1, i => by
    show (uN wr n ||| (if wr n = 0 then 0 else 2 ^ n)).testBit i = _
    rw [Nat.testBit_or, uN_tb wr n i]
    by_cases h0 : wr n = 0
    · rw [if_pos h0, Nat.zero_testBit, Bool.or_false]
      by_cases hi : i = n
      · subst hi; simp [h0]
      · by_cases h1 : i < n
        · rw [decide_eq_true h1, decide_eq_true (by omega : i < n + 1)]
        · rw [decide_eq_false h1, decide_eq_false (by omega : ¬ i < n + 1)]
    · rw [if_neg h0, Nat.testBit_two_pow]
      by_cases hi : i = n
      · subst hi; simp [h0]
      · by_cases h1 : i < n
        · rw [decide_eq_true h1, decide_eq_true (by omega : i < n + 1), decide_eq_false (fun e => hi e.symm : ¬ n = i)]
          simp
        · rw [decide_eq_false h1, decide_eq_false (by omega : ¬ i < n + 1), decide_eq_false (fun e => hi e.symm : ¬ n = i)]
          simp
theorem uN_lt (wr : Nat → Int32) (n : Nat) : uN wr n < 2 ^ n := by
  apply Nat.lt_pow_two_of_testBit
  intro i hi
  rw [uN_tb, decide_eq_false (by omega)]
  rfl
theorem p8_le {pe : Nat} (h : pe ≤ 8) : 2 ^ pe ≤ 256 := by
  have : 2 ^ pe ≤ 2 ^ 8 := Nat.pow_le_pow_right (by decide) h
  omega
theorem wtS_0 (wr : Nat → Int32) : wtS wr 0 = 0 := by
  have h := wt_x (wr := wr) (t := 0) (s := 0) rfl
  rw [show (0 : Nat) ^^^ 0 = 0 from rfl] at h
  grind
theorem sumI_zero {f : Nat → Int32} : ∀ {n : Nat}, (∀ k, k < n → f k = 0) → sumI f n = 0
  | 0, _ => rfl
  | n + 1, h => by
    rw [sumI_s, sumI_zero (fun k hk => h k (by omega)), h n (by omega)]
    rfl
theorem sumI_one {f : Nat → Int32} {l : Nat} : ∀ {n : Nat}, l < n → (∀ k, k < n → k ≠ l → f k = 0) → sumI f n = f l
  | 0, h, _ => absurd h (Nat.not_lt_zero _)
  | n + 1, h, e => by
    rw [sumI_s]
    by_cases hl : l = n
    · subst hl
      rw [sumI_zero (fun k hk => e k (by omega) (by omega))]
      exact Int32.zero_add _
    · rw [sumI_one (f := f) (l := l) (n := n) (by omega) (fun k hk h2 => e k (by omega) h2), e n (by omega) (by omega)]
      exact Int32.add_zero _
theorem wtS_pow (wr : Nat → Int32) {l : Nat} (h : l < 8) : wtS wr (2 ^ l) = wr l := by
  unfold wtS
  rw [sumI_one (l := l) h (fun k hk h2 => by rw [Nat.testBit_two_pow, decide_eq_false (fun e => h2 e.symm)]; rfl), Nat.testBit_two_pow_self]
  rfl
theorem sumI_more {f : Nat → Int32} {n : Nat} : ∀ d, (∀ k, n ≤ k → f k = 0) → sumI f (n + d) = sumI f n
  | 0, _ => rfl
  | d + 1, h => by
    rw [← Nat.add_assoc, sumI_s, sumI_more d h, h (n + d) (by omega)]
    exact Int32.add_zero _
theorem sumI_swap {f : Nat → Nat → Int32} {m : Nat} : ∀ n, sumI (fun a => sumI (fun b => f a b) m) n = sumI (fun b => sumI (fun a => f a b) n) m
  | 0 => (sumI_zero (fun _ _ => rfl)).symm
  | n + 1 => by
    rw [sumI_s, sumI_swap n]
    exact (sumI_add (fun k _ => sumI_s (fun a => f a k) n)).symm
/-- all worths together are nothing -/
theorem all_even {pe : Nat} {L : LG} (h : WF pe L) : sumI (wrP L) pe = 0 := by
  unfold wrP sWorth
  rw [sumI_swap (f := fun p k => if stL L k && (!false || decide (L.1 6 k = 1)) then shr L (iN p) k else 0)]
  refine sumI_zero (fun k hk => ?_)
  have h8 := h.1
  obtain ⟨a, a1, a2⟩ := (h.2 k hk).1
  obtain ⟨b, b1, b2⟩ := (h.2 k hk).2.1
  by_cases hs : stL L k = true
  · have e : ∀ p, p < pe → (if stL L k && (!false || decide (L.1 6 k = 1)) then shr L (iN p) k else 0) + (if p = a then L.1 2 k else 0) = (if p = b then L.1 2 k else 0) := fun p hp => by
      rw [hs]
      simp only [Bool.not_false, Bool.true_or, Bool.and_true, if_true]
      unfold shr
      simp only [a2, b2, iN_eq (show a < 2147483648 by omega) (show p < 2147483648 by omega), iN_eq (show b < 2147483648 by omega) (show p < 2147483648 by omega)]
      by_cases pa : p = a <;> by_cases pb : p = b <;> simp [pa, pb, eq_comm] <;> grind
    have e1 := sumI_add (n := pe) (f := fun p => if p = b then L.1 2 k else 0) (g := fun p => (if stL L k && (!false || decide (L.1 6 k = 1)) then shr L (iN p) k else 0)) (h := fun p => if p = a then L.1 2 k else 0) (fun p hp => (e p hp).symm)
    rw [sumI_one (l := b) b1 (fun k _ h2 => if_neg h2), sumI_one (f := fun p => if p = a then L.1 2 k else 0) (l := a) a1 (fun k _ h2 => if_neg h2)] at e1
    simp only [if_true] at e1
    grind
  · exact sumI_zero (fun p hp => by
      have hs : stL L k = false := by simpa using hs
      rw [hs]; rfl)
section GR
variable {W : WO} {P : ab_P} {N n0 k : Nat}
def wS (W : WO) (s : Nat) : Int32 := wtS (wrP W.L) s
def uS (W : WO) : Nat := uN (wrP W.L) W.pe
theorem wS_x {t s : Nat} (h : t &&& s = t) : wS W s = wS W (s ^^^ t) + wS W t := wt_x h
theorem uS_lt (ok : OK W) : uS W < 256 := by
  have h := uN_lt (wrP W.L) W.pe
  have := p8_le ok.1.1
  unfold uS
  omega
theorem uS_even (ok : OK W) : wS W (uS W) = 0 := by
  have h8 := ok.1.1
  unfold wS wtS uS
  have e : ∀ p, (if (uN (wrP W.L) W.pe).testBit p = true then wrP W.L p else 0) = (if p < W.pe then wrP W.L p else 0) := fun p => by
    rw [uN_tb]
    by_cases hp : p < W.pe <;> by_cases h0 : wrP W.L p = 0 <;> simp [hp, h0]
  rw [sumI_congr (fun p _ => e p), show 8 = W.pe + (8 - W.pe) by omega, sumI_more _ (fun p hp => if_neg (by omega)), sumI_congr (g := wrP W.L) (fun p hp => if_pos hp)]
  exact all_even ok.1
/-- the tables of the component, up to a set -/
def TC (W : WO) (n : Nat) (P : ab_P) : Prop := P.1 54 6 = iN (uS W) ∧ (∀ p, p < W.pe → P.1 55 (2 ^ p) = wrP W.L p) ∧ ∀ s, s < n → s &&& uS W = s → P.1 55 s = wS W s ∧ P.1 56 s = iN (GT (wS W) s)
theorem s5x : ∀ b j : Nat, (b = 55 ∨ b = 56) → scC b j := fun b j h => by unfold scC; omega
theorem i_andlow {a s : Nat} (h : s < 256) : (iN a &&& iN s) &&& -(iN s) = iN (a &&& low s) := by
  rw [Int32.and_assoc, low_i s h, iN_and]
theorem low_lt {s : Nat} : low s ≤ s := Nat.and_le_left
theorem c_isGroup {a s : Nat} (hs : s < 256) (ha : a < 256) (hw : a &&& s = a → P.1 55 a = wS W a) : f_304 P (iN a) (iN s) = some (bI (grp (wS W) a s)) := by
  unfold f_304 grp
  rw [i_andlow hs]
  have hle : a &&& low s < 2147483648 := Nat.lt_of_le_of_lt Nat.and_le_left (by omega)
  by_cases h1 : a &&& low s = 0
  · rw [if_pos (by rw [h1]; rfl)]
    simp [h1, bI]
  · rw [if_neg (by rw [show (0 : Int32) = iN 0 from rfl, iN_eq hle (by decide)]; exact h1)]
    by_cases h2 : a &&& s = a
    · rw [if_pos (by rw [iN_sb (by omega)]; exact h2), if_pos (iN_gi (by omega) (by omega)), iN_nat (by omega), hw h2]
      by_cases h3 : wS W a = 0 <;> simp [h1, h2, h3, bI]
    · rw [if_neg (by rw [iN_sb (by omega)]; exact h2)]
      simp [h2, bI]
theorem sb_tr {a b c : Nat} (h1 : a &&& b = a) (h2 : b &&& c = b) : a &&& c = a := by
  rw [sb_iff] at *
  exact fun i hi => h2 i (h1 i hi)
theorem sb_rest {a s u : Nat} (h2 : s &&& u = s) (h1 : a &&& s = a) : (s ^^^ a) &&& u = s ^^^ a := by
  have h3 := sb_tr h1 h2
  rw [sb_iff] at *
  intro i hi
  rw [Nat.testBit_xor] at hi
  cases hs : s.testBit i with
  | true => exact h2 i hs
  | false =>
    rw [hs] at hi
    simp at hi
    exact h3 i hi
theorem GT_8 (hs : n0 < 256) : GT (wS W) n0 ≤ 8 := Nat.le_trans (GT_pc (wt := wS W) (fun t s h => wS_x (t := t) (s := s) h) n0 hs) (pc_le n0)
theorem c_weighSet {s : Nat} (ok : OK W) (h0 : s ≠ 0) (hs : s < 256) (hu : s &&& uS W = s) (hT : TC W s P) (hz : P.1 55 0 = 0) (hN : 70000 ≤ N) : TT (f_249 N (iN s) P) (fun q => TC W (s + 1) q ∧ q.1 55 0 = 0 ∧ fr scC P q) := by
  obtain ⟨l, l1, l2, l3, l4⟩ := low_p s hs (by omega)
  obtain ⟨t1, t2, t3⟩ := hT
  have hls : 2 ^ l &&& s = 2 ^ l := by
    rw [sb_iff]
    intro i hi
    rw [Nat.testBit_two_pow] at hi
    have : l = i := of_decide_eq_true hi
    rw [← this]; exact l3
  have hxs := sb_xs hls
  have hp := Nat.two_pow_pos l
  have hlpe : l < W.pe := by
    have := sb_iff.mp hu l l3
    unfold uS at this
    rw [uN_tb] at this
    simp at this
    exact this.1
  have hle := sb_le hls
  unfold f_249
  rw [low_i s hs, l2, iN_xor]
  have gi1 := iN_gi (k := 2 ^ l) (n := 256) (by omega) (by omega)
  have gi2 := iN_gi (k := s ^^^ 2 ^ l) (n := 256) (by omega) (by omega)
  have gi3 := iN_gi (k := s) (n := 256) hs (by omega)
  rw [if_pos gi1, if_pos gi2, if_pos gi3]
  simp only [ab_lt, if_pos gi3, iN_nat (show 2 ^ l < 2147483648 by omega), iN_nat (show s ^^^ 2 ^ l < 2147483648 by omega), iN_nat (show s < 2147483648 by omega)]
  -- the set's worth
  have hv : P.1 55 (2 ^ l) + P.1 55 (s ^^^ 2 ^ l) = wS W s := by
    rw [t2 l hlpe, wS_x hls, show wS W (2 ^ l) = wrP W.L l from wtS_pow _ l1]
    by_cases hr : s ^^^ 2 ^ l = 0
    · rw [hr, hz, show wS W 0 = 0 from wtS_0 _]
      grind
    · rw [(t3 (s ^^^ 2 ^ l) (by omega) (sb_rest hu hls)).1]
      grind
  rw [hv]
  have hPs : (ab_pI (ab_pI P 55 s (wS W s)) 56 s 0).1 55 s = wS W s := by rw [pI_ne (by decide), pI_eq]
  rw [show ab_upI (ab_upI P.1 55 s (wS W s)) 56 s 0 55 s = wS W s from hPs]
  have hP55 : ∀ a, a < s → (ab_pI (ab_pI P 55 s (wS W s)) 56 s 0).1 55 a = P.1 55 a := fun a ha => by rw [pI_ne (by decide), pI_nj (by omega)]
  have hP56 : ∀ a, a < s → (ab_pI (ab_pI P 55 s (wS W s)) 56 s 0).1 56 a = P.1 56 a := fun a ha => by rw [pI_nj (by omega), pI_ne (by decide)]
  have fin : ∀ q : ab_P, (∀ a, a < s → q.1 55 a = P.1 55 a) → (∀ a, a < s → q.1 56 a = P.1 56 a) → (∀ a, s < a → q.1 55 a = P.1 55 a) → q.1 55 s = wS W s → q.1 56 s = iN (GT (wS W) s) → q.1 54 6 = P.1 54 6 → TC W (s + 1) q ∧ q.1 55 0 = 0 := fun q q1 q2 q5 q3 q4 q6 => by
    refine ⟨⟨by rw [q6]; exact t1, fun p hp => ?_, fun a ha hau => ?_⟩, by rw [q1 0 (by omega)]; exact hz⟩
    · by_cases he : 2 ^ p = s
      · rw [he, q3, ← he]
        exact wtS_pow _ (by have := ok.1.1; omega)
      · by_cases hlt : 2 ^ p < s
        · rw [q1 _ hlt]; exact t2 p hp
        · rw [q5 _ (by omega)]; exact t2 p hp
    · by_cases he : a = s
      · rw [he]; exact ⟨q3, q4⟩
      · rw [q1 a (by omega), q2 a (by omega)]; exact t3 a (by omega) hau
  by_cases hw : wS W s = 0
  · rw [if_pos hw]
    have hG := GT_eq (wt := wS W) h0 hw
    have hlow0 : mxN (gf (wS W) s) (2 ^ l) = 0 := mxN_0 (fun p hp => by
      unfold gf
      rw [if_neg (fun hg => ?_)]
      obtain ⟨g1, g2, g3⟩ := grp_sb hg
      apply g2
      rw [l2]
      apply Nat.eq_of_testBit_eq
      intro i
      rw [Nat.testBit_and, Nat.testBit_two_pow, Nat.zero_testBit]
      by_cases hi : l = i
      · rw [← hi, Nat.testBit_lt_two_pow hp]; rfl
      · rw [decide_eq_false hi, Bool.and_false])
    refine upT (fun m j (q : ab_P) => f_249_48 m (iN s) (iN (2 ^ l + j)) q) (s + 1 - 2 ^ l) (fun j q => (∀ a, a < s → q.1 55 a = P.1 55 a) ∧ (∀ a, a < s → q.1 56 a = P.1 56 a) ∧ (∀ a, s < a → q.1 55 a = P.1 55 a) ∧ q.1 55 s = wS W s ∧ q.1 56 s = iN (mxN (gf (wS W) s) (2 ^ l + j)) ∧ q.1 54 6 = P.1 54 6 ∧ fr scC P q) _ (fun m j P1 hj hi => ?_) (fun m P1 hi => ?_) N _ ⟨fun a ha => hP55 a ha, fun a ha => hP56 a ha, fun a ha => by rw [pI_ne (by decide), pI_nj (by omega)], hPs, by rw [pI_eq, Nat.add_zero, hlow0]; rfl, by rw [pI_ne (by decide), pI_ne (by decide)], (fr.I (s5x 55 s (Or.inl rfl))).tr (fr.I (s5x 56 s (Or.inr rfl)))⟩ (by omega)
    · obtain ⟨e1, e2, e5, e3, e4, e6, e7⟩ := hi
      have ha : 2 ^ l + j ≤ s := by omega
      have hig : f_304 P1 (iN (2 ^ l + j)) (iN s) = some (bI (grp (wS W) (2 ^ l + j) s)) := c_isGroup hs (by omega) (fun hsb => by
        by_cases he : 2 ^ l + j = s
        · rw [he]; exact e3
        · rw [e1 _ (by omega)]; exact (t3 _ (by omega) (sb_tr hsb hu)).1)
      show ∃ s', f_249_48 (m + 1) (iN s) (iN (2 ^ l + j)) P1 = _ ∧ _
      simp only [f_249_48, iN_lt (show s < 2147483648 by omega) (show 2 ^ l + j < 2147483648 by omega), show ¬ s < 2 ^ l + j by omega, hig, bI_0, Option.bind_some, iN_succ, iN_xor, if_pos gi3, iN_nat (show s < 2147483648 by omega), ↓reduceIte, ab_lt]
      have hst : mxN (gf (wS W) s) (2 ^ l + (j + 1)) = max (mxN (gf (wS W) s) (2 ^ l + j)) (gf (wS W) s (2 ^ l + j)) := rfl
      cases hg : grp (wS W) (2 ^ l + j) s with
      | false =>
        rw [if_pos rfl]
        refine ⟨P1, rfl, e1, e2, e5, e3, ?_, e6, e7⟩
        rw [e4, hst, show gf (wS W) s (2 ^ l + j) = 0 by unfold gf; rw [hg]; rfl, Nat.max_eq_left (by omega)]
      | true =>
        have hp := grp_pos hg
        have hgx : s ^^^ (2 ^ l + j) < 256 := by omega
        have hG8 := GT_8 (W := W) hgx
        have hm8 : mxN (gf (wS W) s) (2 ^ l + j) ≤ 100 := by
          rcases mxN_at (f := gf (wS W) s) (n := 2 ^ l + j) with e | ⟨k, k1, k2⟩
          · omega
          · rw [k2]
            unfold gf
            split
            · rename_i hgk
              have := grp_pos hgk
              have := GT_8 (W := W) (n0 := s ^^^ k) (by omega)
              omega
            · omega
        rw [if_neg (by decide), if_pos (iN_gi hgx (by omega)), iN_nat (by omega)]
        have hr : P1.1 56 (s ^^^ (2 ^ l + j)) = iN (GT (wS W) (s ^^^ (2 ^ l + j))) := by
          rw [e2 _ (by omega)]
          exact (t3 _ (by omega) (sb_rest hu (grp_sb hg).1)).2
        rw [hr, e4, iN_lit 1, iN_add, mx_iN (by omega) (by omega)]
        refine ⟨_, rfl, fun a ha => ?_, fun a ha => ?_, fun a ha => ?_, ?_, ?_, ?_, e7.tr (fr.I (s5x 56 s (Or.inr rfl)))⟩
        · rw [pI_ne (by decide)]; exact e1 a ha
        · rw [pI_nj (by omega)]; exact e2 a ha
        · rw [pI_ne (by decide)]; exact e5 a ha
        · rw [pI_ne (by decide)]; exact e3
        · rw [pI_eq, hst]
          unfold gf
          rw [if_pos hg]
        · rw [pI_ne (by decide)]; exact e6
    · obtain ⟨e1, e2, e5, e3, e4, e6, e7⟩ := hi
      have he : 2 ^ l + (s + 1 - 2 ^ l) = s + 1 := by omega
      rw [he] at e4
      simp only [he, f_249_48, iN_lt (show s < 2147483648 by omega) (show s + 1 < 2147483648 by omega), show s < s + 1 by omega, ↓reduceIte]
      obtain ⟨f1, f2⟩ := fin P1 e1 e2 e5 e3 (by rw [e4, hG]) e6
      exact TT_some ⟨f1, f2, e7⟩
  · rw [if_neg hw]
    obtain ⟨f1, f2⟩ := fin (ab_pI (ab_pI P 55 s (wS W s)) 56 s 0) hP55 hP56 (fun a ha => by rw [pI_ne (by decide), pI_nj (by omega)]) hPs (by rw [pI_eq, GT_z (Or.inr hw)]; rfl) (by rw [pI_ne (by decide), pI_ne (by decide)])
    exact TT_some ⟨f1, f2, (fr.I (s5x 55 s (Or.inl rfl))).tr (fr.I (s5x 56 s (Or.inr rfl)))⟩
end GR
