/-! bits of longs; sums of some -/
def bt (x : Int64) (j : Nat) : Bool := x.toBitVec.getLsbD j
theorem bt_or (x y : Int64) (j : Nat) : bt (x ||| y) j = (bt x j || bt y j) := by
  unfold bt
  rw [Int64.toBitVec_or, BitVec.getLsbD_or]
theorem bt_shl {x : Int64} {b j : Nat} (hb : b < 64) (hj : j < 64) : bt (x <<< ((iN b).toInt64 &&& 63)) j = (decide (b ≤ j) && bt x (j - b)) := by
  unfold bt
  rw [l63 b hb, Int64.toBitVec_shiftLeft, lsm b hb, BitVec.shiftLeft_eq', BitVec.getLsbD_shiftLeft, BitVec.toNat_ofNat, Nat.mod_eq_of_lt (by omega)]
  by_cases h : b ≤ j
  · simp [h, hj, Nat.not_lt.mpr h]
  · simp [h, Nat.not_le.mp h]
theorem u63 : ∀ k, k < 64 → ((iN k).toInt64.toUInt64 &&& Int64.toUInt64 63) = UInt64.ofNat k := by decide +kernel
theorem u64m : ∀ k, k < 64 → ((UInt64.ofNat k).toBitVec % 64) = BitVec.ofNat 64 k := by decide +kernel
theorem bt_ushr {x : Int64} {b j : Nat} (hb : b < 64) : bt ((x.toUInt64 >>> ((iN b).toInt64.toUInt64 &&& Int64.toUInt64 63)).toInt64) j = bt x (b + j) := by
  unfold bt
  rw [u63 b hb]
  show (x.toUInt64 >>> UInt64.ofNat b).toBitVec.getLsbD j = _
  rw [UInt64.toBitVec_shiftRight, u64m b hb]
  show (x.toBitVec >>> BitVec.ofNat 64 b).getLsbD j = _
  rw [BitVec.ushiftRight_eq', BitVec.getLsbD_ushiftRight, BitVec.toNat_ofNat, Nat.mod_eq_of_lt (by omega)]
theorem bt_one (x : Int64) : ((x &&& 1) = 0) = (bt x 0 = false) := by
  apply propext
  unfold bt
  rw [← Int64.toBitVec_inj, Int64.toBitVec_and]
  show x.toBitVec &&& 1#64 = 0#64 ↔ _
  constructor
  · intro h
    have := congrArg (fun y => y.getLsbD 0) h
    simpa using this
  · intro h
    apply BitVec.eq_of_getLsbD_eq
    intro i hi
    rw [BitVec.getLsbD_and]
    by_cases h0 : i = 0
    · subst h0; rw [h]; simp
    · simp [BitVec.getLsbD_one, h0]
theorem bt_0 (j : Nat) : bt 0 j = false := by
  unfold bt
  show (0#64).getLsbD j = false
  simp
theorem bt_1 (j : Nat) : bt 1 j = decide (j = 0) := by
  unfold bt
  show (1#64).getLsbD j = _
  rw [BitVec.getLsbD_one]
  by_cases h : j = 0 <;> simp [h]
theorem bt_hi (x : Int64) {j : Nat} (h : 64 ≤ j) : bt x j = false := by
  unfold bt
  exact BitVec.getLsbD_of_ge _ _ h
/-! sums of some -/
def SS (el : Nat → Bool) (z : Nat → Nat) : Nat → Nat → Bool
  | 0, s => decide (s = 0)
  | n + 1, s => SS el z n s || (el n && decide (z n ≤ s) && SS el z n (s - z n))
def TS (el : Nat → Bool) (z : Nat → Nat) : Nat → Nat
  | 0 => 0
  | n + 1 => TS el z n + (if el n then z n else 0)
theorem SS_le {el : Nat → Bool} {z : Nat → Nat} : ∀ {n s : Nat}, SS el z n s = true → s ≤ TS el z n
  | 0, s, h => by
    have : s = 0 := by simpa [SS] using h
    omega
  | n + 1, s, h => by
    unfold SS at h
    rw [Bool.or_eq_true, Bool.and_eq_true, Bool.and_eq_true, decide_eq_true_eq] at h
    unfold TS
    rcases h with h | ⟨⟨h1, h2⟩, h3⟩
    · have := SS_le h
      omega
    · have := SS_le h3
      rw [h1]
      simp only [if_true]
      omega
theorem SS_0 {el : Nat → Bool} {z : Nat → Nat} : ∀ n, SS el z n 0 = true
  | 0 => rfl
  | n + 1 => by
    unfold SS
    rw [SS_0 n]
    rfl
theorem SS_T {el : Nat → Bool} {z : Nat → Nat} : ∀ n, SS el z n (TS el z n) = true
  | 0 => rfl
  | n + 1 => by
    unfold SS TS
    cases h : el n with
    | false => simp [SS_T n]
    | true => simp [SS_T n]
theorem SS_near {el : Nat → Bool} {z : Nat → Nat} : ∀ {n a : Nat}, (∀ k, k < n → el k = true → z k ≤ 9999) → a ≤ TS el z n → ∃ s, SS el z n s = true ∧ a ≤ s ∧ s ≤ a + 9998
  | 0, a, _, h => ⟨0, rfl, by simpa [TS] using h, by omega⟩
  | n + 1, a, hz, h => by
    by_cases h1 : a ≤ TS el z n
    · obtain ⟨s, h2, h3, h4⟩ := SS_near (fun k hk => hz k (by omega)) h1
      exact ⟨s, by unfold SS; rw [h2]; rfl, h3, h4⟩
    · refine ⟨TS el z (n + 1), SS_T _, h, ?_⟩
      unfold TS at h ⊢
      cases he : el n with
      | false => rw [he] at h; simp at h; omega
      | true =>
        have := hz n (by omega) he
        simp only [if_true]
        omega
theorem iN_sh6 {z : Nat} (h : z < 2147483648) : iN z >>> ((6 : Int32) &&& 31) = iN (z / 64) := by
  rw [show ((6 : Int32) &&& 31) = iN 6 by decide, iN_shr h (by decide), Nat.shiftRight_eq_div_pow]
theorem iN_a63 (z : Nat) : iN z &&& (63 : Int32) = iN (z % 64) := by
  rw [show (63 : Int32) = iN (2 ^ 6 - 1) from rfl, iN_and, Nat.and_two_pow_sub_one_eq_mod]
def RB (el : Nat → Bool) (z : Nat → Nat) (n : Nat) (P : ab_P) : Prop := ∀ w, w < 313 → ∀ j, j < 64 → bt (P.2.1 50 w) j = SS el z n (64 * w + j)
section SUM
variable {W : WO} {P : ab_P} {N n0 k : Nat} {p : Int32} {el : Nat → Bool} {z : Nat → Nat}
theorem SS_y {n s : Nat} (he : el n = true) : SS el z (n + 1) s = (SS el z n s || (decide (z n ≤ s) && SS el z n (s - z n))) := by
  show (SS el z n s || (el n && decide (z n ≤ s) && SS el z n (s - z n))) = _
  rw [he, Bool.true_and]
theorem c_further {top n : Nat} (he : el n = true) (h1 : 1 ≤ z n) (h9 : z n ≤ 9999) (ht : top < 313) (hz : z n / 64 ≤ top) (hR : RB el z n P) (hi : ∀ w, top < w → w < 313 → ∀ j, j < 64 → SS el z (n + 1) (64 * w + j) = SS el z n (64 * w + j)) (hN : 70000 ≤ N) : TT (f_344 N (iN (z n)) (iN top) P) (fun q => RB el z (n + 1) q ∧ fr (fun b _ => b = 50) P q) := by
  unfold f_344
  rw [iN_sh6 (by omega), iN_a63]
  have hb : z n % 64 < 64 := Nat.mod_lt _ (by decide)
  have hzz : z n = 64 * (z n / 64) + z n % 64 := by omega
  rw [show iN top = iN (top + 1 - 0) - 1 from (iN_pm top).symm]
  refine upT (fun m i (s : ab_P) => f_344_14 m (iN (z n / 64)) (iN (z n % 64)) (iN (top + 1 - i) - 1) s) (top + 1 - z n / 64) (fun i q => (∀ w, w < 313 → ∀ j, j < 64 → bt (q.2.1 50 w) j = SS el z (if top + 1 - i ≤ w then n + 1 else n) (64 * w + j)) ∧ fr (fun b _ => b = 50) P q) _ (fun m i P1 hi' hI => ?_) (fun m P1 hI => ?_) N P ⟨fun w hw j hj => ?_, fr.rf⟩ (by omega)
  · obtain ⟨e1, e2⟩ := hI
    have hx : iN (top + 1 - i) - 1 = iN (top - i) := by
      rw [iN_lit 1, iN_sub (by omega)]; congr 1; omega
    have hlow : iN (top - i) - iN (z n / 64) = iN (top - i - z n / 64) := iN_sub (by omega)
    have hnx : iN (top - i) + (-1) = iN (top + 1 - (i + 1)) - 1 := by
      rw [i_m1]; congr 2; omega
    have old : ∀ w, w ≤ top - i → ∀ j, j < 64 → bt (P1.2.1 50 w) j = SS el z n (64 * w + j) := fun w hw j hj => by
      rw [e1 w (by omega) j hj, if_neg (by omega)]
    have wr : ∀ v, (∀ j, j < 64 → bt v j = SS el z (n + 1) (64 * (top - i) + j)) → (∀ w, w < 313 → ∀ j, j < 64 → bt ((ab_pL P1 50 (top - i) v).2.1 50 w) j = SS el z (if top + 1 - (i + 1) ≤ w then n + 1 else n) (64 * w + j)) ∧ fr (fun b _ => b = 50) P (ab_pL P1 50 (top - i) v) := fun v hv => by
      refine ⟨fun w hw j hj => ?_, e2.tr (fr.L rfl)⟩
      show bt (ab_upL P1.2.1 50 _ _ 50 w) j = _
      rw [uL_at]
      by_cases hwt : w = top - i
      · rw [if_pos ⟨rfl, hwt⟩, if_pos (by omega), hwt]
        exact hv j hj
      · rw [if_neg (fun e => hwt e.2), e1 w hw j hj]
        by_cases hc : top + 1 - i ≤ w
        · rw [if_pos hc, if_pos (by omega)]
        · rw [if_neg hc, if_neg (by omega)]
    show ∃ s', f_344_14 (m + 1) (iN (z n / 64)) (iN (z n % 64)) (iN (top + 1 - i) - 1) P1 = _ ∧ _
    rw [hx]
    simp only [f_344_14, iN_lt (show top - i < 2147483648 by omega) (show z n / 64 < 2147483648 by omega), show ¬ top - i < z n / 64 by omega, iN_ltl (show top - i < 2147483648 by omega) (show 313 < 2147483648 by decide), show top - i < 313 by omega, iN_neg (show z n / 64 < 2147483648 by omega), hlow, iN_gT (show top - i - z n / 64 < 313 by omega) (show 313 ≤ 2147483648 by decide), iN_gT (show top - i < 313 by omega) (show 313 ≤ 2147483648 by decide), iN_lll (show z n % 64 < 2147483648 by omega) (show 0 < 2147483648 by decide), iN_lll (show top - i - z n / 64 < 2147483648 by omega) (show 0 < 2147483648 by decide), iN_nat (show top - i < 2147483648 by omega), iN_nat (show top - i - z n / 64 < 2147483648 by omega), hnx, ab_lt, ↓reduceIte]
    -- with the low word alone
    have one : (top - i - z n / 64 = 0 ∨ z n % 64 = 0) → ∀ j, j < 64 → bt (P1.2.1 50 (top - i) ||| P1.2.1 50 (top - i - z n / 64) <<< ((iN (z n % 64)).toInt64 &&& 63)) j = SS el z (n + 1) (64 * (top - i) + j) := fun hor j hj => by
      rw [bt_or, bt_shl hb hj, old _ (Nat.le_refl _) j hj, SS_y he]
      by_cases hbj : z n % 64 ≤ j
      · rw [old _ (by omega) (j - z n % 64) (by omega)]
        have : 64 * (top - i) + j - z n = 64 * (top - i - z n / 64) + (j - z n % 64) := by omega
        rw [this, decide_eq_true hbj, decide_eq_true (by omega : z n ≤ 64 * (top - i) + j)]
      · rw [decide_eq_false hbj, decide_eq_false (by omega : ¬ z n ≤ 64 * (top - i) + j)]
        simp
    by_cases hb0 : 0 < z n % 64
    · rw [if_pos hb0]
      by_cases hl0 : 0 < top - i - z n / 64
      · have h1' : iN (top - i - z n / 64) - 1 = iN (top - i - z n / 64 - 1) := by rw [iN_lit 1, iN_sub (by omega)]
        have h64 : (64 : Int32) - iN (z n % 64) = iN (64 - z n % 64) := by rw [iN_lit 64, iN_sub (by omega)]
        rw [if_pos hl0]
        simp only [h1', h64, iN_gT (show top - i - z n / 64 - 1 < 313 by omega) (show 313 ≤ 2147483648 by decide), iN_nat (show top - i - z n / 64 - 1 < 2147483648 by omega), ↓reduceIte]
        refine ⟨_, rfl, wr _ (fun j hj => ?_)⟩
        rw [bt_or, bt_or, bt_shl hb hj, bt_ushr (by omega), old _ (Nat.le_refl _) j hj, SS_y he, decide_eq_true (by omega : z n ≤ 64 * (top - i) + j), Bool.true_and]
        by_cases hbj : z n % 64 ≤ j
        · rw [old _ (by omega) (j - z n % 64) (by omega), bt_hi _ (by omega), decide_eq_true hbj]
          have : 64 * (top - i) + j - z n = 64 * (top - i - z n / 64) + (j - z n % 64) := by omega
          rw [this]
          simp
        · rw [decide_eq_false hbj, old _ (by omega) (64 - z n % 64 + j) (by omega)]
          have : 64 * (top - i) + j - z n = 64 * (top - i - z n / 64 - 1) + (64 - z n % 64 + j) := by omega
          rw [this]
          simp
      · rw [if_neg hl0]
        exact ⟨_, rfl, wr _ (one (Or.inl (by omega)))⟩
    · rw [if_neg hb0]
      exact ⟨_, rfl, wr _ (one (Or.inr (by omega)))⟩
  · obtain ⟨e1, e2⟩ := hI
    have hend : iN (top + 1 - (top + 1 - z n / 64)) - 1 < iN (z n / 64) := by
      have : top + 1 - (top + 1 - z n / 64) = z n / 64 := by omega
      rw [this]
      rw [Int32.lt_iff_toInt_lt, iN_toInt (by omega), i_sub (by rw [iN_toInt (by omega)]; show (-2147483648 : Int) ≤ _ - 1; omega) (by rw [iN_toInt (by omega)]; show (_ - 1 : Int) < _; omega), iN_toInt (by omega)]
      show (_ - 1 : Int) < _
      omega
    simp only [f_344_14, hend, ↓reduceIte]
    refine TT_some ⟨fun w hw j hj => ?_, e2⟩
    rw [e1 w hw j hj]
    split
    · rfl
    · rename_i hc
      rw [SS_y he, decide_eq_false (by omega)]
      simp
  · rw [hR w hw j hj]
    split
    · exact (hi w (by omega) hw j hj).symm
    · rfl
def elP (L : LG) (p : Int32) (k : Nat) : Bool := stL L k && decide (L.1 1 k = p)
/-- the sums one can make; all together -/
def sSS (L : LG) (p : Int32) (s : Nat) : Bool := SS (elP L p) (szP L) L.2.1 s
def sTS (L : LG) (p : Int32) : Nat := TS (elP L p) (szP L) L.2.1
theorem TS_le (h : ∀ k, el k = true → z k ≤ 9999) : ∀ n, TS el z n ≤ 9999 * n
  | 0 => Nat.le_refl 0
  | n + 1 => by
    have := TS_le h n
    unfold TS
    cases he : el n with
    | false => simp; omega
    | true =>
      have := h n he
      simp only [if_true]
      omega
theorem el_sz {k : Nat} (ok : OK W) (h : elP W.L p k = true) : szP W.L k ≤ 9999 := by
  unfold elP at h
  rw [Bool.and_eq_true] at h
  exact (ok.1.sz (stL_lt h.1)).2.2
theorem TSP_le (ok : OK W) (k : Nat) : TS (elP W.L p) (szP W.L) k ≤ 9999 * k := TS_le (fun _ e => el_sz ok e) k
theorem sTS_le (h40 : W.L.2.1 ≤ 40) (ok : OK W) : sTS W.L p ≤ 399960 := by
  have := TSP_le (p := p) ok W.L.2.1
  unfold sTS
  omega
theorem s50 : ∀ b j : Nat, b = 50 → scC b j := fun b j h => by unfold scC; omega
theorem c_reach (h : CW W P) (ok : OK W) (hN : 70000 ≤ N) : TT (f_301 N p P) (fun q => q.1 = iN (sTS W.L p) ∧ RB (elP W.L p) (szP W.L) W.L.2.1 q.2 ∧ fr scC P q.2) := by
  have h40 := h.c.m40
  unfold f_301 f_343_313
  have fill : TT (f_343_313_6 N 0 0 313 P) (fun q => (∀ s, s < 313 → q.2.1 50 s = 0) ∧ fr scC P q) := by
    refine upT (fun n k (s : ab_P) => f_343_313_6 n 0 (iN k) 313 s) 313 (fun k q => (∀ s, s < k → q.2.1 50 s = 0) ∧ fr scC P q) _ (fun n k P1 hk hi => ?_) (fun n P1 hi => ?_) N P ⟨fun s hs => absurd hs (Nat.not_lt_zero _), fr.rf⟩ (by omega)
    · obtain ⟨e1, e2⟩ := hi
      show ∃ s', f_343_313_6 (n + 1) 0 (iN k) 313 P1 = _ ∧ _
      simp only [f_343_313_6, iN_ltl (show k < 2147483648 by omega) (show 313 < 2147483648 by decide), hk, iN_gT hk (show 313 ≤ 2147483648 by decide), iN_nat (show k < 2147483648 by omega), iN_succ, ab_lt, ↓reduceIte]
      refine ⟨_, rfl, fun s hs => ?_, e2.tr (fr.L (s50 50 k rfl))⟩
      show ab_upL P1.2.1 50 _ _ 50 s = _
      rw [uL_at]
      split
      · rfl
      · exact e1 s (by omega)
    · obtain ⟨e1, e2⟩ := hi
      simp only [f_343_313_6, iN_ltl (show 313 < 2147483648 by omega) (show 313 < 2147483648 by decide), Nat.lt_irrefl, ↓reduceIte]
      exact TT_some ⟨e1, e2⟩
  refine TT_bind fill (fun P1 hf => TT_lt ?_)
  have hf2 : fr scC P (ab_pL P1 50 0 1) := hf.2.tr (fr.L (s50 50 0 rfl))
  refine upT (fun n k (s : Int32 × ab_P) => f_301_19 N n p s.1 (iN k) s.2) W.L.2.1 (fun k s => s.1 = iN (TS (elP W.L p) (szP W.L) k) ∧ RB (elP W.L p) (szP W.L) k s.2 ∧ fr scC P s.2) _ (fun n k s hk hi => ?_) (fun n s hi => ?_) N (0, ab_pL P1 50 0 1) ⟨rfl, fun w hw j hj => ?_, hf2⟩ (by omega)
  · obtain ⟨x, P2⟩ := s
    obtain ⟨e1, e2, e3⟩ := hi
    dsimp only at e1 e2 e3
    have g := h.fr e3
    obtain ⟨z1, z2, z3⟩ := ok.1.sz hk
    have hT := TSP_le (p := p) ok k
    show ∃ s', f_301_19 N (n + 1) p x (iN k) P2 = _ ∧ _
    simp only [f_301_19, c_more g.c hk, c_stand g.c (show k < 2147483648 by omega), c_get1 g.c hk, c_get2 g.c hk, bI_0, Option.bind_some, iN_succ, z1, ↓reduceIte]
    have stay : elP W.L p k = false → TS (elP W.L p) (szP W.L) (k + 1) = TS (elP W.L p) (szP W.L) k ∧ RB (elP W.L p) (szP W.L) (k + 1) P2 := fun he => by
      refine ⟨by simp [TS, he], fun w hw j hj => ?_⟩
      rw [e2 w hw j hj]
      simp [SS, he]
    by_cases hs : stL W.L k = false
    · rw [if_pos hs]
      have := stay (by simp [elP, hs])
      exact ⟨(x, P2), rfl, by rw [this.1]; exact e1, this.2, e3⟩
    · rw [if_neg hs]
      have hs : stL W.L k = true := by simpa using hs
      by_cases hp : W.L.1 1 k = p
      · rw [if_pos hp, e1, iN_add]
        have he : elP W.L p k = true := by simp [elP, hs, hp]
        have hTS : TS (elP W.L p) (szP W.L) (k + 1) = TS (elP W.L p) (szP W.L) k + szP W.L k := by simp [TS, he]
        rw [← hTS]
        have hT1 := TSP_le (p := p) ok (k + 1)
        have htop : ab_mn (iN (TS (elP W.L p) (szP W.L) (k + 1)) / (64 : Int32)) 312 = iN (if 312 < TS (elP W.L p) (szP W.L) (k + 1) / 64 then 312 else TS (elP W.L p) (szP W.L) (k + 1) / 64) := by
          rw [iN_lit 64, iN_div (by omega) (by decide) (by decide)]
          unfold ab_mn
          rw [iN_lit 312]
          by_cases h3 : 312 < TS (elP W.L p) (szP W.L) (k + 1) / 64
          · rw [if_pos h3, if_pos (by rw [iN_lt (by decide) (by omega)]; exact h3)]
          · rw [if_neg h3, if_neg (by rw [iN_lt (by decide) (by omega)]; exact h3)]
        rw [htop]
        obtain ⟨P3, k1, k2, k3⟩ := c_further (el := elP W.L p) (z := szP W.L) (n := k) (P := P2) (top := if 312 < TS (elP W.L p) (szP W.L) (k + 1) / 64 then 312 else TS (elP W.L p) (szP W.L) (k + 1) / 64) he z2 z3 (by split <;> omega) (by split <;> omega) e2 (fun w h1 h2 j hj => by
          have hbig : TS (elP W.L p) (szP W.L) (k + 1) < 64 * w + j := by
            split at h1
            · omega
            · omega
          have f1 : SS (elP W.L p) (szP W.L) (k + 1) (64 * w + j) = false := by
            cases hc : SS (elP W.L p) (szP W.L) (k + 1) (64 * w + j) with
            | false => rfl
            | true => exact absurd (SS_le hc) (by omega)
          have f2 : SS (elP W.L p) (szP W.L) k (64 * w + j) = false := by
            cases hc : SS (elP W.L p) (szP W.L) k (64 * w + j) with
            | false => rfl
            | true => exact absurd (SS_le hc) (by omega)
          rw [f1, f2]) hN
        rw [k1, Option.bind_some]
        exact ⟨(_, P3), rfl, rfl, k2, e3.tr (k3.mono s50)⟩
      · rw [if_neg hp]
        have := stay (by simp [elP, hp])
        exact ⟨(x, P2), rfl, by rw [this.1]; exact e1, this.2, e3⟩
  · obtain ⟨x, P2⟩ := s
    obtain ⟨e1, e2, e3⟩ := hi
    dsimp only at e1 e2 e3
    simp only [f_301_19, c_end (h.fr e3).c, ↓reduceIte]
    exact TT_some ⟨e1, e2, e3⟩
  · show bt (ab_upL P1.2.1 50 _ _ 50 w) j = decide (64 * w + j = 0)
    rw [uL_at]
    by_cases h0 : w = 0
    · rw [if_pos ⟨rfl, h0⟩, bt_1]
      subst h0
      simp
    · rw [if_neg (fun e => h0 e.2), hf.1 w hw, bt_0, decide_eq_false (by omega)]
theorem c_can (h : RB el z n0 P) {s : Nat} (hs : s < 20032) : f_302 P (iN s) = some (bI (SS el z n0 s)) := by
  unfold f_302
  rw [if_neg (by rw [iN_neg (by omega)]; exact id), if_pos (by rw [iN_ltl (by omega) (by decide)]; exact hs), iN_sh6 (by omega), iN_a63, if_pos (iN_gi (by omega) (by omega)), iN_nat (by omega)]
  have e := h (s / 64) (by omega) (s % 64) (Nat.mod_lt _ (by decide))
  rw [show 64 * (s / 64) + s % 64 = s by omega] at e
  have hz : (lg_cmp ((((P.2.1 50 (s / 64))).toUInt64 >>> (((iN (s % 64))).toInt64.toUInt64 &&& Int64.toUInt64 63)).toInt64 &&& (1 : Int64)) (0 : Int64) = 0) = (SS el z n0 s = false) := by
    rw [← e]
    apply propext
    rw [lg_cmp_eq, bt_one, bt_ushr (Nat.mod_lt _ (by decide))]
    exact Iff.rfl
  cases hc : SS el z n0 s with
  | false => rw [if_pos (by rw [hz]; exact hc)]; rfl
  | true => rw [if_neg (by rw [hz, hc]; decide)]; rfl
end SUM
