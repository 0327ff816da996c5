/-! deeds -/
section WFs
variable {pe : Nat} {L : LG} {k f j : Nat} {v x : Int32}
theorem WF_set0 (h : WF pe L) (h0 : f ≠ 0) (h1 : f ≠ 1) (h2 : f ≠ 2) (h6 : f ≠ 6) : WF pe (lSet L f k v) := by
  refine ⟨h.1, fun k' hk' => ?_⟩
  have := h.2 k' hk'
  unfold lSet
  dsimp only
  rw [if_neg (fun e => h0 e.1.symm), if_neg (fun e => h1 e.1.symm), if_neg (fun e => h2 e.1.symm), if_neg (fun e => h6 e.1.symm)]
  exact this
theorem WF_set1 (h : WF pe L) {b : Nat} (hb : b < pe) : WF pe (lSet L 1 k (iN b)) := by
  refine ⟨h.1, fun k' hk' => ?_⟩
  have := h.2 k' hk'
  unfold lSet
  dsimp only
  rw [if_neg (fun e => by cases e.1), if_neg (fun e : 2 = 1 ∧ k' = k => by cases e.1), if_neg (fun e : 6 = 1 ∧ k' = k => by cases e.1)]
  refine ⟨this.1, ?_, this.2.2⟩
  by_cases hk : k' = k
  · rw [if_pos ⟨rfl, hk⟩]; exact ⟨b, hb, rfl⟩
  · rw [if_neg (fun e => hk e.2)]; exact this.2.1
theorem WF_set2 (h : WF pe L) {z : Nat} (h1 : 1 ≤ z) (h9 : z ≤ 9999) : WF pe (lSet L 2 k (iN z)) := by
  refine ⟨h.1, fun k' hk' => ?_⟩
  have := h.2 k' hk'
  unfold lSet
  dsimp only
  rw [if_neg (fun e => by cases e.1), if_neg (fun e : 1 = 2 ∧ k' = k => by cases e.1), if_neg (fun e : 6 = 2 ∧ k' = k => by cases e.1)]
  refine ⟨this.1, this.2.1, ?_, this.2.2.2⟩
  by_cases hk : k' = k
  · rw [if_pos ⟨rfl, hk⟩]; exact ⟨z, h1, h9, rfl⟩
  · rw [if_neg (fun e => hk e.2)]; exact this.2.2.1
theorem WF_tot (h : WF pe L) : WF pe (lTot L j x) := h
theorem WF_push (h : WF pe L) {c : Nat → Int32} (h0 : ∃ a, a < pe ∧ c 0 = iN a) (h1 : ∃ a, a < pe ∧ c 1 = iN a) (h2 : ∃ z, 1 ≤ z ∧ z ≤ 9999 ∧ c 2 = iN z) (h6 : c 6 = 0 ∨ c 6 = 1) : WF pe (lPush L c) := by
  refine ⟨h.1, fun k' hk' => ?_⟩
  have hk' : k' < L.2.1 + 1 := hk'
  unfold lPush
  dsimp only
  by_cases hk : k' = L.2.1
  · rw [if_pos hk, if_pos hk, if_pos hk, if_pos hk]
    exact ⟨h0, h1, h2, h6⟩
  · rw [if_neg hk, if_neg hk, if_neg hk, if_neg hk]
    exact h.2 k' (by omega)
theorem WF_add (h : WF pe L) {on ho sz tr : Int32} (h0 : ∃ a, a < pe ∧ on = iN a) (h1 : ∃ a, a < pe ∧ ho = iN a) (h2 : ∃ z, 1 ≤ z ∧ z ≤ 9999 ∧ sz = iN z) (h6 : tr = 0 ∨ tr = 1) : WF pe (sAdd L on ho sz tr) := by
  unfold sAdd
  split
  · exact WF_tot (WF_push h h0 h1 h2 h6)
  · exact h
theorem WF_gone (h : WF pe L) {t : Nat} : WF pe (sGone L k t) := by
  unfold sGone
  split
  · exact WF_tot (WF_set0 h (by decide) (by decide) (by decide) (by decide))
  · exact WF_set0 h (by decide) (by decide) (by decide) (by decide)
theorem WF_pass (h : WF pe L) {b : Nat} (hb : b < pe) : WF pe (sPass L k b) := by
  have h2 : WF pe (lSet (lSet L 1 k (iN b)) 4 k (L.1 4 k + 1)) := WF_set0 (WF_set1 h hb) (by decide) (by decide) (by decide) (by decide)
  unfold sPass
  split
  · exact WF_gone h2
  · exact h2
theorem WF_split (h : WF pe L) (hk : k < L.2.1) {n : Nat} (h1 : 1 ≤ n) (hn : n < 1000) (hlt : iN n < L.1 2 k) : WF pe (sSplit L k (iN n)) := by
  obtain ⟨z1, z2, z3⟩ := h.sz hk
  rw [z1, iN_lt (by omega) (by omega)] at hlt
  have hw := h.2 k hk
  unfold sSplit
  refine WF_push (WF_set2 h h1 (by omega)) ?_ ?_ ?_ ?_
  · exact hw.1
  · exact hw.2.1
  · refine ⟨szP L k - n, by omega, by omega, ?_⟩
    show L.1 2 k - iN n = _
    rw [z1, iN_sub (by omega)]
  · exact hw.2.2.2
theorem WF_join (h : WF pe L) (hk : k < L.2.1) (hy : jOk L k j = true) : WF pe (sJoin L k j) := by
  unfold jOk at hy
  simp only [Bool.and_eq_true, Bool.not_eq_true', decide_eq_true_eq, decide_eq_false_iff_not] at hy
  obtain ⟨⟨⟨⟨a1, _⟩, _⟩, _⟩, a5⟩ := hy
  obtain ⟨z1, z2, z3⟩ := h.sz hk
  obtain ⟨y1, y2, y3⟩ := h.sz (stL_lt a1)
  rw [z1, y1, iN_add, iN_lll (by omega) (by decide)] at a5
  unfold sJoin
  rw [z1, y1, iN_add]
  have a5' : ¬ 9999 < szP L k + szP L j := a5
  exact WF_gone (WF_set2 h (by omega) (by omega))
theorem WF_tell (h : WF pe L) (hk : k < L.2.1) {it : Nat} : WF pe (sTell L k it) := by
  obtain ⟨z1, z2, z3⟩ := h.sz hk
  have g1 := gN_le it (szP L k)
  have g2 := gN_ge (it := it) z3
  unfold sTell
  exact WF_set0 (WF_set0 (WF_set2 (WF_tot h) (by omega) (by omega)) (by decide) (by decide) (by decide) (by decide)) (by decide) (by decide) (by decide) (by decide)
end WFs
/-! which bits pay -/
theorem FW_bits {ok : Nat → Bool} {sz : Nat → Nat} {m : Nat} : ∀ {d s c x : Nat}, d ≤ m → FW ok sz m d s = some (c, x) → (∃ y, x = 2 ^ (m - d) * y) ∧ ∀ k, x.testBit k = true → ok k = true ∧ k < m
  | 0, s, c, x, _, h => by
    unfold FW at h
    split at h
    · cases h
      exact ⟨⟨0, rfl⟩, fun k hk => by simp at hk⟩
    · cases h
  | d + 1, s, c, x, hd, h => by
    have hp := pow_step hd
    have old : ∀ {c x : Nat}, FW ok sz m d s = some (c, x) → (∃ y, x = 2 ^ (m - (d + 1)) * y) ∧ ∀ k, x.testBit k = true → ok k = true ∧ k < m := fun e => by
      obtain ⟨⟨y, hy⟩, h2⟩ := FW_bits (by omega) e
      refine ⟨⟨2 * y, ?_⟩, h2⟩
      rw [hy, hp, ← Nat.mul_assoc, Nat.mul_comm _ 2, Nat.two_mul]
    unfold FW at h
    split at h
    · rename_i hc
      rcases cmb_cases (m - (d + 1)) (FW ok sz m d (s - sz (m - (d + 1)))) (FW ok sz m d s) with e | ⟨c1, b1, e1, e2⟩
      · rw [e] at h
        exact old h
      · rw [e2] at h
        cases h
        obtain ⟨⟨y, hy⟩, h2⟩ := FW_bits (by omega) e1
        have hx : b1 + 2 ^ (m - (d + 1)) = 2 ^ (m - (d + 1)) * (2 * y + 1) := by
          rw [hy, hp, Nat.mul_add, Nat.mul_one, ← Nat.mul_assoc, Nat.mul_comm _ 2, Nat.two_mul]
        refine ⟨⟨2 * y + 1, hx⟩, fun k hk => ?_⟩
        rw [hx, Nat.testBit_two_pow_mul] at hk
        rw [Bool.and_eq_true, decide_eq_true_eq] at hk
        by_cases hkk : k = m - (d + 1)
        · rw [hkk]; exact ⟨hc.1, by omega⟩
        · obtain ⟨t, ht⟩ : ∃ t, k - (m - (d + 1)) = t + 1 := ⟨k - (m - (d + 1)) - 1, by omega⟩
          have h3 := hk.2
          rw [ht, tb_2q1] at h3
          refine h2 k ?_
          rw [hy, Nat.testBit_two_pow_mul, Bool.and_eq_true, decide_eq_true_eq]
          exact ⟨by omega, by rw [show k - (m - d) = t by omega]; exact h3⟩
    · exact old h
theorem sPay_bits {L : LG} {a b : Int32} {n k : Nat} (h : (sPay L a b n).testBit k = true) : okP L a b k = true ∧ k < L.2.1 := by
  unfold sPay at h
  split at h
  · simp at h
  · rename_i c x hx
    exact (FW_bits (Nat.le_refl _) hx).2 k h
theorem sPay_lt {L : LG} (hm : L.2.1 ≤ 40) (a b : Int32) (n : Nat) : sPay L a b n < 1099511627776 := by
  unfold sPay
  split
  · decide
  · rename_i c x hx
    have h1 := pFW_bd hm (Nat.le_refl _) hx
    have := Nat.two_pow_pos (L.2.1 - L.2.1)
    omega
def payN (L : LG) (x b : Nat) : Nat → LG
  | 0 => L
  | k + 1 => if x.testBit k then sPass (payN L x b k) k b else payN L x b k
theorem sPass_m {L : LG} {k b : Nat} : (sPass L k b).2.1 = L.2.1 := by
  unfold sPass sGone
  split <;> rfl
theorem sPass_o {L : LG} {k b f k' : Nat} (h : k' ≠ k) : (sPass L k b).1 f k' = L.1 f k' := by
  unfold sPass sGone
  split
  · show (if _ then _ else if _ then _ else if _ then _ else _) = _
    rw [if_neg (fun e => h e.2), if_neg (fun e => h e.2), if_neg (fun e => h e.2)]
  · show (if _ then _ else if _ then _ else _) = _
    rw [if_neg (fun e => h e.2), if_neg (fun e => h e.2)]
theorem payN_m {L : LG} {x b : Nat} : ∀ k, (payN L x b k).2.1 = L.2.1
  | 0 => rfl
  | k + 1 => by
    unfold payN
    split
    · rw [sPass_m]; exact payN_m k
    · exact payN_m k
theorem payN_o {L : LG} {x b f : Nat} : ∀ {k k' : Nat}, k ≤ k' → (payN L x b k).1 f k' = L.1 f k'
  | 0, _, _ => rfl
  | k + 1, k', h => by
    unfold payN
    split
    · rw [sPass_o (by omega)]; exact payN_o (by omega)
    · exact payN_o (by omega)
theorem payN_st {L : LG} {x b k : Nat} : stL (payN L x b k) k = stL L k := by
  unfold stL
  rw [payN_m, payN_o (Nat.le_refl _)]
theorem payN_WF {pe : Nat} {L : LG} {x b : Nat} (h : WF pe L) (hb : b < pe) : ∀ k, WF pe (payN L x b k)
  | 0 => h
  | k + 1 => by
    unfold payN
    split
    · exact WF_pass (payN_WF h hb k) hb
    · exact payN_WF h hb k
theorem payN_end {L : LG} {x b m : Nat} (h : ∀ k, m ≤ k → x.testBit k = false) : ∀ d, payN L x b (m + d) = payN L x b m
  | 0 => rfl
  | d + 1 => by
    show (if x.testBit (m + d) then _ else _) = _
    rw [h (m + d) (by omega)]
    exact payN_end h d
theorem bt_jN {x k : Nat} (hk : k < 64) : bt (jN x) k = x.testBit k := by
  unfold bt jN
  rw [Int64.toBitVec_ofNat', BitVec.getLsbD_ofNat, decide_eq_true hk, Bool.true_and]
section PW
variable {i : Nat} {L : LG} {P : ab_P} {k n N : Nat}
theorem c_payWith {x b : Nat} {a : Int32} (h : CL 43 L P) (hx : x < 1099511627776) (hxb : ∀ k, x.testBit k = true → okP L a (iN b) k = true ∧ k < L.2.1) (hab : a ≠ iN b) (hN : 70000 ≤ N) : TT (f_341 N (jN x) (iN b) P) (fun q => q.1 = bI (!decide (x = 0)) ∧ CL 43 (payN L x b 40) q.2 ∧ fr (sI 43) P q.2) := by
  have h40 := h.1
  unfold f_341
  refine upT (fun n k (q : ab_P) => f_341_3 n (jN x) (iN b) (iN k) q) 40 (fun k q => CL 43 (payN L x b k) q ∧ fr (sI 43) P q) _ (fun n k P1 hk hi => ?_) (fun n P1 hi => ?_) N P ⟨h, fr.rf⟩ (by omega)
  · obtain ⟨e1, e2⟩ := hi
    have hz : (lg_cmp (((jN x).toUInt64 >>> ((iN k).toInt64.toUInt64 &&& Int64.toUInt64 63)).toInt64 &&& (1 : Int64)) (0 : Int64) = 0) = (x.testBit k = false) := by
      apply propext
      rw [lg_cmp_eq, bt_one, bt_ushr (by omega), Nat.add_zero, bt_jN (by omega)]
    show ∃ s', f_341_3 (n + 1) (jN x) (iN b) (iN k) P1 = _ ∧ _
    simp only [f_341_3, iN_ltl (show k < 2147483648 by omega) (show 40 < 2147483648 by decide), hk, hz, iN_succ, ↓reduceIte]
    have hun : payN L x b (k + 1) = if x.testBit k then sPass (payN L x b k) k b else payN L x b k := rfl
    rw [hun]
    cases ht : x.testBit k with
    | false => rw [if_pos rfl]; exact ⟨P1, rfl, e1, e2⟩
    | true =>
      rw [if_neg (by decide)]
      obtain ⟨o1, o2⟩ := hxb k ht
      unfold okP at o1
      simp only [Bool.and_eq_true, Bool.not_eq_true', decide_eq_true_eq, decide_eq_false_iff_not] at o1
      obtain ⟨⟨v, P2⟩, g1, g2, g3, g4⟩ := c_give (b := b) e1 (by rw [payN_st]; exact o1.1.1) (by rw [payN_o (Nat.le_refl _), o1.1.2]; exact hab)
      rw [g1]
      exact ⟨P2, rfl, g3, e2.tr g4⟩
  · obtain ⟨e1, e2⟩ := hi
    simp only [f_341_3, iN_ltl (show 40 < 2147483648 by omega) (show 40 < 2147483648 by decide), Nat.lt_irrefl, ↓reduceIte]
    have hz : (lg_cmp (jN x) 0 = 0) = (x = 0) := by
      rw [show (0 : Int64) = jN 0 from rfl, ← jN_eq (show x < 9223372036854775808 by omega) (by decide)]
      exact propext (lg_cmp_eq _ _)
    by_cases h0 : x = 0
    · rw [if_pos (by rw [hz]; exact h0)]
      exact TT_some ⟨by simp [h0, bI], e1, e2⟩
    · rw [if_neg (by rw [hz]; exact h0)]
      exact TT_some ⟨by simp [h0, bI], e1, e2⟩
theorem r_payAll {x b : Nat} {a : Int32} (h : RL i L P) (hx : x < 1099511627776) (hxb : ∀ k, x.testBit k = true → okP L a (iN b) k = true ∧ k < L.2.1) (hN : 70000 ≤ N) : TT (f_218_366_14 i N (iN b) (jN x) 0 P) (fun q => q.1 = bI (!decide (x = 0)) ∧ RL i (payN L x b 40) q.2 ∧ fr (sE i) P q.2) := by
  have h40 := h.1
  refine upT (fun n k (q : ab_P) => f_218_366_14 i n (iN b) (jN x) (iN k) q) L.2.1 (fun k q => RL i (payN L x b k) q ∧ fr (sE i) P q) _ (fun n k P1 hk hi => ?_) (fun n P1 hi => ?_) N P ⟨h, fr.rf⟩ (by omega)
  · obtain ⟨e1, e2⟩ := hi
    have hz : (lg_cmp ((jN x >>> ((iN k).toInt64 &&& 63)) &&& (1 : Int64)) (1 : Int64) = 0) = (x.testBit k = true) := by
      apply propext
      rw [l63 k (by omega), jN_shr (by omega) (by omega), show (1 : Int64) = jN 1 from rfl, jN_and, lg_cmp_eq]
      have h1 : (x >>> k) &&& 1 ≤ 1 := Nat.and_le_right
      rw [jN_eq (by omega) (by decide)]
      have : Nat.testBit x k = (1 &&& (x >>> k) != 0) := rfl
      have hc : 1 &&& (x >>> k) = (x >>> k) &&& 1 := Nat.and_comm _ _
      rw [this, hc]
      generalize (x >>> k) &&& 1 = v at *
      rcases (show v = 0 ∨ v = 1 by omega) with rfl | rfl <;> decide
    have hmd : P1.1 i 360 = iN L.2.1 := by
      have := e1.made
      rwa [payN_m] at this
    show ∃ s', f_218_366_14 i (n + 1) (iN b) (jN x) (iN k) P1 = _ ∧ _
    simp only [f_218_366_14, hmd, iN_lt (show k < 2147483648 by omega) (show L.2.1 < 2147483648 by omega), hk, hz, iN_succ, ↓reduceIte]
    have hun : payN L x b (k + 1) = if x.testBit k then sPass (payN L x b k) k b else payN L x b k := rfl
    rw [hun]
    cases ht : x.testBit k with
    | false => rw [if_neg (by decide)]; exact ⟨P1, rfl, e1, e2⟩
    | true =>
      rw [if_pos rfl]
      obtain ⟨P2, g1, g2, g3⟩ := r_passes (k := k) e1 (by rw [payN_m]; exact hk) b
      rw [g1]
      exact ⟨P2, rfl, g2, e2.tr g3⟩
  · obtain ⟨e1, e2⟩ := hi
    have hmd : P1.1 i 360 = iN L.2.1 := by
      have := e1.made
      rwa [payN_m] at this
    have hend : payN L x b 40 = payN L x b L.2.1 := by
      have := payN_end (L := L) (x := x) (b := b) (m := L.2.1) (fun k hk => by
        cases ht : x.testBit k with
        | false => rfl
        | true => have := (hxb k ht).2; omega) (40 - L.2.1)
      rwa [show L.2.1 + (40 - L.2.1) = 40 by omega] at this
    simp only [f_218_366_14, hmd, iN_lt (show L.2.1 < 2147483648 by omega) (show L.2.1 < 2147483648 by omega), Nat.lt_irrefl, ↓reduceIte]
    have hz : (lg_cmp (jN x) 0 = 0) = (x = 0) := by
      rw [show (0 : Int64) = jN 0 from rfl, ← jN_eq (show x < 9223372036854775808 by omega) (by decide)]
      exact propext (lg_cmp_eq _ _)
    rw [hend]
    by_cases h0 : x = 0
    · rw [if_pos (by rw [hz]; exact h0)]
      exact TT_some ⟨by simp [h0, bI], e1, e2⟩
    · rw [if_neg (by rw [hz]; exact h0)]
      exact TT_some ⟨by simp [h0, bI], e1, e2⟩
end PW
