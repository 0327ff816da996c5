/-! sets as bits -/
theorem sb_down : ∀ (o s t : Nat), t &&& s = t → o &&& s = o → t < o → t ≤ (o - 1) &&& s := by
  intro o
  induction o using Nat.strongRecOn with
  | ind o ih =>
    intro s t ht ho hlt
    by_cases h1 : o % 2 = 1
    · have : (o - 1) &&& s = o - 1 := by
        apply Nat.eq_of_testBit_eq
        intro i
        rw [Nat.testBit_and]
        rcases i with _ | i
        · rw [Nat.testBit_zero, decide_eq_false (by omega)]; rfl
        · rw [Nat.testBit_succ, Nat.testBit_succ, show (o - 1) / 2 = o / 2 by omega]
          have := congrArg (fun x => x.testBit (i + 1)) ho
          simp only [Nat.testBit_succ] at this
          rw [Nat.and_div_two, Nat.testBit_and] at this
          exact this
      omega
    · have hd : (o - 1) / 2 = o / 2 - 1 := by omega
      have ht2 : t / 2 &&& s / 2 = t / 2 := by rw [← Nat.and_div_two, ht]
      have ho2 : o / 2 &&& s / 2 = o / 2 := by rw [← Nat.and_div_two, ho]
      have := ih (o / 2) (by omega) (s / 2) (t / 2) ht2 ho2 (by omega)
      rw [← hd, ← Nat.and_div_two] at this
      have hm : ((o - 1) &&& s) % 2 = s % 2 := by
        have a := Nat.testBit_and (o - 1) s 0
        rw [Nat.testBit_zero, Nat.testBit_zero, Nat.testBit_zero, decide_eq_true (by omega : (o - 1) % 2 = 1), Bool.true_and] at a
        have := decide_eq_decide.mp a
        omega
      have hm2 : t % 2 ≤ s % 2 := by
        have a := Nat.testBit_and t s 0
        rw [ht, Nat.testBit_zero, Nat.testBit_zero] at a
        by_cases h : t % 2 = 1
        · rw [decide_eq_true h, Bool.true_and] at a
          have := of_decide_eq_true a.symm
          omega
        · omega
      omega
theorem sb_iff {t s : Nat} : t &&& s = t ↔ ∀ i, t.testBit i = true → s.testBit i = true := by
  constructor
  · intro h i hi
    have := congrArg (fun x => x.testBit i) h
    simp only [Nat.testBit_and, hi, Bool.true_and] at this
    exact this
  · intro h
    apply Nat.eq_of_testBit_eq
    intro i
    rw [Nat.testBit_and]
    cases ht : t.testBit i with
    | false => rfl
    | true => rw [h i ht]; rfl
theorem sb_le {t s : Nat} (h : t &&& s = t) : t ≤ s := by rw [← h]; exact Nat.and_le_right
theorem sb_xs : ∀ {s t : Nat}, t &&& s = t → s = (s ^^^ t) + t := by
  intro s
  induction s using Nat.strongRecOn with
  | ind s ih =>
    intro t h
    by_cases h0 : s = 0
    · subst h0
      have := sb_le h
      have : t = 0 := by omega
      subst this
      rfl
    · have h2 : t / 2 &&& s / 2 = t / 2 := by rw [← Nat.and_div_two, h]
      have := ih (s / 2) (by omega) h2
      have hx : (s ^^^ t) / 2 = s / 2 ^^^ t / 2 := by
        apply Nat.eq_of_testBit_eq
        intro i
        rw [← Nat.testBit_succ, Nat.testBit_xor, Nat.testBit_xor, Nat.testBit_succ, Nat.testBit_succ]
      have a := congrArg (fun x => x.testBit 0) h
      have b := Nat.testBit_xor s t 0
      simp only [Nat.testBit_zero] at a b
      have hm : s % 2 = (s ^^^ t) % 2 + t % 2 := by
        rcases Nat.mod_two_eq_zero_or_one s with hs | hs <;> rcases Nat.mod_two_eq_zero_or_one t with ht | ht <;> rcases Nat.mod_two_eq_zero_or_one (s ^^^ t) with hh | hh <;> simp [hs, ht, hh] at a b ⊢
      omega
def low (s : Nat) : Nat := s &&& (256 - s)
theorem low_i : ∀ s, s < 256 → iN s &&& -(iN s) = iN (low s) := by decide +kernel
theorem low_p : ∀ s, s < 256 → 0 < s → ∃ l, l < 8 ∧ low s = 2 ^ l ∧ s.testBit l = true ∧ ∀ j, j < l → s.testBit j = false := by decide +kernel
theorem iN_sb {t s : Nat} (ht : t < 2147483648) : (iN t &&& (iN s ^^^ (-1)) = 0) = (t &&& s = t) := by
  apply propext
  rw [← Int32.toBitVec_inj, Int32.toBitVec_and, Int32.toBitVec_xor]
  unfold iN
  rw [Int32.toBitVec_ofNat', Int32.toBitVec_ofNat', show (-1 : Int32).toBitVec = BitVec.allOnes 32 by decide, show (0 : Int32).toBitVec = 0#32 by decide, sb_iff]
  constructor
  · intro h i hi
    have := congrArg (fun x => x.getLsbD i) h
    have hi32 : i < 32 := by
      have := Nat.ge_two_pow_of_testBit hi
      refine Nat.lt_of_not_le (fun h32 => ?_)
      have h2 : 2 ^ 32 ≤ 2 ^ i := Nat.pow_le_pow_right (by decide) h32
      omega
    simp only [BitVec.getLsbD_and, BitVec.getLsbD_xor, BitVec.getLsbD_ofNat, BitVec.getLsbD_allOnes, hi32, decide_true, Bool.true_and, hi] at this
    simpa using this
  · intro h
    apply BitVec.eq_of_getLsbD_eq
    intro i hi
    simp only [BitVec.getLsbD_and, BitVec.getLsbD_xor, BitVec.getLsbD_ofNat, BitVec.getLsbD_allOnes, hi, decide_true, Bool.true_and]
    cases ht : t.testBit i with
    | false => simp
    | true => rw [h i ht]; simp
theorem iN_mns {t s : Nat} (h : t &&& s = t) : iN s &&& (iN t ^^^ (-1)) = iN (s ^^^ t) := by
  apply Int32.toBitVec_inj.mp
  rw [Int32.toBitVec_and, Int32.toBitVec_xor]
  unfold iN
  rw [Int32.toBitVec_ofNat', Int32.toBitVec_ofNat', Int32.toBitVec_ofNat', show (-1 : Int32).toBitVec = BitVec.allOnes 32 by decide]
  apply BitVec.eq_of_getLsbD_eq
  intro i hi
  have hb := sb_iff.mp h i
  simp only [BitVec.getLsbD_and, BitVec.getLsbD_xor, BitVec.getLsbD_ofNat, BitVec.getLsbD_allOnes, hi, decide_true, Bool.true_and, Nat.testBit_xor]
  cases ht : t.testBit i <;> cases hs : s.testBit i <;> simp_all
theorem sumI_add {f g h : Nat → Int32} : ∀ {n : Nat}, (∀ k, k < n → f k = g k + h k) → sumI f n = sumI g n + sumI h n
  | 0, _ => by simp [sumI]
  | n + 1, e => by
    rw [sumI_s, sumI_s, sumI_s, sumI_add (fun k hk => e k (by omega)), e n (by omega)]
    grind
/-- a set's worth -/
def wtS (wr : Nat → Int32) (s : Nat) : Int32 := sumI (fun p => if s.testBit p then wr p else 0) 8
theorem wt_x {wr : Nat → Int32} {t s : Nat} (h : t &&& s = t) : wtS wr s = wtS wr (s ^^^ t) + wtS wr t := by
  refine sumI_add (fun k hk => ?_)
  have hb := sb_iff.mp h k
  rw [Nat.testBit_xor]
  cases ht : t.testBit k with
  | false => cases hs : s.testBit k <;> simp
  | true => rw [hb ht]; simp
def mxN (f : Nat → Nat) : Nat → Nat
  | 0 => 0
  | n + 1 => max (mxN f n) (f n)
theorem mxN_ge {f : Nat → Nat} : ∀ {n k : Nat}, k < n → f k ≤ mxN f n
  | 0, k, h => absurd h (Nat.not_lt_zero _)
  | n + 1, k, h => by
    show f k ≤ max (mxN f n) (f n)
    by_cases hk : k = n
    · rw [hk]; omega
    · have := mxN_ge (f := f) (n := n) (k := k) (by omega)
      omega
theorem mxN_at {f : Nat → Nat} : ∀ {n : Nat}, mxN f n = 0 ∨ ∃ k, k < n ∧ mxN f n = f k
  | 0 => Or.inl rfl
  | n + 1 => by
    show max (mxN f n) (f n) = 0 ∨ ∃ k, k < n + 1 ∧ max (mxN f n) (f n) = f k
    by_cases h : mxN f n ≤ f n
    · exact Or.inr ⟨n, by omega, by omega⟩
    · rcases mxN_at (f := f) (n := n) with e | ⟨k, k1, k2⟩
      · omega
      · exact Or.inr ⟨k, by omega, by omega⟩
theorem mxN_ext {f g : Nat → Nat} : ∀ {n : Nat}, (∀ k, k < n → f k = g k) → mxN f n = mxN g n
  | 0, _ => rfl
  | n + 1, h => by
    show max (mxN f n) (f n) = max (mxN g n) (g n)
    rw [mxN_ext (fun k hk => h k (by omega)), h n (by omega)]
theorem mxN_0 {f : Nat → Nat} : ∀ {n : Nat}, (∀ k, k < n → f k = 0) → mxN f n = 0
  | 0, _ => rfl
  | n + 1, h => by
    show max (mxN f n) (f n) = 0
    rw [mxN_0 (fun k hk => h k (by omega)), h n (by omega)]
    rfl
/-- a group of s that holds its lowest one -/
def grp (wt : Nat → Int32) (p s : Nat) : Bool := decide (p &&& low s ≠ 0) && decide (p &&& s = p) && decide (wt p = 0)
def GT (wt : Nat → Int32) (s : Nat) : Nat := if s = 0 ∨ wt s ≠ 0 then 0 else mxN (fun p => if h : grp wt p s = true ∧ s ^^^ p < s then 1 + GT wt (s ^^^ p) else 0) (s + 1)
termination_by s
decreasing_by exact h.2
theorem grp_sb {wt : Nat → Int32} {p s : Nat} (h : grp wt p s = true) : p &&& s = p ∧ p &&& low s ≠ 0 ∧ wt p = 0 := by
  unfold grp at h
  simp only [Bool.and_eq_true, decide_eq_true_eq] at h
  exact ⟨h.1.2, h.1.1, h.2⟩
theorem grp_pos {wt : Nat → Int32} {p s : Nat} (h : grp wt p s = true) : 0 < p ∧ p ≤ s ∧ s ^^^ p < s := by
  obtain ⟨h1, h2, _⟩ := grp_sb h
  have hp : 0 < p := by
    refine Nat.pos_of_ne_zero (fun e => h2 ?_)
    rw [e, Nat.zero_and]
  have := sb_le h1
  have := sb_xs h1
  exact ⟨hp, by omega, by omega⟩
def gf (wt : Nat → Int32) (s p : Nat) : Nat := if grp wt p s = true then 1 + GT wt (s ^^^ p) else 0
theorem GT_z {wt : Nat → Int32} {s : Nat} (h : s = 0 ∨ wt s ≠ 0) : GT wt s = 0 := by
  unfold GT
  rw [if_pos h]
theorem GT_eq {wt : Nat → Int32} {s : Nat} (h0 : s ≠ 0) (hw : wt s = 0) : GT wt s = mxN (gf wt s) (s + 1) := by
  rw [GT, if_neg (by simp [h0, hw])]
  refine mxN_ext (fun p _ => ?_)
  unfold gf
  by_cases hg : grp wt p s = true
  · rw [dif_pos ⟨hg, (grp_pos hg).2.2⟩, if_pos hg]
  · rw [dif_neg (fun e => hg e.1), if_neg hg]
theorem low_grp {wt : Nat → Int32} {s : Nat} (h0 : s ≠ 0) (h : s < 256) (hw : wt s = 0) : grp wt s s = true := by
  obtain ⟨l, l1, l2, l3, _⟩ := low_p s h (by omega)
  unfold grp
  rw [Nat.and_self, l2, hw, decide_eq_true rfl, decide_eq_true rfl, Bool.and_true, Bool.and_true]
  apply decide_eq_true
  intro e
  have := congrArg (fun x => x.testBit l) e
  simp only [Nat.testBit_and, l3, Nat.testBit_two_pow_self, Nat.zero_testBit] at this
  cases this
section G
theorem wt_rest {wt : Nat → Int32} (hwt : ∀ t s, t &&& s = t → wt s = wt (s ^^^ t) + wt t) {p s : Nat} (hw : wt s = 0) (h : grp wt p s = true) : wt (s ^^^ p) = 0 := by
  have := hwt p s (grp_sb h).1
  rw [(grp_sb h).2.2, hw] at this
  grind
theorem GT_ge {wt : Nat → Int32} {p s : Nat} (hw : wt s = 0) (h : grp wt p s = true) : GT wt (s ^^^ p) + 1 ≤ GT wt s := by
  have hp := grp_pos h
  rw [GT_eq (s := s) (by omega) hw]
  have := mxN_ge (f := gf wt s) (n := s + 1) (k := p) (by omega)
  unfold gf at this ⊢
  rw [if_pos h] at this
  omega
theorem GT_pos {wt : Nat → Int32} {s : Nat} (h0 : s ≠ 0) (h : s < 256) (hw : wt s = 0) : 1 ≤ GT wt s := by
  have := GT_ge hw (low_grp h0 h hw)
  omega
theorem GT_at {wt : Nat → Int32} {s : Nat} (h0 : s ≠ 0) (h : s < 256) (hw : wt s = 0) : ∃ p, grp wt p s = true ∧ GT wt (s ^^^ p) + 1 = GT wt s := by
  have h1 := GT_pos h0 h hw
  rw [GT_eq h0 hw] at h1 ⊢
  rcases mxN_at (f := gf wt s) (n := s + 1) with e | ⟨p, p1, p2⟩
  · omega
  · rw [p2] at h1 ⊢
    unfold gf at h1 ⊢
    split at h1
    · rename_i hg
      refine ⟨p, hg, ?_⟩
      rw [if_pos hg]
      omega
    · omega
/-- how many of a set -/
def pc (s : Nat) : Nat := cntN (fun i => s.testBit i) 8
theorem cntN_add {f g h : Nat → Bool} : ∀ {n : Nat}, (∀ k, k < n → (if f k then 1 else 0) = (if g k then 1 else 0) + (if h k then 1 else 0 : Nat)) → cntN f n = cntN g n + cntN h n
  | 0, _ => rfl
  | n + 1, e => by
    have := cntN_add (fun k hk => e k (by omega : k < n + 1)) (n := n)
    have := e n (by omega)
    unfold cntN
    omega
theorem pc_x {t s : Nat} (h : t &&& s = t) : pc s = pc (s ^^^ t) + pc t := by
  refine cntN_add (fun k hk => ?_)
  have hb := sb_iff.mp h k
  rw [Nat.testBit_xor]
  cases ht : t.testBit k with
  | false => cases hs : s.testBit k <;> simp
  | true => rw [hb ht]; simp
theorem cntN_pos {p : Nat → Bool} : ∀ {n k : Nat}, k < n → p k = true → 1 ≤ cntN p n
  | 0, k, h, _ => absurd h (Nat.not_lt_zero _)
  | n + 1, k, h, hp => by
    unfold cntN
    by_cases hk : k = n
    · subst hk
      rw [hp]
      simp
    · have := cntN_pos (p := p) (n := n) (k := k) (by omega) hp
      omega
theorem pc_pos {s : Nat} (h0 : s ≠ 0) (h : s < 256) : 1 ≤ pc s := by
  obtain ⟨l, l1, l2, l3, _⟩ := low_p s h (by omega)
  exact cntN_pos l1 l3
theorem GT_pc {wt : Nat → Int32} (hwt : ∀ t s, t &&& s = t → wt s = wt (s ^^^ t) + wt t) : ∀ (s : Nat), s < 256 → GT wt s ≤ pc s := by
  intro s
  induction s using Nat.strongRecOn with
  | ind s ih =>
    intro h
    by_cases h0 : s = 0 ∨ wt s ≠ 0
    · rw [GT_z h0]; omega
    · have hs : s ≠ 0 := fun e => h0 (Or.inl e)
      have hw : wt s = 0 := by
        by_cases hc : wt s = 0
        · exact hc
        · exact absurd (Or.inr hc) h0
      obtain ⟨p, p1, p2⟩ := GT_at hs h hw
      have hp := grp_pos p1
      have := ih (s ^^^ p) hp.2.2 (by omega)
      have := pc_x (grp_sb p1).1
      have := pc_pos (s := p) (by omega) (by omega)
      omega
theorem pc_le (s : Nat) : pc s ≤ 8 := cntN_le _ _
end G
/-- the first of so many, or the last -/
def fstN (q : Nat → Bool) (a : Nat) : Nat → Nat
  | 0 => a
  | d + 1 => if q a then a else fstN q (a + 1) d
theorem fstN_p {q : Nat → Bool} : ∀ {d a : Nat}, a ≤ fstN q a d ∧ fstN q a d ≤ a + d ∧ (∀ t, a ≤ t → t < fstN q a d → q t = false) ∧ (fstN q a d < a + d → q (fstN q a d) = true)
  | 0, a => ⟨Nat.le_refl _, Nat.le_refl _, fun t h1 h2 => absurd h2 (by show ¬ t < a; omega), fun h => absurd h (Nat.lt_irrefl _)⟩
  | d + 1, a => by
    unfold fstN
    cases hq : q a with
    | true => exact ⟨Nat.le_refl _, by simp, fun t h1 h2 => absurd h2 (by simp; omega), fun _ => by simpa using hq⟩
    | false =>
      obtain ⟨i1, i2, i3, i4⟩ := fstN_p (q := q) (d := d) (a := a + 1)
      simp only [Bool.false_eq_true, if_false]
      refine ⟨by omega, by omega, fun t h1 h2 => ?_, fun h => i4 (by omega)⟩
      by_cases ht : t = a
      · rw [ht]; exact hq
      · exact i3 t (by omega) h2
/-- the group that goes next -/
def gq (wt : Nat → Int32) (left p : Nat) : Bool := grp wt p left && decide (1 + GT wt (left ^^^ p) = GT wt left)
def gn (wt : Nat → Int32) (left : Nat) : Nat := fstN (gq wt left) 1 (left - 1)
theorem gn_p {wt : Nat → Int32} {s : Nat} (h0 : s ≠ 0) (h : s < 256) (hw : wt s = 0) : gq wt s (gn wt s) = true ∧ 1 ≤ gn wt s ∧ gn wt s ≤ s ∧ ∀ t, 1 ≤ t → t < gn wt s → gq wt s t = false := by
  obtain ⟨i1, i2, i3, i4⟩ := fstN_p (q := gq wt s) (d := s - 1) (a := 1)
  refine ⟨?_, i1, by unfold gn; omega, i3⟩
  by_cases hl : gn wt s < 1 + (s - 1)
  · exact i4 hl
  · obtain ⟨p, p1, p2⟩ := GT_at h0 h hw
    have hp := grp_pos p1
    have hq : gq wt s p = true := by
      unfold gq
      rw [p1, decide_eq_true (by omega)]; rfl
    by_cases hps : p < gn wt s
    · have := i3 p (by omega) hps
      rw [hq] at this
      cases this
    · have e : gn wt s = p := by unfold gn at *; omega
      rw [e]
      exact hq
