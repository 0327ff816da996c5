/-! a row of claims: its cells by field and number, how many, the day, the totals; as the component has it, as the reference has it -/
abbrev LG : Type := (Nat → Nat → Int32) × Nat × Int32 × (Nat → Int32)
def CL (i : Nat) (L : LG) (P : ab_P) : Prop := L.2.1 ≤ 40 ∧ P.1 i 2 = iN L.2.1 ∧ P.1 i 3 = L.2.2.1 ∧ (∀ j, 1 ≤ j → j < 5 → P.1 (i + 2) j = L.2.2.2 j) ∧ ∀ f, f < 9 → ∀ k, k < L.2.1 → P.1 (i + 1) (f * 40 + k) = L.1 f k
def RL (i : Nat) (L : LG) (P : ab_P) : Prop := L.2.1 ≤ 40 ∧ P.1 i 360 = iN L.2.1 ∧ P.1 i 361 = L.2.2.1 ∧ (∀ j, 1 ≤ j → j < 5 → P.1 i (361 + j) = L.2.2.2 j) ∧ ∀ f, f < 9 → ∀ k, k < L.2.1 → P.1 i (9 * k + f) = L.1 f k
theorem CL.fr {i : Nat} {L : LG} {S : Nat → Nat → Prop} {P P' : ab_P} (h : CL i L P) (hf : fr S P P') (h0 : ¬ S i 2 ∧ ¬ S i 3) (h1 : ∀ j, ¬ S (i + 1) j) (h2 : ∀ j, ¬ S (i + 2) j) : CL i L P' := by
  refine ⟨h.1, ?_, ?_, fun j g1 g2 => ?_, fun f g1 k g2 => ?_⟩
  · rw [hf.1 _ _ h0.1]; exact h.2.1
  · rw [hf.1 _ _ h0.2]; exact h.2.2.1
  · rw [hf.1 _ _ (h2 _)]; exact h.2.2.2.1 j g1 g2
  · rw [hf.1 _ _ (h1 _)]; exact h.2.2.2.2 f g1 k g2
theorem RL.fr {i : Nat} {L : LG} {S : Nat → Nat → Prop} {P P' : ab_P} (h : RL i L P) (hf : fr S P P') (h0 : ∀ j, ¬ S i j) : RL i L P' := by
  refine ⟨h.1, ?_, ?_, fun j g1 g2 => ?_, fun f g1 k g2 => ?_⟩
  · rw [hf.1 _ _ (h0 _)]; exact h.2.1
  · rw [hf.1 _ _ (h0 _)]; exact h.2.2.1
  · rw [hf.1 _ _ (h0 _)]; exact h.2.2.2.1 j g1 g2
  · rw [hf.1 _ _ (h0 _)]; exact h.2.2.2.2 f g1 k g2
/-- does a claim stand -/
def stL (L : LG) (k : Nat) : Bool := decide (k < L.2.1) && decide (L.1 7 k = 0)
theorem stL_lt {L : LG} {k : Nat} (h : stL L k = true) : k < L.2.1 := by
  unfold stL at h
  simp at h
  exact h.1
section LR
variable {i : Nat} {L : LG} {P : ab_P} {f k n N : Nat}
theorem CL.m40 (h : CL i L P) : L.2.1 ≤ 40 := h.1
theorem CL.made (h : CL i L P) : P.1 i 2 = iN L.2.1 := h.2.1
theorem CL.day (h : CL i L P) : P.1 i 3 = L.2.2.1 := h.2.2.1
theorem RL.m40 (h : RL i L P) : L.2.1 ≤ 40 := h.1
theorem RL.made (h : RL i L P) : P.1 i 360 = iN L.2.1 := h.2.1
theorem RL.day (h : RL i L P) : P.1 i 361 = L.2.2.1 := h.2.2.1
theorem c_raw (hf : f < 9) (hk : k < 40) : f_231 i P (iN f) (iN k) = some (P.1 (i + 1) (f * 40 + k)) := by
  unfold f_231
  have e : iN f * 40 + iN k = iN (f * 40 + k) := by rw [iN_lit 40, iN_mul, iN_add]
  rw [if_neg (by rw [iN_neg (by omega)]; exact id), if_pos (by rw [iN_ltl (by omega) (by decide)]; exact hf), if_neg (by rw [iN_neg (by omega)]; exact id), if_pos (by rw [iN_ltl (by omega) (by decide)]; exact hk), e, if_pos (iN_gi (by omega) (by omega)), iN_nat (by omega)]
theorem c_get (h : CL i L P) (hf : f < 9) (hk : k < L.2.1) : f_231 i P (iN f) (iN k) = some (L.1 f k) := by
  have := h.1
  rw [c_raw hf (by omega), h.2.2.2.2 f hf k hk]
/-- whatever it answers, it answers -/
theorem c_any (a b : Int32) : ∃ v, f_231 i P a b = some v := by
  unfold f_231
  split
  · exact ⟨_, rfl⟩
  · rename_i h1
    split
    · rename_i h2
      split
      · exact ⟨_, rfl⟩
      · rename_i h3
        split
        · rename_i h4
          obtain ⟨x, hx, rfl⟩ := iN_of (m := 9) h1 (by decide) h2
          obtain ⟨y, hy, rfl⟩ := iN_of (m := 40) h3 (by decide) h4
          have e : iN x * 40 + iN y = iN (x * 40 + y) := by rw [iN_lit 40, iN_mul, iN_add]
          rw [e, if_pos (iN_gi (by omega) (by omega))]
          exact ⟨_, rfl⟩
        · exact ⟨_, rfl⟩
    · exact ⟨_, rfl⟩
theorem r_raw (hf : f < 9) (hk : k < 40) : f_135_366 i P (iN k) (iN f) = some (P.1 i (9 * k + f)) := by
  unfold f_135_366
  have e : (9 : Int32) * iN k + iN f = iN (9 * k + f) := by rw [iN_lit 9, iN_mul, iN_add]
  rw [e, if_pos (iN_gi (by omega) (by omega)), iN_nat (by omega)]
theorem r_of (h : RL i L P) (hf : f < 9) (hk : k < L.2.1) : f_135_366 i P (iN k) (iN f) = some (L.1 f k) := by
  have := h.1
  rw [r_raw hf (by omega), h.2.2.2.2 f hf k hk]
theorem c_get0 (h : CL i L P) (hk : k < L.2.1) : f_231 i P (0 : Int32) (iN k) = some (L.1 0 k) := c_get (f := 0) h (by decide) hk
theorem r_of0 (h : RL i L P) (hk : k < L.2.1) : f_135_366 i P (iN k) (0 : Int32) = some (L.1 0 k) := r_of (f := 0) h (by decide) hk
theorem c_get1 (h : CL i L P) (hk : k < L.2.1) : f_231 i P (1 : Int32) (iN k) = some (L.1 1 k) := c_get (f := 1) h (by decide) hk
theorem r_of1 (h : RL i L P) (hk : k < L.2.1) : f_135_366 i P (iN k) (1 : Int32) = some (L.1 1 k) := r_of (f := 1) h (by decide) hk
theorem c_get2 (h : CL i L P) (hk : k < L.2.1) : f_231 i P (2 : Int32) (iN k) = some (L.1 2 k) := c_get (f := 2) h (by decide) hk
theorem r_of2 (h : RL i L P) (hk : k < L.2.1) : f_135_366 i P (iN k) (2 : Int32) = some (L.1 2 k) := r_of (f := 2) h (by decide) hk
theorem c_get3 (h : CL i L P) (hk : k < L.2.1) : f_231 i P (3 : Int32) (iN k) = some (L.1 3 k) := c_get (f := 3) h (by decide) hk
theorem r_of3 (h : RL i L P) (hk : k < L.2.1) : f_135_366 i P (iN k) (3 : Int32) = some (L.1 3 k) := r_of (f := 3) h (by decide) hk
theorem c_get4 (h : CL i L P) (hk : k < L.2.1) : f_231 i P (4 : Int32) (iN k) = some (L.1 4 k) := c_get (f := 4) h (by decide) hk
theorem r_of4 (h : RL i L P) (hk : k < L.2.1) : f_135_366 i P (iN k) (4 : Int32) = some (L.1 4 k) := r_of (f := 4) h (by decide) hk
theorem c_get5 (h : CL i L P) (hk : k < L.2.1) : f_231 i P (5 : Int32) (iN k) = some (L.1 5 k) := c_get (f := 5) h (by decide) hk
theorem r_of5 (h : RL i L P) (hk : k < L.2.1) : f_135_366 i P (iN k) (5 : Int32) = some (L.1 5 k) := r_of (f := 5) h (by decide) hk
theorem c_get6 (h : CL i L P) (hk : k < L.2.1) : f_231 i P (6 : Int32) (iN k) = some (L.1 6 k) := c_get (f := 6) h (by decide) hk
theorem r_of6 (h : RL i L P) (hk : k < L.2.1) : f_135_366 i P (iN k) (6 : Int32) = some (L.1 6 k) := r_of (f := 6) h (by decide) hk
theorem c_get7 (h : CL i L P) (hk : k < L.2.1) : f_231 i P (7 : Int32) (iN k) = some (L.1 7 k) := c_get (f := 7) h (by decide) hk
theorem r_of7 (h : RL i L P) (hk : k < L.2.1) : f_135_366 i P (iN k) (7 : Int32) = some (L.1 7 k) := r_of (f := 7) h (by decide) hk
theorem c_get8 (h : CL i L P) (hk : k < L.2.1) : f_231 i P (8 : Int32) (iN k) = some (L.1 8 k) := c_get (f := 8) h (by decide) hk
theorem r_of8 (h : RL i L P) (hk : k < L.2.1) : f_135_366 i P (iN k) (8 : Int32) = some (L.1 8 k) := r_of (f := 8) h (by decide) hk
theorem c_stand (h : CL i L P) (hk : k < 2147483648) : f_263 i P (iN k) = some (bI (stL L k)) := by
  unfold f_263
  have h40 := h.1
  rw [if_neg (by rw [iN_neg hk]; exact id), h.made]
  by_cases hl : k < L.2.1
  · rw [if_pos (by rw [iN_lt (by omega) (by omega)]; exact hl), c_get7 h hl, Option.bind_some]
    unfold stL
    by_cases h0 : L.1 7 k = 0
    · rw [if_pos h0]; simp [hl, h0, bI]
    · rw [if_neg h0]; simp [h0, bI]
  · rw [if_neg (by rw [iN_lt (by omega) (by omega)]; exact hl)]
    simp [stL, hl, bI]
theorem c_standN : f_263 i P (-1) = some 0 := by
  unfold f_263
  rw [if_pos (by decide)]
theorem r_stand (h : RL i L P) (hk : k < 2147483648) : f_144_366 i P (iN k) = some (bI (stL L k)) := by
  unfold f_144_366
  have h40 := h.1
  rw [h.made]
  by_cases hl : k < L.2.1
  · rw [if_pos (by rw [iN_lt (by omega) (by omega)]; exact hl), r_of7 h hl, Option.bind_some]
    unfold stL
    by_cases h0 : L.1 7 k = 0
    · rw [if_pos h0]; simp [hl, h0, bI]
    · rw [if_neg h0]; simp [h0, bI]
  · rw [if_neg (by rw [iN_lt (by omega) (by omega)]; exact hl)]
    simp [stL, hl, bI]
theorem c_end (h : CL i L P) : ¬ iN L.2.1 < P.1 i 2 := by
  have := h.1
  rw [h.made, iN_lt (by omega) (by omega)]
  omega
theorem c_more (h : CL i L P) (hk : k < L.2.1) : iN k < P.1 i 2 := by
  have := h.1
  rw [h.made, iN_lt (by omega) (by omega)]
  exact hk
theorem r_end (h : RL i L P) : ¬ iN L.2.1 < P.1 i 360 := by
  have := h.1
  rw [h.made, iN_lt (by omega) (by omega)]
  omega
theorem r_more (h : RL i L P) (hk : k < L.2.1) : iN k < P.1 i 360 := by
  have := h.1
  rw [h.made, iN_lt (by omega) (by omega)]
  exact hk
end LR
/-! what is counted of those that stand -/
def cnt (L : LG) (p : Nat → Bool) : Nat → Int32 := fun k => if stL L k && p k then 1 else 0
def szs (L : LG) (p : Nat → Bool) : Nat → Int32 := fun k => if stL L k && p k then L.1 2 k else 0
def sStanding (L : LG) : Int32 := sumI (cnt L (fun _ => true)) L.2.1
def sSorrows (L : LG) : Int32 := sumI (szs L (fun _ => true)) L.2.1
def sBy (L : LG) (f : Nat) (p : Int32) : Int32 := sumI (szs L (fun k => decide (L.1 f k = p))) L.2.1
def sMany (L : LG) (f : Nat) (p : Int32) : Int32 := sumI (cnt L (fun k => decide (L.1 f k = p))) L.2.1
def sOwed (L : LG) (a b : Int32) : Int32 := sumI (szs L (fun k => decide (L.1 0 k = a) && decide (L.1 1 k = b))) L.2.1
/-- what a claim brings to a worth -/
def shr (L : LG) (p : Int32) (k : Nat) : Int32 := (if L.1 1 k = p then L.1 2 k else 0) - (if L.1 0 k = p then L.1 2 k else 0)
def sWorth (L : LG) (p : Int32) (t : Bool) : Int32 := sumI (fun k => if stL L k && (!t || decide (L.1 6 k = 1)) then shr L p k else 0) L.2.1
section Q1
variable {i : Nat} {L : LG} {P : ab_P} {f k n N : Nat}
theorem c_standing (h : CL i L P) (hN : 70000 ≤ N) : f_229 i N P = some (sStanding L) := by
  have := h.1
  refine up (fun n k x => f_229_4 i P n x (iN k)) L.2.1 (sumI (cnt L (fun _ => true))) _ (fun n k hk => ?_) (fun n => ?_) N (by omega)
  · simp only [f_229_4, c_more h hk, c_stand h (show k < 2147483648 by omega), ↓reduceIte, Option.bind_some, bI_0, sumI_s, iN_succ]
    cases hs : stL L k <;> simp [cnt, hs]
  · simp only [f_229_4, c_end h, ↓reduceIte]; rfl
theorem r_standing (h : RL i L P) (hN : 70000 ≤ N) : f_132_366 i N P = some (sStanding L) := by
  have := h.1
  refine up (fun n k x => f_132_366_4 i P n x (iN k)) L.2.1 (sumI (cnt L (fun _ => true))) _ (fun n k hk => ?_) (fun n => ?_) N (by omega)
  · simp only [f_132_366_4, r_more h hk, r_stand h (show k < 2147483648 by omega), ↓reduceIte, Option.bind_some, bI_0, sumI_s, iN_succ]
    cases hs : stL L k <;> simp [cnt, hs]
  · simp only [f_132_366_4, r_end h, ↓reduceIte]; rfl
end Q1
