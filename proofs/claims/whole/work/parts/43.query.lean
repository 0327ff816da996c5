/-! questions that sum over the claims -/
theorem i_can (a : Int32) : a + -a = 0 := by grind
theorem i_sn (a b : Int32) : a - b = a + -b := by grind
theorem i_as (a b c : Int32) : a + b - c = a + (b - c) := by grind
def WF (pe : Nat) (L : LG) : Prop := pe ≤ 8 ∧ ∀ k, k < L.2.1 → (∃ a, a < pe ∧ L.1 0 k = iN a) ∧ (∃ b, b < pe ∧ L.1 1 k = iN b) ∧ (∃ z, 1 ≤ z ∧ z ≤ 9999 ∧ L.1 2 k = iN z) ∧ (L.1 6 k = 0 ∨ L.1 6 k = 1)
section Q2
variable {i : Nat} {L : LG} {P : ab_P} {f k n N pe : Nat} {p q : Int32}
theorem c_by (h : CL i L P) (hf : f < 9) (hN : 70000 ≤ N) : f_234 i N P (iN f) p = some (sBy L f p) := by
  have h40 := h.1
  refine up (fun n k x => f_234_5 i P n (iN f) p x (iN k)) L.2.1 (sumI (szs L (fun k => decide (L.1 f k = p)))) _ (fun n k hk => ?_) (fun n => ?_) N (by omega)
  · simp only [f_234_5, c_more h hk, c_stand h (show k < 2147483648 by omega), c_get h hf hk, c_get2 h hk, ↓reduceIte, Option.bind_some, bI_0, sumI_s, iN_succ]
    cases hs : stL L k <;> by_cases hp : L.1 f k = p <;> simp [szs, cnt, hs, hp]
  · simp only [f_234_5, c_end h, ↓reduceIte]; rfl
theorem c_many (h : CL i L P) (hf : f < 9) (hN : 70000 ≤ N) : f_235 i N P (iN f) p = some (sMany L f p) := by
  have h40 := h.1
  refine up (fun n k x => f_235_5 i P n (iN f) p x (iN k)) L.2.1 (sumI (cnt L (fun k => decide (L.1 f k = p)))) _ (fun n k hk => ?_) (fun n => ?_) N (by omega)
  · simp only [f_235_5, c_more h hk, c_stand h (show k < 2147483648 by omega), c_get h hf hk, ↓reduceIte, Option.bind_some, bI_0, sumI_s, iN_succ]
    cases hs : stL L k <;> by_cases hp : L.1 f k = p <;> simp [szs, cnt, hs, hp]
  · simp only [f_235_5, c_end h, ↓reduceIte]; rfl
theorem c_sorrows (h : CL i L P) (hN : 70000 ≤ N) : f_236 i N P = some (sSorrows L) := by
  have h40 := h.1
  refine up (fun n k x => f_236_4 i P n x (iN k)) L.2.1 (sumI (szs L (fun _ => true))) _ (fun n k hk => ?_) (fun n => ?_) N (by omega)
  · simp only [f_236_4, c_more h hk, c_stand h (show k < 2147483648 by omega), c_get2 h hk, ↓reduceIte, Option.bind_some, bI_0, sumI_s, iN_succ]
    cases hs : stL L k <;> simp [szs, hs]
  · simp only [f_236_4, c_end h, ↓reduceIte]; rfl
theorem c_owed (h : CL i L P) (hN : 70000 ≤ N) : f_238 i N P p q = some (sOwed L p q) := by
  have h40 := h.1
  refine up (fun n k x => f_238_5 i P n p q x (iN k)) L.2.1 (sumI (szs L (fun k => decide (L.1 0 k = p) && decide (L.1 1 k = q)))) _ (fun n k hk => ?_) (fun n => ?_) N (by omega)
  · simp only [f_238_5, c_more h hk, c_stand h (show k < 2147483648 by omega), c_get0 h hk, c_get1 h hk, c_get2 h hk, ↓reduceIte, Option.bind_some, bI_0, sumI_s, iN_succ]
    cases hs : stL L k <;> by_cases hp : L.1 0 k = p <;> by_cases hq : L.1 1 k = q <;> simp [szs, hs, hp, hq]
  · simp only [f_238_5, c_end h, ↓reduceIte]; rfl
theorem r_by (h : RL i L P) (hf : f < 9) (hN : 70000 ≤ N) : f_138_366 i N P (iN f) p (1 : Int32) = some (sBy L f p) := by
  have h40 := h.1
  refine up (fun n k x => f_138_366_6 i P n (iN f) p (1 : Int32) x (iN k)) L.2.1 (sumI (szs L (fun k => decide (L.1 f k = p)))) _ (fun n k hk => ?_) (fun n => ?_) N (by omega)
  · simp only [f_138_366_6, r_more h hk, r_stand h (show k < 2147483648 by omega), r_of h hf hk, r_of2 h hk, ↓reduceIte, Option.bind_some, bI_0, sumI_s, iN_succ, show ¬ (1 : Int32) = 0 by decide]
    cases hs : stL L k <;> by_cases hp : L.1 f k = p <;> simp [szs, cnt, hs, hp]
  · simp only [f_138_366_6, r_end h, ↓reduceIte]; rfl
theorem r_many (h : RL i L P) (hf : f < 9) (hN : 70000 ≤ N) : f_138_366 i N P (iN f) p (0 : Int32) = some (sMany L f p) := by
  have h40 := h.1
  refine up (fun n k x => f_138_366_6 i P n (iN f) p (0 : Int32) x (iN k)) L.2.1 (sumI (cnt L (fun k => decide (L.1 f k = p)))) _ (fun n k hk => ?_) (fun n => ?_) N (by omega)
  · simp only [f_138_366_6, r_more h hk, r_stand h (show k < 2147483648 by omega), r_of h hf hk, ↓reduceIte, Option.bind_some, bI_0, sumI_s, iN_succ]
    cases hs : stL L k <;> by_cases hp : L.1 f k = p <;> simp [szs, cnt, hs, hp]
  · simp only [f_138_366_6, r_end h, ↓reduceIte]; rfl
theorem r_sorrows (h : RL i L P) (hN : 70000 ≤ N) : f_142_366 i N P = some (sSorrows L) := by
  have h40 := h.1
  refine up (fun n k x => f_142_366_4 i P n x (iN k)) L.2.1 (sumI (szs L (fun _ => true))) _ (fun n k hk => ?_) (fun n => ?_) N (by omega)
  · simp only [f_142_366_4, r_more h hk, r_stand h (show k < 2147483648 by omega), r_of2 h hk, ↓reduceIte, Option.bind_some, bI_0, sumI_s, iN_succ]
    cases hs : stL L k <;> simp [szs, hs]
  · simp only [f_142_366_4, r_end h, ↓reduceIte]; rfl
theorem r_held (h : RL i L P) (hN : 70000 ≤ N) : f_180_366 i N P p = some (sMany L 1 p) := by
  have h40 := h.1
  refine up (fun n k x => f_180_366_4 i P n p x (iN k)) L.2.1 (sumI (cnt L (fun k => decide (L.1 1 k = p)))) _ (fun n k hk => ?_) (fun n => ?_) N (by omega)
  · simp only [f_180_366_4, r_more h hk, r_stand h (show k < 2147483648 by omega), r_of1 h hk, ↓reduceIte, Option.bind_some, bI_0, sumI_s, iN_succ]
    cases hs : stL L k <;> by_cases hp : L.1 1 k = p <;> simp [szs, cnt, hs, hp]
  · simp only [f_180_366_4, r_end h, ↓reduceIte]; rfl
theorem r_owed (h : RL 477 L P) (hN : 70000 ≤ N) : f_29_42 N p q 0 0 P = some (sOwed L p q, P) := by
  have h40 := h.1
  refine up (fun n k x => f_29_42 n p q x (iN k) P) L.2.1 (sumI (szs L (fun k => decide (L.1 0 k = p) && decide (L.1 1 k = q)))) _ (fun n k hk => ?_) (fun n => ?_) N (by omega)
  · simp only [f_29_42, r_more h hk, r_stand h (show k < 2147483648 by omega), r_of0 h hk, r_of1 h hk, r_of2 h hk, ↓reduceIte, Option.bind_some, bI_0, sumI_s, iN_succ]
    cases hs : stL L k <;> by_cases hp : L.1 0 k = p <;> by_cases hq : L.1 1 k = q <;> simp [szs, hs, hp, hq]
  · simp only [f_29_42, r_end h, ↓reduceIte]; rfl
theorem c_share (h : CL i L P) (hk : k < L.2.1) : f_271 i P (iN k) p = some (shr L p k) := by
  unfold f_271 f_271_22
  simp only [c_get0 h hk, c_get1 h hk, c_get2 h hk, Option.bind_some]
  by_cases h1 : L.1 1 k = p <;> by_cases h0 : L.1 0 k = p <;> simp [shr, h0, h1]
theorem c_worth (h : CL i L P) (t : Bool) (hN : 70000 ≤ N) : f_186 i N P p (bI t) = some (sWorth L p t) := by
  have h40 := h.1
  refine up (fun n k x => f_186_5 i P n p (bI t) x (iN k)) L.2.1 (sumI (fun k => if stL L k && (!t || decide (L.1 6 k = 1)) then shr L p k else 0)) _ (fun n k hk => ?_) (fun n => ?_) N (by omega)
  · simp only [f_186_5, c_more h hk, c_stand h (show k < 2147483648 by omega), c_share h hk, c_get6 h hk, ↓reduceIte, Option.bind_some, bI_0, sumI_s, iN_succ]
    cases hs : stL L k <;> cases t <;> by_cases h6 : L.1 6 k = 1 <;> simp [hs, h6]
  · simp only [f_186_5, c_end h, ↓reduceIte]; rfl
theorem c_worth0 (h : CL i L P) (hN : 70000 ≤ N) : f_186 i N P p (0 : Int32) = some (sWorth L p false) := c_worth h false hN
theorem c_worth1 (h : CL i L P) (hN : 70000 ≤ N) : f_186 i N P p (1 : Int32) = some (sWorth L p true) := c_worth h true hN
theorem r_worth (h : RL i L P) (hw : WF pe L) (t : Bool) (hN : 70000 ≤ N) : f_140_366 i N P p (bI t) = some (sWorth L p t) := by
  have h40 := h.1
  refine up (fun n k x => f_140_366_5 i P n p (bI t) x (iN k)) L.2.1 (sumI (fun k => if stL L k && (!t || decide (L.1 6 k = 1)) then shr L p k else 0)) _ (fun n k hk => ?_) (fun n => ?_) N (by omega)
  · have h6 : (L.1 6 k = 0) = ¬ (L.1 6 k = 1) := by
      rcases (hw.2 k hk).2.2.2 with e | e <;> rw [e] <;> decide
    simp only [f_140_366_5, f_140_366_42, f_140_366_65, r_more h hk, r_stand h (show k < 2147483648 by omega), r_of0 h hk, r_of1 h hk, r_of2 h hk, r_of6 h hk, ↓reduceIte, Option.bind_some, bI_0, sumI_s, iN_succ, h6]
    cases hs : stL L k <;> cases t <;> by_cases h6 : L.1 6 k = 1 <;> by_cases h1 : L.1 1 k = p <;> by_cases h0 : L.1 0 k = p <;> simp [hs, h6, shr, h0, h1, i_sn, Int32.add_assoc, i_can]
  · simp only [f_140_366_5, r_end h, ↓reduceIte]; rfl
theorem r_worth0 (h : RL i L P) (hw : WF pe L) (hN : 70000 ≤ N) : f_140_366 i N P p (0 : Int32) = some (sWorth L p false) := r_worth h hw false hN
theorem r_worth1 (h : RL i L P) (hw : WF pe L) (hN : 70000 ≤ N) : f_140_366 i N P p (1 : Int32) = some (sWorth L p true) := r_worth h hw true hN
end Q2
/-! the first one that no later one beats -/
def fb (ok : Nat → Bool) (bt : Nat → Nat → Bool) : Nat → Option Nat
  | 0 => none
  | n + 1 => match fb ok bt n with
    | none => if ok n then some n else none
    | some q => if ok n && bt n q then some n else some q
theorem fb_some {ok : Nat → Bool} {bt : Nat → Nat → Bool} : ∀ {n q : Nat}, fb ok bt n = some q → q < n ∧ ok q = true
  | 0, q, h => by cases h
  | n + 1, q, h => by
    unfold fb at h
    split at h
    · split at h
      · rename_i h1
        cases h
        exact ⟨Nat.lt_succ_self _, h1⟩
      · cases h
    · rename_i z hz
      have := fb_some hz
      split at h
      · rename_i h1
        cases h
        simp at h1
        exact ⟨Nat.lt_succ_self _, h1.1⟩
      · cases h
        exact ⟨by omega, this.2⟩
def oN (o : Option Nat) : Int32 := match o with
  | none => -1
  | some q => iN q
theorem oN_none : oN none = -1 := rfl
theorem oN_some (q : Nat) : oN (some q) = iN q := rfl
section Q3
variable {i : Nat} {L : LG} {P : ab_P} {f k n N pe : Nat} {p q : Int32}
theorem c_oldest (h : CL i L P) (hN : 70000 ≤ N) : f_266 i N P = some (oN (fb (stL L) (fun a b => decide (L.1 3 a < L.1 3 b)) L.2.1)) := by
  have h40 := h.1
  refine up (fun n k x => f_266_4 i P n x (iN k)) L.2.1 (fun k => oN (fb (stL L) (fun a b => decide (L.1 3 a < L.1 3 b)) k)) _ (fun n k hk => ?_) (fun n => ?_) N (by omega)
  · simp only [f_266_4, c_more h hk, c_stand h (show k < 2147483648 by omega), ↓reduceIte, Option.bind_some, bI_0, iN_succ, fb]
    cases hs : stL L k
    · cases hb : fb (stL L) (fun a b => decide (L.1 3 a < L.1 3 b)) k <;> simp
    · cases hb : fb (stL L) (fun a b => decide (L.1 3 a < L.1 3 b)) k with
      | none => simp [oN]
      | some q =>
        have hq := (fb_some hb).1
        have hql := stL_lt (fb_some hb).2
        simp only [oN_some, iN_nm1 (show q < 2147483648 by omega), c_get3 h hk, c_get3 h hql, Option.bind_some, ↓reduceIte]
        by_cases hc : L.1 3 k < L.1 3 q <;> simp [hc, oN]
  · simp only [f_266_4, c_end h, ↓reduceIte]
theorem c_greatest (h : CL i L P) (hN : 70000 ≤ N) : f_346 i N P = some (oN (fb (stL L) (fun a b => decide (L.1 2 b < L.1 2 a)) L.2.1)) := by
  have h40 := h.1
  refine up (fun n k x => f_346_4 i P n x (iN k)) L.2.1 (fun k => oN (fb (stL L) (fun a b => decide (L.1 2 b < L.1 2 a)) k)) _ (fun n k hk => ?_) (fun n => ?_) N (by omega)
  · simp only [f_346_4, c_more h hk, c_stand h (show k < 2147483648 by omega), ↓reduceIte, Option.bind_some, bI_0, iN_succ, fb]
    cases hs : stL L k
    · cases hb : fb (stL L) (fun a b => decide (L.1 2 b < L.1 2 a)) k <;> simp
    · cases hb : fb (stL L) (fun a b => decide (L.1 2 b < L.1 2 a)) k with
      | none => simp [oN]
      | some q =>
        have hq := (fb_some hb).1
        have hql := stL_lt (fb_some hb).2
        simp only [oN_some, iN_nm1 (show q < 2147483648 by omega), c_get2 h hk, c_get2 h hql, Option.bind_some, ↓reduceIte]
        by_cases hc : L.1 2 q < L.1 2 k <;> simp [hc, oN]
  · simp only [f_346_4, c_end h, ↓reduceIte]
/-- the person of the greatest worth by the sign -/
def sRich (L : LG) (pe : Nat) (sg : Int32) : Option Nat := fb (fun _ => true) (fun a b => decide (sg * sWorth L (iN b) false < sg * sWorth L (iN a) false)) pe
theorem c_rich (h : CL i L P) (hp : pe ≤ 8) (sg : Int32) (hN : 70000 ≤ N) : f_265 i N P (iN pe) sg = some (oN (sRich L pe sg)) := by
  refine up (fun n k (x : Int32 × Int32) => f_265_8 i N P n (iN pe) sg x.1 x.2 (iN k)) pe (fun k => (oN (sRich L k sg), match sRich L k sg with | none => 0 | some q => sg * sWorth L (iN q) false)) _ (fun n k hk => ?_) (fun n => ?_) N (by omega)
  · simp only [f_265_8, iN_lt (show k < 2147483648 by omega) (show pe < 2147483648 by omega), hk, c_worth0 h hN, ↓reduceIte, Option.bind_some, iN_succ]
    cases hb : sRich L k sg with
    | none =>
      have : sRich L (k + 1) sg = some k := by
        have hb2 : fb (fun _ => true) (fun a b => decide (sg * sWorth L (iN b) false < sg * sWorth L (iN a) false)) k = none := hb
        simp [sRich, fb, hb2]
      simp [this, oN]
    | some q =>
      have hq := (fb_some hb).1
      have hb2 : fb (fun _ => true) (fun a b => decide (sg * sWorth L (iN b) false < sg * sWorth L (iN a) false)) k = some q := hb
      simp only [oN_some, iN_nm1 (show q < 2147483648 by omega), ↓reduceIte]
      by_cases hc : sg * sWorth L (iN q) false < sg * sWorth L (iN k) false
      · have : sRich L (k + 1) sg = some k := by simp [sRich, fb, hb2, hc]
        simp [this, oN, hc]
      · have : sRich L (k + 1) sg = some q := by simp [sRich, fb, hb2, hc]
        simp [this, oN, hc]
  · simp only [f_265_8, iN_lt (show pe < 2147483648 by omega) (show pe < 2147483648 by omega), Nat.lt_irrefl, ↓reduceIte]
theorem r_rich (h : RL i L P) (hw : WF pe L) (hpe : P.1 76 0 = iN pe) (sg : Int32) (hN : 70000 ≤ N) : f_177_366 i N P sg = some (oN (sRich L pe sg)) := by
  have hp := hw.1
  refine up (fun n k x => f_177_366_5 i N P n sg x (iN k)) pe (fun k => oN (sRich L k sg)) _ (fun n k hk => ?_) (fun n => ?_) N (by omega)
  · simp only [f_177_366_5, hpe, iN_lt (show k < 2147483648 by omega) (show pe < 2147483648 by omega), hk, r_worth0 h hw hN, ↓reduceIte, Option.bind_some, iN_succ]
    cases hb : sRich L k sg with
    | none =>
      have : sRich L (k + 1) sg = some k := by
        have hb2 : fb (fun _ => true) (fun a b => decide (sg * sWorth L (iN b) false < sg * sWorth L (iN a) false)) k = none := hb
        simp [sRich, fb, hb2]
      simp [this, oN]
    | some q =>
      have hq := (fb_some hb).1
      have hb2 : fb (fun _ => true) (fun a b => decide (sg * sWorth L (iN b) false < sg * sWorth L (iN a) false)) k = some q := hb
      simp only [oN_some, iN_nm1 (show q < 2147483648 by omega), ↓reduceIte]
      by_cases hc : sg * sWorth L (iN q) false < sg * sWorth L (iN k) false
      · have : sRich L (k + 1) sg = some k := by simp [sRich, fb, hb2, hc]
        simp [this, oN, hc]
      · have : sRich L (k + 1) sg = some q := by simp [sRich, fb, hb2, hc]
        simp [this, oN, hc]
  · simp only [f_177_366_5, hpe, iN_lt (show pe < 2147483648 by omega) (show pe < 2147483648 by omega), Nat.lt_irrefl, ↓reduceIte]
/-! bits -/
def orB (p : Nat → Bool) : Nat → Int64
  | 0 => 0
  | n + 1 => orB p n ||| (if p n then (1 : Int64) <<< ((iN n).toInt64 &&& 63) else 0)
theorem or64_0 (a : Int64) : a ||| 0 = a := by simp
def sAged (L : LG) (d : Int32) : Int64 := orB (fun k => stL L k && !decide (L.2.2.1 - L.1 3 k < d)) L.2.1
theorem c_aged (h : CL i L P) (d : Int32) (hN : 70000 ≤ N) : f_272 i N P d = some (sAged L d) := by
  have h40 := h.1
  refine up (fun n k x => f_272_5 i P n d x (iN k)) L.2.1 (orB (fun k => stL L k && !decide (L.2.2.1 - L.1 3 k < d))) _ (fun n k hk => ?_) (fun n => ?_) N (by omega)
  · simp only [f_272_5, c_more h hk, c_stand h (show k < 2147483648 by omega), c_get3 h hk, h.day, ↓reduceIte, Option.bind_some, bI_0, iN_succ, orB]
    by_cases hs : stL L k = true <;> by_cases hd : L.2.2.1 - L.1 3 k < d <;> simp [hs, hd]
  · simp only [f_272_5, c_end h, ↓reduceIte]; rfl
theorem r_aged (h : RL 477 L P) (d : Int32) (hN : 70000 ≤ N) : f_81_37 N d 0 0 P = some (sAged L d, P) := by
  have h40 := h.1
  refine up (fun n k x => f_81_37 n d x (iN k) P) L.2.1 (orB (fun k => stL L k && !decide (L.2.2.1 - L.1 3 k < d))) _ (fun n k hk => ?_) (fun n => ?_) N (by omega)
  · simp only [f_81_37, r_more h hk, r_stand h (show k < 2147483648 by omega), r_of3 h hk, h.day, ↓reduceIte, Option.bind_some, bI_0, iN_succ, orB]
    by_cases hs : stL L k = true <;> by_cases hd : L.2.2.1 - L.1 3 k < d <;> simp [hs, hd]
  · simp only [f_81_37, r_end h, ↓reduceIte]; rfl
end Q3
