/-! writing in a row: the reference -/
def sE (i : Nat) (b : Nat) (_ : Nat) : Prop := b = i
theorem sE_ (i j : Nat) : sE i i j := rfl
section RR
variable {i : Nat} {L : LG} {P : ab_P} {f k n N : Nat} {v x : Int32} {c : Nat → Int32}
theorem RL.set (h : RL i L P) (hf : f < 9) (hk : k < L.2.1) : RL i (lSet L f k v) (ab_pI P i (9 * k + f) v) := by
  have h40 := h.1
  refine ⟨h.1, ?_, ?_, fun j h1 h2 => ?_, fun f' hf' k' hk' => ?_⟩
  · rw [pI_nj (by omega)]; exact h.2.1
  · rw [pI_nj (by omega)]; exact h.2.2.1
  · rw [pI_nj (by omega)]; exact h.2.2.2.1 j h1 h2
  · have hk'' : k' < L.2.1 := hk'
    rw [pI_at]
    show _ = if f' = f ∧ k' = k then v else L.1 f' k'
    by_cases he : f' = f ∧ k' = k
    · rw [if_pos he, if_pos ⟨rfl, by rw [he.1, he.2]⟩]
    · rw [if_neg he, if_neg (by omega)]
      exact h.2.2.2.2 f' hf' k' hk'
theorem RL.tot (h : RL i L P) {j : Nat} (h1 : 1 ≤ j) (h5 : j < 5) : RL i (lTot L j x) (ab_pI P i (361 + j) (P.1 i (361 + j) + x)) := by
  have h40 := h.1
  refine ⟨h.1, ?_, ?_, fun j' h1' h2' => ?_, fun f' hf' k' hk' => ?_⟩
  · rw [pI_nj (by omega)]; exact h.2.1
  · rw [pI_nj (by omega)]; exact h.2.2.1
  · rw [pI_at]
    show _ = if j' = j then L.2.2.2 j + x else L.2.2.2 j'
    by_cases he : j' = j
    · rw [if_pos ⟨rfl, by rw [he]⟩, if_pos he, h.2.2.2.1 j h1 h5]
    · rw [if_neg (by omega), if_neg he]
      exact h.2.2.2.1 j' h1' h2'
  · have hk'' : k' < L.2.1 := hk'
    rw [pI_nj (by omega)]; exact h.2.2.2.2 f' hf' k' hk'
theorem RL.dayU (h : RL i L P) : RL i (lDay L x) (ab_pI P i 361 (P.1 i 361 + x)) := by
  have h40 := h.1
  refine ⟨h.1, ?_, ?_, fun j' h1' h2' => ?_, fun f' hf' k' hk' => ?_⟩
  · rw [pI_nj (by omega)]; exact h.2.1
  · rw [pI_eq, h.2.2.1]; rfl
  · rw [pI_nj (by omega)]; exact h.2.2.2.1 j' h1' h2'
  · have hk'' : k' < L.2.1 := hk'
    rw [pI_nj (by omega)]; exact h.2.2.2.2 f' hf' k' hk'
/-- one more is counted, its fields are still to come -/
def RLx (i : Nat) (L : LG) (P : ab_P) : Prop := L.2.1 < 40 ∧ P.1 i 360 = iN (L.2.1 + 1) ∧ P.1 i 361 = L.2.2.1 ∧ (∀ j, 1 ≤ j → j < 5 → P.1 i (361 + j) = L.2.2.2 j) ∧ ∀ f, f < 9 → ∀ k, k < L.2.1 → P.1 i (9 * k + f) = L.1 f k
theorem RL.more (h : RL i L P) (hm : L.2.1 < 40) : RLx i L (ab_pI P i 360 (P.1 i 360 + 1)) := by
  refine ⟨hm, ?_, ?_, fun j' h1' h2' => ?_, fun f' hf' k' hk' => ?_⟩
  · rw [pI_eq, h.2.1, iN_succ]
  · rw [pI_nj (by omega)]; exact h.2.2.1
  · rw [pI_nj (by omega)]; exact h.2.2.2.1 j' h1' h2'
  · rw [pI_nj (by omega)]; exact h.2.2.2.2 f' hf' k' hk'
theorem RLx.raw (h : RLx i L P) (hf : f < 9) : RLx i L (ab_pI P i (9 * L.2.1 + f) v) := by
  obtain ⟨h0, h1, h2, h3, h4⟩ := h
  refine ⟨h0, ?_, ?_, fun j' h1' h2' => ?_, fun f' hf' k' hk' => ?_⟩
  · rw [pI_nj (by omega)]; exact h1
  · rw [pI_nj (by omega)]; exact h2
  · rw [pI_nj (by omega)]; exact h3 j' h1' h2'
  · rw [pI_nj (by omega)]; exact h4 f' hf' k' hk'
theorem RLx.pushed (h : RLx i L P) (hc : ∀ f, f < 9 → P.1 i (9 * L.2.1 + f) = c f) : RL i (lPush L c) P := by
  obtain ⟨h0, h1, h2, h3, h4⟩ := h
  refine ⟨by show L.2.1 + 1 ≤ 40; omega, h1, h2, h3, fun f' hf' k' hk' => ?_⟩
  have hk'' : k' < L.2.1 + 1 := hk'
  show _ = if k' = L.2.1 then c f' else L.1 f' k'
  by_cases he : k' = L.2.1
  · rw [if_pos he, he]; exact hc f' hf'
  · rw [if_neg he]; exact h4 f' hf' k' (by omega)
theorem r_put (hf : f < 9) (hk : k < 40) : f_281_366 i (iN k) (iN f) v P = some (ab_pI P i (9 * k + f) v) := by
  unfold f_281_366
  have e : (9 : Int32) * iN k + iN f = iN (9 * k + f) := by rw [iN_lit 9, iN_mul, iN_add]
  rw [e, if_pos (iN_gi (by omega) (by omega)), iN_nat (by omega)]
  rfl
theorem r_add (h : RL i L P) (on ho sz tr : Int32) : TT (f_197_366 i on ho sz tr P) (fun q => (q.1 = if L.2.1 < 40 then iN L.2.1 else -1) ∧ RL i (sAdd L on ho sz tr) q.2 ∧ fr (sE i) P q.2) := by
  have h40 := h.1
  unfold f_197_366 sAdd
  rw [h.made]
  by_cases hm : L.2.1 < 40
  · have st : ∀ (f : Nat) (v : Int32) (P : ab_P), f < 9 → f_281_366 i (iN L.2.1) (iN f) v P = some (ab_pI P i (9 * L.2.1 + f) v) := fun f v P hf => r_put hf hm
    rw [if_neg (by rw [iN_eql (by omega) (by decide)]; exact (by omega : ¬ L.2.1 = 40)), if_pos hm, if_pos hm]
    have m0 := h.more hm
    rw [h.made] at m0
    refine TT_lt ?_
    rw [show ∀ P, f_281_366 i (iN L.2.1) (0 : Int32) on P = _ from fun P => st 0 on P (by decide), Option.bind_some]
    rw [show ∀ P, f_281_366 i (iN L.2.1) (1 : Int32) ho P = _ from fun P => st 1 ho P (by decide), Option.bind_some]
    rw [show ∀ P, f_281_366 i (iN L.2.1) (2 : Int32) sz P = _ from fun P => st 2 sz P (by decide), Option.bind_some]
    have m3 := ((m0.raw (f := 0) (v := on) (by decide)).raw (f := 1) (v := ho) (by decide)).raw (f := 2) (v := sz) (by decide)
    rw [m3.2.2.1]
    rw [show ∀ P, f_281_366 i (iN L.2.1) (3 : Int32) L.2.2.1 P = _ from fun P => st 3 _ P (by decide), Option.bind_some]
    rw [show ∀ P, f_281_366 i (iN L.2.1) (4 : Int32) (0 : Int32) P = _ from fun P => st 4 _ P (by decide), Option.bind_some]
    rw [show ∀ P, f_281_366 i (iN L.2.1) (5 : Int32) (0 : Int32) P = _ from fun P => st 5 _ P (by decide), Option.bind_some]
    rw [show ∀ P, f_281_366 i (iN L.2.1) (6 : Int32) tr P = _ from fun P => st 6 tr P (by decide), Option.bind_some]
    rw [show ∀ P, f_281_366 i (iN L.2.1) (7 : Int32) (0 : Int32) P = _ from fun P => st 7 _ P (by decide), Option.bind_some]
    rw [show ∀ P, f_281_366 i (iN L.2.1) (8 : Int32) (-1 : Int32) P = _ from fun P => st 8 _ P (by decide), Option.bind_some]
    have m9 := (((((m3.raw (f := 3) (v := L.2.2.1) (by decide)).raw (f := 4) (v := 0) (by decide)).raw (f := 5) (v := 0) (by decide)).raw (f := 6) (v := tr) (by decide)).raw (f := 7) (v := 0) (by decide)).raw (f := 8) (v := -1) (by decide)
    have cp := m9.pushed (c := colA on ho sz L.2.2.1 tr) (fun f hf => by
      simp only [uI_at, true_and]
      rcases (show f = 0 ∨ f = 1 ∨ f = 2 ∨ f = 3 ∨ f = 4 ∨ f = 5 ∨ f = 6 ∨ f = 7 ∨ f = 8 by omega) with rfl | rfl | rfl | rfl | rfl | rfl | rfl | rfl | rfl <;> simp [colA])
    refine TT_lt (TT_some ⟨rfl, cp.tot (j := 1) (by decide) (by decide), ?_⟩)
    exact ((((((((((fr.I (sE_ _ _)).tr (fr.I (sE_ _ _))).tr (fr.I (sE_ _ _))).tr (fr.I (sE_ _ _))).tr (fr.I (sE_ _ _))).tr (fr.I (sE_ _ _))).tr (fr.I (sE_ _ _))).tr (fr.I (sE_ _ _))).tr (fr.I (sE_ _ _))).tr (fr.I (sE_ _ _))).tr (fr.I (sE_ _ _))
  · rw [if_pos (by rw [iN_eql (by omega) (by decide)]; exact (by omega : L.2.1 = 40)), if_neg hm, if_neg hm]
    exact TT_some ⟨rfl, h, fr.rf⟩
theorem r_gone (h : RL i L P) (hk : k < L.2.1) {t : Nat} (h1 : 1 ≤ t) (h4 : t ≤ 4) : TT (f_223_366 i (iN k) (iN t) P) (fun q => RL i (sGone L k t) q ∧ fr (sE i) P q) := by
  have h40 := h.1
  unfold f_223_366 sGone
  have hset := h.set (f := 7) (v := iN t) (by decide) hk
  rw [show f_281_366 i (iN k) (7 : Int32) (iN t) P = _ from r_put (f := 7) (by decide) (by omega), Option.bind_some]
  by_cases h3 : t < 4
  · rw [if_pos (by rw [iN_ltl (by omega) (by decide)]; exact h3), iN_lit 362, iN_add, if_pos (iN_gi (by omega) (by omega)), r_of2 hset (by exact hk), Option.bind_some, if_pos (iN_gi (by omega) (by omega)), iN_nat (by omega), if_pos h3]
    have e2 : (lSet L 7 k (iN t)).1 2 k = L.1 2 k := rfl
    rw [e2]
    have ht := hset.tot (j := t + 1) (x := L.1 2 k) (by omega) (by omega)
    rw [show 361 + (t + 1) = 362 + t by omega] at ht
    exact TT_lt (TT_some ⟨ht, (fr.I (sE_ _ _)).tr (fr.I (sE_ _ _))⟩)
  · rw [if_neg (by rw [iN_ltl (by omega) (by decide)]; exact h3), if_neg h3]
    exact TT_some ⟨hset, fr.I (sE_ _ _)⟩
theorem r_passes (h : RL i L P) (hk : k < L.2.1) (b : Nat) : TT (f_219_366 i (iN k) (iN b) P) (fun q => RL i (sPass L k b) q ∧ fr (sE i) P q) := by
  have h40 := h.1
  have c1 := h.set (f := 1) (v := iN b) (by decide) hk
  have c2 := c1.set (f := 4) (k := k) (v := L.1 4 k + 1) (by decide) hk
  unfold f_219_366 sPass
  rw [show f_281_366 i (iN k) (1 : Int32) (iN b) P = _ from r_put (f := 1) (by decide) (by omega), Option.bind_some, r_of4 c1 (by exact hk), Option.bind_some]
  rw [show (lSet L 1 k (iN b)).1 4 k = L.1 4 k from rfl, show ∀ P, f_281_366 i (iN k) (4 : Int32) (L.1 4 k + 1) P = _ from fun P => r_put (f := 4) (by decide) (by omega), Option.bind_some, r_of0 c2 (by exact hk), Option.bind_some]
  rw [show (lSet (lSet L 1 k (iN b)) 4 k (L.1 4 k + 1)).1 0 k = L.1 0 k from rfl]
  by_cases h0 : L.1 0 k = iN b
  · rw [if_pos h0, if_pos h0]
    refine TT_bind (r_gone c2 (by exact hk) (t := 3) (by decide) (by decide)) (fun P1 hv => TT_some ⟨hv.1, ((fr.I (sE_ _ _)).tr (fr.I (sE_ _ _))).tr hv.2⟩)
  · rw [if_neg h0, if_neg h0]
    exact TT_some ⟨c2, (fr.I (sE_ _ _)).tr (fr.I (sE_ _ _))⟩
theorem r_splits (h : RL i L P) (hk : k < L.2.1) (n0 : Int32) (hN : 70000 ≤ N) : TT (f_220_366 i N (iN k) n0 P) (fun q => q.1 = bI (decide (n0 < L.1 2 k) && decide (L.2.1 < 40)) ∧ RL i (if n0 < L.1 2 k ∧ L.2.1 < 40 then sSplit L k n0 else L) q.2 ∧ fr (sE i) P q.2) := by
  have h40 := h.1
  unfold f_220_366
  rw [r_of2 h hk, Option.bind_some, h.made]
  by_cases h1 : n0 < L.1 2 k
  · by_cases h2 : L.2.1 < 40
    · rw [if_pos h1, if_neg (by rw [iN_eql (by omega) (by decide)]; exact (by omega : ¬ L.2.1 = 40)), decide_eq_true h1, decide_eq_true h2, if_pos ⟨h1, h2⟩]
      have m0 := h.more h2
      rw [h.made] at m0
      refine TT_lt ?_
      have mk : ∀ P1, RLx i L P1 → ∀ f, f < 9 → f_135_366 i P1 (iN k) (iN f) = some (L.1 f k) := fun P1 hx f hf => by
        rw [r_raw hf (by omega), hx.2.2.2.2 f hf k hk]
      refine upT (fun n f (q : ab_P) => f_220_366_40 i n (iN k) n0 (iN L.2.1) (iN f) q) 9 (fun f q => RLx i L q ∧ (∀ g, g < f → q.1 i (9 * L.2.1 + g) = L.1 g k) ∧ fr (sE i) P q) _ (fun n f P1 hf hi => ?_) (fun n P1 hi => ?_) N _ ⟨m0, fun g hg => absurd hg (Nat.not_lt_zero _), fr.I (sE_ _ _)⟩ (by omega)
      · obtain ⟨e1, e2, e3⟩ := hi
        show ∃ s', f_220_366_40 i (n + 1) (iN k) n0 (iN L.2.1) (iN f) P1 = _ ∧ _
        simp only [f_220_366_40, iN_ltl (show f < 2147483648 by omega) (show 9 < 2147483648 by decide), hf, mk P1 e1 f hf, Option.bind_some, r_put (i := i) (P := P1) (v := L.1 f k) hf h2, iN_succ, ↓reduceIte]
        refine ⟨_, rfl, e1.raw hf, fun g hg => ?_, e3.tr (fr.I (sE_ _ _))⟩
        rw [pI_at]
        by_cases hgf : g = f
        · rw [if_pos ⟨rfl, by rw [hgf]⟩, hgf]
        · rw [if_neg (by omega)]; exact e2 g (by omega)
      · obtain ⟨e1, e2, e3⟩ := hi
        simp only [f_220_366_40, iN_ltl (show 9 < 2147483648 by omega) (show 9 < 2147483648 by decide), Nat.lt_irrefl, ↓reduceIte]
        rw [show f_135_366 i P1 (iN k) (2 : Int32) = some (L.1 2 k) from mk P1 e1 2 (by decide), Option.bind_some, show ∀ v P, f_281_366 i (iN L.2.1) (2 : Int32) v P = _ from fun v P => r_put (f := 2) (by decide) h2, Option.bind_some, show ∀ v P, f_281_366 i (iN k) (2 : Int32) v P = _ from fun v P => r_put (f := 2) (by decide) (by omega), Option.bind_some]
        have p1 := (e1.raw (f := 2) (v := L.1 2 k - n0) (by decide)).pushed (c := colS L k (L.1 2 k - n0)) (fun g hg => by
          rw [pI_at]
          unfold colS
          by_cases hg2 : g = 2
          · rw [if_pos ⟨rfl, by rw [hg2]⟩, if_pos hg2]
          · rw [if_neg (by omega), if_neg hg2]
            exact e2 g hg)
        have p2 := p1.set (f := 2) (k := k) (v := n0) (by decide) (by show k < L.2.1 + 1; omega)
        have he : lSet (lPush L (colS L k (L.1 2 k - n0))) 2 k n0 = sSplit L k n0 := by
          unfold sSplit lSet lPush
          dsimp only
          congr 1
          funext f' k'
          by_cases a1 : k' = L.2.1
          · rw [if_pos a1, if_neg (by omega), if_pos a1]
          · rw [if_neg a1, if_neg a1]
        rw [he] at p2
        exact TT_some ⟨rfl, p2, (e3.tr (fr.I (sE_ _ _))).tr (fr.I (sE_ _ _))⟩
    · rw [if_pos h1, if_pos (by rw [iN_eql (by omega) (by decide)]; exact (by omega : L.2.1 = 40)), decide_eq_false h2, if_neg (fun e => h2 e.2)]
      exact TT_some ⟨by simp [bI], h, fr.rf⟩
  · rw [if_neg h1, decide_eq_false h1, if_neg (fun e => h1 e.1)]
    exact TT_some ⟨by simp [bI], h, fr.rf⟩
theorem r_joins {j : Nat} (h : RL i L P) (hk : k < L.2.1) (hj : j < 2147483648) (hne : k ≠ j) : TT (f_221_366 i (iN k) (iN j) P) (fun q => q.1 = bI (jOk L k j) ∧ RL i (if jOk L k j then sJoin L k j else L) q.2 ∧ fr (sE i) P q.2) := by
  have h40 := h.1
  unfold f_221_366
  rw [r_stand h hj, Option.bind_some]
  have no : jOk L k j = false → TT (some ((0 : Int32), P)) (fun q => q.1 = bI (jOk L k j) ∧ RL i (if jOk L k j then sJoin L k j else L) q.2 ∧ fr (sE i) P q.2) := fun hn => by
    rw [hn]
    exact TT_some ⟨rfl, h, fr.rf⟩
  cases hsj : stL L j with
  | false =>
    rw [if_pos (by rw [bI_0])]
    exact no (by unfold jOk; rw [hsj]; rfl)
  | true =>
    have hjl := stL_lt hsj
    rw [if_neg (by rw [bI_0]; decide), r_of0 h hk, Option.bind_some, r_of0 h hjl, Option.bind_some]
    by_cases h0 : L.1 0 k = L.1 0 j
    · rw [if_pos h0, r_of1 h hk, Option.bind_some, r_of1 h hjl, Option.bind_some]
      by_cases h1 : L.1 1 k = L.1 1 j
      · rw [if_pos h1, r_of6 h hk, Option.bind_some, r_of6 h hjl, Option.bind_some]
        by_cases h6 : L.1 6 k = L.1 6 j
        · rw [if_pos h6, r_of2 h hk, Option.bind_some, r_of2 h hjl, Option.bind_some]
          by_cases h9 : (9999 : Int32) < L.1 2 k + L.1 2 j
          · rw [if_pos h9]
            exact no (by unfold jOk; simp [h9])
          · have hy : jOk L k j = true := by unfold jOk; simp [hsj, h0, h1, h6, h9]
            have c1 := h.set (f := 2) (v := L.1 2 k + L.1 2 j) (by decide) hk
            rw [if_neg h9, Option.bind_some, Option.bind_some, show f_281_366 i (iN k) (2 : Int32) (L.1 2 k + L.1 2 j) P = _ from r_put (f := 2) (by decide) (by omega), Option.bind_some, hy]
            refine TT_bind (r_gone c1 (by exact hjl) (t := 4) (by decide) (by decide)) (fun P1 hv => TT_some ⟨rfl, hv.1, (fr.I (sE_ _ _)).tr hv.2⟩)
        · rw [if_neg h6]; exact no (by unfold jOk; simp [h6])
      · rw [if_neg h1]; exact no (by unfold jOk; simp [h1])
    · rw [if_neg h0]; exact no (by unfold jOk; simp [h0])
theorem r_tell {pe it : Nat} (h : RL i L P) (hw : WF pe L) (hk : k < L.2.1) (hi : it ≤ 50) (hit : P.1 76 2 = iN it) : TT (f_222_366 i (iN k) P) (fun q => q.1 = bI (!decide (L.1 8 k = L.2.2.1)) ∧ RL i (if L.1 8 k = L.2.2.1 then L else sTell L k it) q.2 ∧ fr (sE i) P q.2) := by
  have h40 := h.1
  obtain ⟨z1, z2, z3⟩ := hw.sz hk
  unfold f_222_366
  rw [r_of8 h hk, Option.bind_some, h.day]
  by_cases h8 : L.1 8 k = L.2.2.1
  · rw [if_pos h8, if_pos h8, decide_eq_true h8]
    exact TT_some ⟨rfl, h, fr.rf⟩
  · rw [if_neg h8, if_neg h8, decide_eq_false h8, r_of2 h hk, Option.bind_some]
    rw [show f_270 P (L.1 2 k) = some (iN (gN it (szP L k))) by rw [z1]; exact r_grow hit z3 hi, Option.bind_some, Option.bind_some]
    have c1 := h.tot (j := 1) (x := iN (gN it (szP L k)) - L.1 2 k) (by decide) (by decide)
    have c2 := c1.set (f := 2) (v := iN (gN it (szP L k))) (by decide) hk
    have c3 := c2.set (f := 5) (v := L.1 5 k + 1) (by decide) hk
    have c4 := c3.set (f := 8) (v := L.2.2.1) (by decide) hk
    refine TT_lt ?_
    rw [show ∀ v P, f_281_366 i (iN k) (2 : Int32) v P = _ from fun v P => r_put (f := 2) (by decide) (by omega), Option.bind_some, r_of5 c2 (by exact hk), Option.bind_some]
    rw [show (lSet (lTot L 1 (iN (gN it (szP L k)) - L.1 2 k)) 2 k (iN (gN it (szP L k)))).1 5 k = L.1 5 k from rfl]
    rw [show ∀ v P, f_281_366 i (iN k) (5 : Int32) v P = _ from fun v P => r_put (f := 5) (by decide) (by omega), Option.bind_some, c3.day]
    rw [show (lSet (lSet (lTot L 1 (iN (gN it (szP L k)) - L.1 2 k)) 2 k (iN (gN it (szP L k)))) 5 k (L.1 5 k + 1)).2.2.1 = L.2.2.1 from rfl]
    rw [show ∀ v P, f_281_366 i (iN k) (8 : Int32) v P = _ from fun v P => r_put (f := 8) (by decide) (by omega), Option.bind_some]
    exact TT_some ⟨rfl, c4, (((fr.I (sE_ _ _)).tr (fr.I (sE_ _ _))).tr (fr.I (sE_ _ _))).tr (fr.I (sE_ _ _))⟩
/-- a copy of a row -/
theorem r_copy {i2 : Nat} (hne : i ≠ i2) (hN : 70000 ≤ N) : TT (f_123_366_366 i i2 N P) (fun q => (∀ j, j < 366 → q.1 i2 j = P.1 i j) ∧ fr (sE i2) P q) := by
  unfold f_123_366_366
  refine upT (fun n k (s : ab_P) => f_123_366_366_2 i i2 n (iN k) s) 366 (fun k q => (∀ j, j < k → q.1 i2 j = P.1 i j) ∧ fr (sE i2) P q) _ (fun n k P1 hk hi => ?_) (fun n P1 hi => ?_) N P ⟨fun s hs => absurd hs (Nat.not_lt_zero _), fr.rf⟩ (by omega)
  · obtain ⟨e1, e2⟩ := hi
    show ∃ s', f_123_366_366_2 i i2 (n + 1) (iN k) P1 = _ ∧ _
    simp only [f_123_366_366_2, iN_ltl (show k < 2147483648 by omega) (show 366 < 2147483648 by decide), hk, iN_gT hk (show 366 ≤ 2147483648 by decide), iN_nat (show k < 2147483648 by omega), iN_succ, ab_lt, ↓reduceIte]
    refine ⟨_, rfl, fun s hs => ?_, e2.tr (fr.I (sE_ _ _))⟩
    rw [pI_at]
    by_cases hsk : s = k
    · rw [if_pos ⟨rfl, hsk⟩, hsk, e2.1 i k (show ¬ sE i2 i k from hne)]
    · rw [if_neg (fun e => hsk e.2)]; exact e1 s (by omega)
  · obtain ⟨e1, e2⟩ := hi
    simp only [f_123_366_366_2, iN_ltl (show 366 < 2147483648 by omega) (show 366 < 2147483648 by decide), Nat.lt_irrefl, ↓reduceIte]
    exact TT_some ⟨e1, e2⟩
theorem RL.of {i2 : Nat} {P' : ab_P} (h : RL i L P) (e : ∀ j, j < 366 → P'.1 i2 j = P.1 i j) : RL i2 L P' := by
  have h40 := h.1
  refine ⟨h.1, ?_, ?_, fun j h1 h2 => ?_, fun f hf k hk => ?_⟩
  · rw [e _ (by omega)]; exact h.2.1
  · rw [e _ (by omega)]; exact h.2.2.1
  · rw [e _ (by omega)]; exact h.2.2.2.1 j h1 h2
  · rw [e _ (by omega)]; exact h.2.2.2.2 f hf k hk
end RR
