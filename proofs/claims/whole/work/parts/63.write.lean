/-! writing in a ledger -/
def lSet (L : LG) (f k : Nat) (v : Int32) : LG := (fun f' k' => if f' = f ∧ k' = k then v else L.1 f' k', L.2)
def lTot (L : LG) (j : Nat) (x : Int32) : LG := (L.1, L.2.1, L.2.2.1, fun j' => if j' = j then L.2.2.2 j + x else L.2.2.2 j')
def lDay (L : LG) (d : Int32) : LG := (L.1, L.2.1, L.2.2.1 + d, L.2.2.2)
def lPush (L : LG) (c : Nat → Int32) : LG := (fun f k => if k = L.2.1 then c f else L.1 f k, L.2.1 + 1, L.2.2)
def sI (i : Nat) (b : Nat) (_ : Nat) : Prop := i ≤ b ∧ b ≤ i + 2
section WR
variable {i : Nat} {L : LG} {P : ab_P} {f k n N : Nat} {v x : Int32} {c : Nat → Int32}
theorem CL.set (h : CL i L P) (hf : f < 9) (hk : k < L.2.1) : CL i (lSet L f k v) (ab_pI P (i + 1) (f * 40 + k) v) := by
  have h40 := h.1
  refine ⟨h.1, ?_, ?_, fun j h1 h2 => ?_, fun f' hf' k' hk' => ?_⟩
  · rw [pI_ne (by omega)]; exact h.2.1
  · rw [pI_ne (by omega)]; exact h.2.2.1
  · rw [pI_ne (by omega)]; exact h.2.2.2.1 j h1 h2
  · have hk'' : k' < L.2.1 := hk'
    rw [pI_at]
    show _ = if f' = f ∧ k' = k then v else L.1 f' k'
    by_cases he : f' = f ∧ k' = k
    · rw [if_pos he, if_pos ⟨rfl, by rw [he.1, he.2]⟩]
    · rw [if_neg he, if_neg (by omega)]
      exact h.2.2.2.2 f' hf' k' hk'
theorem CL.tot (h : CL i L P) {j : Nat} (h1 : 1 ≤ j) (h5 : j < 5) : CL i (lTot L j x) (ab_pI P (i + 2) j (P.1 (i + 2) j + x)) := by
  refine ⟨h.1, ?_, ?_, fun j' h1' h2' => ?_, fun f' hf' k' hk' => ?_⟩
  · rw [pI_ne (by omega)]; exact h.2.1
  · rw [pI_ne (by omega)]; exact h.2.2.1
  · rw [pI_at]
    show _ = if j' = j then L.2.2.2 j + x else L.2.2.2 j'
    by_cases he : j' = j
    · rw [if_pos ⟨rfl, he⟩, if_pos he, h.2.2.2.1 j h1 h5]
    · rw [if_neg (fun e => he e.2), if_neg he]
      exact h.2.2.2.1 j' h1' h2'
  · rw [pI_ne (by omega)]; exact h.2.2.2.2 f' hf' k' hk'
theorem CL.dayU (h : CL i L P) : CL i (lDay L x) (ab_pI P i 3 (P.1 i 3 + x)) := by
  refine ⟨h.1, ?_, ?_, fun j' h1' h2' => ?_, fun f' hf' k' hk' => ?_⟩
  · rw [pI_nj (by omega)]; exact h.2.1
  · rw [pI_eq, h.2.2.1]; rfl
  · rw [pI_ne (by omega)]; exact h.2.2.2.1 j' h1' h2'
  · rw [pI_ne (by omega)]; exact h.2.2.2.2 f' hf' k' hk'
theorem CL.raw (h : CL i L P) (hm : L.2.1 < 40) (hf : f < 9) : CL i L (ab_pI P (i + 1) (f * 40 + L.2.1) v) := by
  refine ⟨h.1, ?_, ?_, fun j' h1' h2' => ?_, fun f' hf' k' hk' => ?_⟩
  · rw [pI_ne (by omega)]; exact h.2.1
  · rw [pI_ne (by omega)]; exact h.2.2.1
  · rw [pI_ne (by omega)]; exact h.2.2.2.1 j' h1' h2'
  · rw [pI_nj (by omega)]; exact h.2.2.2.2 f' hf' k' hk'
theorem CL.pushed (h : CL i L P) (hm : L.2.1 < 40) (hc : ∀ f, f < 9 → P.1 (i + 1) (f * 40 + L.2.1) = c f) : CL i (lPush L c) (ab_pI P i 2 (P.1 i 2 + 1)) := by
  refine ⟨by show L.2.1 + 1 ≤ 40; omega, ?_, ?_, fun j' h1' h2' => ?_, fun f' hf' k' hk' => ?_⟩
  · rw [pI_eq, h.2.1, iN_succ]; rfl
  · rw [pI_nj (by omega)]; exact h.2.2.1
  · rw [pI_ne (by omega)]; exact h.2.2.2.1 j' h1' h2'
  · have hk'' : k' < L.2.1 + 1 := hk'
    rw [pI_ne (by omega)]
    show _ = if k' = L.2.1 then c f' else L.1 f' k'
    by_cases he : k' = L.2.1
    · rw [if_pos he, he]; exact hc f' hf'
    · rw [if_neg he]; exact h.2.2.2.2 f' hf' k' (by omega)
theorem c_set (hf : f < 9) (hk : k < 40) : f_325 i (iN f) (iN k) v P = some (ab_pI P (i + 1) (f * 40 + k) v) := by
  unfold f_325
  have e : iN f * 40 + iN k = iN (f * 40 + k) := by rw [iN_lit 40, iN_mul, iN_add]
  rw [if_neg (by rw [iN_neg (by omega)]; exact id), if_pos (by rw [iN_ltl (by omega) (by decide)]; exact hf), if_neg (by rw [iN_neg (by omega)]; exact id), if_pos (by rw [iN_ltl (by omega) (by decide)]; exact hk), e, if_pos (iN_gi (by omega) (by omega)), iN_nat (by omega)]
  rfl
/-- a claim more -/
def colA (on ho sz dy tr : Int32) : Nat → Int32 := fun f => match f with
  | 0 => on
  | 1 => ho
  | 2 => sz
  | 3 => dy
  | 4 => 0
  | 5 => 0
  | 6 => tr
  | 7 => 0
  | _ => -1
def sAdd (L : LG) (on ho sz tr : Int32) : LG := if L.2.1 < 40 then lTot (lPush L (colA on ho sz L.2.2.1 tr)) 1 sz else L
theorem c_add (h : CL i L P) (on ho sz tr : Int32) : TT (f_285 i on ho sz tr P) (fun q => q.1 = bI (decide (L.2.1 < 40)) ∧ CL i (sAdd L on ho sz tr) q.2 ∧ fr (sI i) P q.2) := by
  have h40 := h.1
  unfold f_285 sAdd
  rw [h.made, if_neg (by rw [iN_neg (by omega)]; exact id)]
  by_cases hm : L.2.1 < 40
  · have st : ∀ (f : Nat) (v : Int32) (P : ab_P), f < 9 → f_325 i (iN f) (iN L.2.1) v P = some (ab_pI P (i + 1) (f * 40 + L.2.1) v) := fun f v P hf => c_set hf hm
    have n1 : ∀ (P : ab_P) (a : Nat) (v : Int32) (j : Nat), (ab_pI P (i + 1) a v).1 i j = P.1 i j := fun P a v j => pI_ne (by omega)
    rw [if_pos (by rw [iN_ltl (by omega) (by decide)]; exact hm), decide_eq_true hm, if_pos hm]
    rw [show f_325 i (0 : Int32) (iN L.2.1) on P = _ from st 0 on P (by decide), Option.bind_some, n1, h.made]
    rw [show ∀ P, f_325 i (1 : Int32) (iN L.2.1) ho P = _ from fun P => st 1 ho P (by decide), Option.bind_some, n1, n1, h.made]
    rw [show ∀ P, f_325 i (2 : Int32) (iN L.2.1) sz P = _ from fun P => st 2 sz P (by decide), Option.bind_some, n1, n1, n1, h.made, n1, n1, n1, h.day]
    rw [show ∀ P, f_325 i (3 : Int32) (iN L.2.1) L.2.2.1 P = _ from fun P => st 3 _ P (by decide), Option.bind_some, n1, n1, n1, n1, h.made]
    rw [show ∀ P, f_325 i (4 : Int32) (iN L.2.1) (0 : Int32) P = _ from fun P => st 4 _ P (by decide), Option.bind_some, n1, n1, n1, n1, n1, h.made]
    rw [show ∀ P, f_325 i (5 : Int32) (iN L.2.1) (0 : Int32) P = _ from fun P => st 5 _ P (by decide), Option.bind_some, n1, n1, n1, n1, n1, n1, h.made]
    rw [show ∀ P, f_325 i (6 : Int32) (iN L.2.1) tr P = _ from fun P => st 6 _ P (by decide), Option.bind_some, n1, n1, n1, n1, n1, n1, n1, h.made]
    rw [show ∀ P, f_325 i (7 : Int32) (iN L.2.1) (0 : Int32) P = _ from fun P => st 7 _ P (by decide), Option.bind_some, n1, n1, n1, n1, n1, n1, n1, n1, h.made]
    rw [show ∀ P, f_325 i (8 : Int32) (iN L.2.1) (-1 : Int32) P = _ from fun P => st 8 _ P (by decide), Option.bind_some]
    have c9 := ((((((((h.raw (v := on) hm (show 0 < 9 by decide)).raw (v := ho) hm (show 1 < 9 by decide)).raw (v := sz) hm (show 2 < 9 by decide)).raw (v := L.2.2.1) hm (show 3 < 9 by decide)).raw (v := 0) hm (show 4 < 9 by decide)).raw (v := 0) hm (show 5 < 9 by decide)).raw (v := tr) hm (show 6 < 9 by decide)).raw (v := 0) hm (show 7 < 9 by decide)).raw (v := -1) hm (show 8 < 9 by decide)
    have cp := c9.pushed (c := colA on ho sz L.2.2.1 tr) hm (fun f hf => by
      simp only [uI_at, true_and]
      rcases (show f = 0 ∨ f = 1 ∨ f = 2 ∨ f = 3 ∨ f = 4 ∨ f = 5 ∨ f = 6 ∨ f = 7 ∨ f = 8 by omega) with rfl | rfl | rfl | rfl | rfl | rfl | rfl | rfl | rfl <;> simp [colA])
    refine TT_lt (TT_lt (TT_some ⟨rfl, cp.tot (j := 1) (by decide) (by decide), ?_⟩))
    have s1 : ∀ j, sI i (i + 1) j := fun j => by unfold sI; omega
    have s0 : ∀ j, sI i i j := fun j => by unfold sI; omega
    have s2 : ∀ j, sI i (i + 2) j := fun j => by unfold sI; omega
    exact ((((((((((fr.I (s1 _)).tr (fr.I (s1 _))).tr (fr.I (s1 _))).tr (fr.I (s1 _))).tr (fr.I (s1 _))).tr (fr.I (s1 _))).tr (fr.I (s1 _))).tr (fr.I (s1 _))).tr (fr.I (s1 _))).tr (fr.I (s0 _))).tr (fr.I (s2 _))
  · rw [if_neg (by rw [iN_ltl (by omega) (by decide)]; exact hm), decide_eq_false hm, if_neg hm]
    exact TT_some ⟨rfl, h, fr.rf⟩
/-- a claim ends -/
def sGone (L : LG) (k t : Nat) : LG := if t < 4 then lTot (lSet L 7 k (iN t)) (t + 1) (L.1 2 k) else lSet L 7 k (iN t)
theorem c_gone (h : CL i L P) (hs : stL L k = true) {t : Nat} (h1 : 1 ≤ t) (h4 : t ≤ 4) : TT (f_339 i (iN k) (iN t) P) (fun q => q.1 = 1 ∧ CL i (sGone L k t) q.2 ∧ fr (sI i) P q.2) := by
  have h40 := h.1
  have hk := stL_lt hs
  unfold f_339 sGone
  have s1 : ∀ j, sI i (i + 1) j := fun j => by unfold sI; omega
  have s2 : ∀ j, sI i (i + 2) j := fun j => by unfold sI; omega
  have hset := h.set (f := 7) (v := iN t) (by decide) hk
  rw [c_stand h (by omega), Option.bind_some, if_neg (by rw [bI_0, hs]; decide), show f_325 i (7 : Int32) (iN k) (iN t) P = _ from c_set (f := 7) (by decide) (by omega), Option.bind_some, if_neg (by rw [iN_ltl (by omega) (by decide)]; exact (by omega : ¬ t < 1))]
  by_cases h3 : t < 4
  · rw [if_neg (by rw [iN_lll (by omega) (by decide)]; exact (by omega : ¬ 3 < t)), iN_succ, if_pos (iN_gi (by omega) (by omega)), c_get2 hset (by exact hk), Option.bind_some, if_pos (iN_gi (by omega) (by omega)), iN_nat (by omega), if_pos h3]
    have e2 : (lSet L 7 k (iN t)).1 2 k = L.1 2 k := rfl
    rw [e2]
    exact TT_lt (TT_some ⟨rfl, hset.tot (by omega) (by omega), (fr.I (s1 _)).tr (fr.I (s2 _))⟩)
  · rw [if_pos (by rw [iN_lll (by omega) (by decide)]; exact (by omega : 3 < t)), if_neg h3]
    exact TT_some ⟨rfl, hset, fr.I (s1 _)⟩
theorem c_goneN (h : CL i L P) (hs : stL L k = false) (hk : k < 2147483648) (t : Int32) : f_339 i (iN k) t P = some (0, P) := by
  unfold f_339
  rw [c_stand h hk, Option.bind_some, if_pos (by rw [bI_0]; exact hs)]
/-- a claim goes to another one -/
def sPass (L : LG) (k b : Nat) : LG := if L.1 0 k = iN b then sGone (lSet (lSet L 1 k (iN b)) 4 k (L.1 4 k + 1)) k 3 else lSet (lSet L 1 k (iN b)) 4 k (L.1 4 k + 1)
theorem stL_set {f k' : Nat} (hf : f ≠ 7) : stL (lSet L f k v) k' = stL L k' := by
  unfold stL lSet
  simp only [show ¬ (7 = f ∧ k' = k) from fun e => hf e.1.symm, if_false]
theorem c_give (h : CL i L P) {b : Nat} (hs : stL L k = true) (hb : L.1 1 k ≠ iN b) : TT (f_335 i (iN k) (iN b) P) (fun q => q.1 = 1 ∧ CL i (sPass L k b) q.2 ∧ fr (sI i) P q.2) := by
  have h40 := h.1
  have hk := stL_lt hs
  have s1 : ∀ j, sI i (i + 1) j := fun j => by unfold sI; omega
  have c1 := h.set (f := 1) (v := iN b) (by decide) hk
  have c2 := c1.set (f := 4) (k := k) (v := L.1 4 k + 1) (by decide) hk
  have hs2 : stL (lSet (lSet L 1 k (iN b)) 4 k (L.1 4 k + 1)) k = true := by rw [stL_set (by decide), stL_set (by decide)]; exact hs
  unfold f_335 sPass
  rw [c_stand h (by omega), Option.bind_some, if_neg (by rw [bI_0, hs]; decide), c_get1 h hk, Option.bind_some, if_neg hb, show f_325 i (1 : Int32) (iN k) (iN b) P = _ from c_set (f := 1) (by decide) (by omega), Option.bind_some, c_get4 c1 (by exact hk), Option.bind_some]
  rw [show (lSet L 1 k (iN b)).1 4 k = L.1 4 k from rfl, show ∀ P, f_325 i (4 : Int32) (iN k) (L.1 4 k + 1) P = _ from fun P => c_set (f := 4) (by decide) (by omega), Option.bind_some, c_get0 c2 (by exact hk), Option.bind_some]
  rw [show (lSet (lSet L 1 k (iN b)) 4 k (L.1 4 k + 1)).1 0 k = L.1 0 k from rfl]
  have f2 : fr (sI i) P (ab_pI (ab_pI P (i + 1) (1 * 40 + k) (iN b)) (i + 1) (4 * 40 + k) (L.1 4 k + 1)) := (fr.I (s1 _)).tr (fr.I (s1 _))
  by_cases h0 : L.1 0 k = iN b
  · rw [if_pos h0, if_pos h0]
    refine TT_b2 (c_gone c2 hs2 (t := 3) (by decide) (by decide)) (fun v P1 hv => TT_some ⟨rfl, hv.2.1, f2.tr hv.2.2⟩)
  · rw [if_neg h0, if_neg h0]
    exact TT_some ⟨rfl, c2, f2⟩
theorem c_giveN (h : CL i L P) (b : Int32) (hk : k < 2147483648) (hs : stL L k = false ∨ (stL L k = true ∧ L.1 1 k = b)) : f_335 i (iN k) b P = some (0, P) := by
  unfold f_335
  rw [c_stand h hk, Option.bind_some]
  rcases hs with hs | ⟨hs, hb⟩
  · rw [if_pos (by rw [bI_0]; exact hs)]
  · rw [if_neg (by rw [bI_0, hs]; decide), c_get1 h (stL_lt hs), Option.bind_some, if_pos hb]
/-- a claim is split -/
def colS (L : LG) (k : Nat) (v : Int32) : Nat → Int32 := fun f => if f = 2 then v else L.1 f k
def sSplit (L : LG) (k : Nat) (n : Int32) : LG := lPush (lSet L 2 k n) (colS L k (L.1 2 k - n))
theorem c_split (h : CL i L P) (hs : stL L k = true) (n0 : Int32) (hN : 70000 ≤ N) : TT (f_336 i N (iN k) n0 P) (fun q => q.1 = bI (decide (n0 < L.1 2 k) && decide (L.2.1 < 40)) ∧ CL i (if n0 < L.1 2 k ∧ L.2.1 < 40 then sSplit L k n0 else L) q.2 ∧ fr (sI i) P q.2) := by
  have h40 := h.1
  have hk := stL_lt hs
  have s1 : ∀ j, sI i (i + 1) j := fun j => by unfold sI; omega
  have s0 : ∀ j, sI i i j := fun j => by unfold sI; omega
  unfold f_336
  rw [c_get2 h hk, Option.bind_some, c_stand h (by omega), Option.bind_some, if_neg (by rw [bI_0, hs]; decide), h.made]
  by_cases h1 : n0 < L.1 2 k
  · by_cases h2 : L.2.1 < 40
    · rw [if_pos h1, if_pos (by rw [iN_ltl (by omega) (by decide)]; exact h2), decide_eq_true h1, decide_eq_true h2, if_pos ⟨h1, h2⟩]
      refine upT (fun n f (q : ab_P) => f_336_34 i n (iN k) n0 (L.1 2 k) (iN f) q) 9 (fun f q => CL i L q ∧ (∀ g, g < f → q.1 (i + 1) (g * 40 + L.2.1) = L.1 g k) ∧ fr (sI i) P q) _ (fun n f P1 hf hi => ?_) (fun n P1 hi => ?_) N P ⟨h, fun g hg => absurd hg (Nat.not_lt_zero _), fr.rf⟩ (by omega)
      · obtain ⟨e1, e2, e3⟩ := hi
        show ∃ s', f_336_34 i (n + 1) (iN k) n0 (L.1 2 k) (iN f) P1 = _ ∧ _
        simp only [f_336_34, iN_ltl (show f < 2147483648 by omega) (show 9 < 2147483648 by decide), hf, c_get e1 hf hk, Option.bind_some, e1.made, c_set (i := i) (P := P1) (v := L.1 f k) hf h2, iN_succ, ↓reduceIte]
        refine ⟨_, rfl, e1.raw h2 hf, fun g hg => ?_, e3.tr (fr.I (s1 _))⟩
        rw [pI_at]
        by_cases hgf : g = f
        · rw [if_pos ⟨rfl, by rw [hgf]⟩, hgf]
        · rw [if_neg (by omega)]; exact e2 g (by omega)
      · obtain ⟨e1, e2, e3⟩ := hi
        have cs := e1.set (f := 2) (v := n0) (by decide) hk
        have cr := cs.raw (f := 2) (v := L.1 2 k - n0) (by exact h2) (by decide)
        have cp := cr.pushed (c := colS L k (L.1 2 k - n0)) (by exact h2) (fun g hg => by
          show ab_upI (ab_upI P1.1 (i + 1) _ _) (i + 1) _ _ (i + 1) (g * 40 + L.2.1) = _
          rw [uI_at]
          unfold colS
          by_cases hg2 : g = 2
          · rw [if_pos ⟨rfl, by rw [hg2]; rfl⟩, if_pos hg2]
          · have hsm : (lSet L 2 k n0).2.1 = L.2.1 := rfl
            rw [if_neg (by rw [hsm]; omega), if_neg hg2, uI_at, if_neg (by omega)]
            exact e2 g hg)
        have hmd : (ab_pI P1 (i + 1) (2 * 40 + k) n0).1 i 2 = iN L.2.1 := by rw [pI_ne (by omega)]; exact e1.made
        simp only [f_336_34, iN_ltl (show 9 < 2147483648 by omega) (show 9 < 2147483648 by decide), Nat.lt_irrefl, ↓reduceIte]
        rw [show f_325 i (2 : Int32) (iN k) n0 P1 = _ from c_set (f := 2) (by decide) (by omega), Option.bind_some, hmd, show ∀ P, f_325 i (2 : Int32) (iN L.2.1) (L.1 2 k - n0) P = _ from fun P => c_set (f := 2) (by decide) h2, Option.bind_some]
        exact TT_lt (TT_some ⟨rfl, cp, ((e3.tr (fr.I (s1 _))).tr (fr.I (s1 _))).tr (fr.I (s0 _))⟩)
    · rw [if_pos h1, if_neg (by rw [iN_ltl (by omega) (by decide)]; exact h2), decide_eq_false h2, if_neg (fun e => h2 e.2)]
      exact TT_some ⟨by simp [bI], h, fr.rf⟩
  · rw [if_neg h1, decide_eq_false h1, if_neg (fun e => h1 e.1)]
    exact TT_some ⟨by simp [bI], h, fr.rf⟩
theorem c_splitN (h : CL i L P) (hs : stL L k = false) (hk : k < 40) (n0 : Int32) : f_336 i N (iN k) n0 P = some (0, P) := by
  unfold f_336
  rw [show f_231 i P (2 : Int32) (iN k) = _ from c_raw (f := 2) (by decide) hk, Option.bind_some, c_stand h (by omega), Option.bind_some, if_pos (by rw [bI_0]; exact hs)]
/-- two claims are joined -/
def jOk (L : LG) (k j : Nat) : Bool := stL L j && decide (L.1 0 k = L.1 0 j) && decide (L.1 1 k = L.1 1 j) && decide (L.1 6 k = L.1 6 j) && !decide ((9999 : Int32) < L.1 2 k + L.1 2 j)
def sJoin (L : LG) (k j : Nat) : LG := sGone (lSet L 2 k (L.1 2 k + L.1 2 j)) j 4
theorem c_join {j : Nat} (h : CL i L P) (hs : stL L k = true) (hj : j < 2147483648) (hne : k ≠ j) : TT (f_337 i (iN k) (iN j) P) (fun q => q.1 = bI (jOk L k j) ∧ CL i (if jOk L k j then sJoin L k j else L) q.2 ∧ fr (sI i) P q.2) := by
  have h40 := h.1
  have hk := stL_lt hs
  have s1 : ∀ j, sI i (i + 1) j := fun j => by unfold sI; omega
  unfold f_337
  rw [if_neg (by rw [iN_eq (by omega) hj]; exact hne), c_stand h (by omega), Option.bind_some, if_neg (by rw [bI_0, hs]; decide), c_stand h hj, Option.bind_some]
  cases hsj : stL L j with
  | false =>
    rw [if_pos (by rw [bI_0])]
    have : jOk L k j = false := by unfold jOk; rw [hsj]; rfl
    rw [this]
    exact TT_some ⟨rfl, h, fr.rf⟩
  | true =>
    have hjl := stL_lt hsj
    have no : jOk L k j = false → TT (f_337_75 i (iN k) (iN j) 0 P) (fun q => q.1 = bI (jOk L k j) ∧ CL i (if jOk L k j then sJoin L k j else L) q.2 ∧ fr (sI i) P q.2) := fun hn => by
      unfold f_337_75
      rw [c_get2 h hk, Option.bind_some, c_get2 h hjl, Option.bind_some, if_pos rfl, hn]
      exact TT_some ⟨rfl, h, fr.rf⟩
    rw [if_neg (by rw [bI_0]; decide), c_get0 h hk, Option.bind_some, c_get0 h hjl, Option.bind_some]
    by_cases h0 : L.1 0 k = L.1 0 j
    · rw [if_pos h0, c_get1 h hk, Option.bind_some, c_get1 h hjl, Option.bind_some]
      by_cases h1 : L.1 1 k = L.1 1 j
      · rw [if_pos h1, c_get6 h hk, Option.bind_some, c_get6 h hjl, Option.bind_some]
        by_cases h6 : L.1 6 k = L.1 6 j
        · rw [if_pos h6]
          unfold f_337_75
          rw [c_get2 h hk, Option.bind_some, c_get2 h hjl, Option.bind_some, if_neg (by decide)]
          by_cases h9 : (9999 : Int32) < L.1 2 k + L.1 2 j
          · have : jOk L k j = false := by unfold jOk; simp [h9]
            rw [if_pos h9, this]
            exact TT_some ⟨rfl, h, fr.rf⟩
          · have hy : jOk L k j = true := by unfold jOk; simp [hsj, h0, h1, h6, h9]
            have c1 := h.set (f := 2) (v := L.1 2 k + L.1 2 j) (by decide) hk
            have hs1 : stL (lSet L 2 k (L.1 2 k + L.1 2 j)) j = true := by rw [stL_set (by decide)]; exact hsj
            rw [if_neg h9, show f_325 i (2 : Int32) (iN k) (L.1 2 k + L.1 2 j) P = _ from c_set (f := 2) (by decide) (by omega), Option.bind_some, hy]
            refine TT_b2 (c_gone c1 hs1 (t := 4) (by decide) (by decide)) (fun v P1 hv => TT_some ⟨rfl, hv.2.1, (fr.I (s1 _)).tr hv.2.2⟩)
        · rw [if_neg h6]; exact no (by unfold jOk; simp [h6])
      · rw [if_neg h1]; exact no (by unfold jOk; simp [h1])
    · rw [if_neg h0]; exact no (by unfold jOk; simp [h0])
theorem c_joinN {j : Nat} (h : CL i L P) (hs : stL L k = false) (hk : k < 2147483648) (hj : j < 2147483648) (hne : k ≠ j) : f_337 i (iN k) (iN j) P = some (0, P) := by
  unfold f_337
  rw [if_neg (by rw [iN_eq hk hj]; exact hne), c_stand h hk, Option.bind_some, if_pos (by rw [bI_0]; exact hs)]
/-- a claim is told -/
def sTell (L : LG) (k it : Nat) : LG := lSet (lSet (lSet (lTot L 1 (iN (gN it (szP L k)) - L.1 2 k)) 2 k (iN (gN it (szP L k)))) 5 k (L.1 5 k + 1)) 8 k L.2.2.1
theorem c_tell {pe it : Nat} (h : CL i L P) (hw : WF pe L) (hs : stL L k = true) (hi : it ≤ 50) (hN : 70000 ≤ N) : TT (f_338 i N (iN k) (iN it) P) (fun q => q.1 = bI (!decide (L.1 8 k = L.2.2.1)) ∧ CL i (if L.1 8 k = L.2.2.1 then L else sTell L k it) q.2 ∧ fr (sI i) P q.2) := by
  have h40 := h.1
  have hk := stL_lt hs
  have s1 : ∀ j, sI i (i + 1) j := fun j => by unfold sI; omega
  have s2 : ∀ j, sI i (i + 2) j := fun j => by unfold sI; omega
  unfold f_338
  rw [c_stand h (by omega), Option.bind_some, if_neg (by rw [bI_0, hs]; decide), c_get8 h hk, Option.bind_some, h.day]
  by_cases h8 : L.1 8 k = L.2.2.1
  · rw [if_pos h8, if_pos h8, decide_eq_true h8]
    exact TT_some ⟨rfl, h, fr.rf⟩
  · rw [if_neg h8, if_neg h8, decide_eq_false h8, show f_264 i N P (iN k) (1 : Int32) (iN it) = some (iN (gN it (szP L k))) from c_sizeAfter (d := 1) h hw hk hi (by decide) hN, Option.bind_some, c_get2 h hk, Option.bind_some]
    have c1 := h.tot (j := 1) (x := iN (gN it (szP L k)) - L.1 2 k) (by decide) (by decide)
    have c2 := c1.set (f := 2) (v := iN (gN it (szP L k))) (by decide) hk
    have c3 := c2.set (f := 5) (v := L.1 5 k + 1) (by decide) hk
    have c4 := c3.set (f := 8) (v := L.2.2.1) (by decide) hk
    refine TT_lt ?_
    rw [show ∀ v P, f_325 i (2 : Int32) (iN k) v P = _ from fun v P => c_set (f := 2) (by decide) (by omega), Option.bind_some, c_get5 c2 (by exact hk), Option.bind_some]
    rw [show (lSet (lTot L 1 (iN (gN it (szP L k)) - L.1 2 k)) 2 k (iN (gN it (szP L k)))).1 5 k = L.1 5 k from rfl]
    rw [show ∀ v P, f_325 i (5 : Int32) (iN k) v P = _ from fun v P => c_set (f := 5) (by decide) (by omega), Option.bind_some, c3.day]
    rw [show (lSet (lSet (lTot L 1 (iN (gN it (szP L k)) - L.1 2 k)) 2 k (iN (gN it (szP L k)))) 5 k (L.1 5 k + 1)).2.2.1 = L.2.2.1 from rfl]
    rw [show ∀ v P, f_325 i (8 : Int32) (iN k) v P = _ from fun v P => c_set (f := 8) (by decide) (by omega), Option.bind_some]
    exact TT_some ⟨rfl, c4, (((fr.I (s2 _)).tr (fr.I (s1 _))).tr (fr.I (s1 _))).tr (fr.I (s1 _))⟩
theorem c_tellN (h : CL i L P) (hs : stL L k = false) (hk : k < 2147483648) (it : Int32) : f_338 i N (iN k) it P = some (0, P) := by
  unfold f_338
  rw [c_stand h hk, Option.bind_some, if_pos (by rw [bI_0]; exact hs)]
end WR
/-- a copy -/
theorem pC_at (P : ab_P) (d : Nat) (row : Nat → Int32) (n b j : Nat) : (ab_pC P d row 0 0 n).1 b j = if b = d then (if j < n then row j else P.1 d j) else P.1 b j := by
  show ab_rowI P.1 d (va_cpy row (P.1 d) 0 0 n) b j = _
  rw [rI_at]
  by_cases hb : b = d
  · rw [if_pos hb, if_pos hb]
    show (if 0 ≤ j ∧ j < 0 + n then row (0 + (j - 0)) else P.1 d j) = _
    by_cases hj : j < n
    · rw [if_pos (by omega), if_pos hj, show 0 + (j - 0) = j by omega]
    · rw [if_neg (by omega), if_neg hj]
  · rw [if_neg hb, if_neg hb]
theorem pC_ne {P : ab_P} {d : Nat} {row : Nat → Int32} {n b j : Nat} (h : b ≠ d) : (ab_pC P d row 0 0 n).1 b j = P.1 b j := by rw [pC_at, if_neg h]
theorem pC_in {P : ab_P} {d : Nat} {row : Nat → Int32} {n j : Nat} (h : j < n) : (ab_pC P d row 0 0 n).1 d j = row j := by rw [pC_at, if_pos rfl, if_pos h]
section WC
variable {i : Nat} {L : LG} {P : ab_P} {f k n N : Nat} {v x : Int32}
theorem c_copy {i2 : Nat} (h : CL i2 L P) (hd : i + 2 < i2 ∨ i2 + 2 < i) : TT (f_295 i i2 P) (fun q => CL i L q ∧ fr (sI i) P q) := by
  have s1 : ∀ j, sI i (i + 1) j := fun j => by unfold sI; omega
  have s0 : ∀ j, sI i i j := fun j => by unfold sI; omega
  have s2 : ∀ j, sI i (i + 2) j := fun j => by unfold sI; omega
  have h40 := h.1
  unfold f_295
  refine TT_lt (TT_lt (TT_lt (TT_lt (TT_some ⟨⟨h.1, ?_, ?_, fun j h1 h2 => ?_, fun f hf k hk => ?_⟩, ?_⟩))))
  · rw [pI_nj (by decide), pI_eq, pC_ne (by omega), pC_ne (by omega)]
    exact h.2.1
  · rw [pI_eq, pI_ne (by omega), pC_ne (by omega), pC_ne (by omega)]
    exact h.2.2.1
  · rw [pI_ne (by omega), pI_ne (by omega), pC_in (by omega), pC_ne (by omega)]
    exact h.2.2.2.1 j h1 h2
  · rw [pI_ne (by omega), pI_ne (by omega), pC_ne (by omega), pC_in (by omega)]
    exact h.2.2.2.2 f hf k hk
  · exact (((fr.C s1).tr (fr.C s2)).tr (fr.I (s0 _))).tr (fr.I (s0 _))
theorem c_clear (hN : 70000 ≤ N) : TT (f_284 i N P) (fun q => CL i ((fun _ _ => 0), 0, 0, fun _ => 0) q ∧ fr (sI i) P q) := by
  have s0 : ∀ j, sI i i j := fun j => by unfold sI; omega
  have s2 : ∀ j, sI i (i + 2) j := fun j => by unfold sI; omega
  unfold f_284
  refine TT_lt (TT_lt ?_)
  have fill : TT (f_306_5 (i + 2) N 0 (ab_pI (ab_pI P i 2 0) i 3 0)) (fun q => (∀ s, s < 5 → q.1 (i + 2) s = 0) ∧ fr (fun b _ => b = i + 2) (ab_pI (ab_pI P i 2 0) i 3 0) q) := by
    unfold f_306_5
    refine upT (fun n k (s : ab_P) => f_306_5_5 (i + 2) n 0 (iN k) 5 s) 5 (fun k q => (∀ s, s < k → q.1 (i + 2) s = 0) ∧ fr (fun b _ => b = i + 2) (ab_pI (ab_pI P i 2 0) i 3 0) q) _ (fun n k P1 hk hi => ?_) (fun n P1 hi => ?_) N _ ⟨fun s hs => absurd hs (Nat.not_lt_zero _), fr.rf⟩ (by omega)
    · obtain ⟨e1, e2⟩ := hi
      show ∃ s', f_306_5_5 (i + 2) (n + 1) 0 (iN k) 5 P1 = _ ∧ _
      simp only [f_306_5_5, iN_ltl (show k < 2147483648 by omega) (show 5 < 2147483648 by decide), hk, iN_gT hk (show 5 ≤ 2147483648 by decide), iN_nat (show k < 2147483648 by omega), iN_succ, ab_lt, ↓reduceIte]
      refine ⟨_, rfl, fun s hs => ?_, e2.tr (fr.I rfl)⟩
      rw [pI_at]
      split
      · rfl
      · exact e1 s (by omega)
    · obtain ⟨e1, e2⟩ := hi
      simp only [f_306_5_5, iN_ltl (show 5 < 2147483648 by omega) (show 5 < 2147483648 by decide), Nat.lt_irrefl, ↓reduceIte]
      exact TT_some ⟨e1, e2⟩
  refine TT_bind fill (fun P3 h3 => TT_some ⟨⟨Nat.zero_le _, ?_, ?_, fun j h1 h2 => h3.1 j (by omega), fun f hf k hk => absurd hk (Nat.not_lt_zero _)⟩, ?_⟩)
  · rw [h3.2.1 i 2 (show ¬ i = i + 2 by omega), pI_nj (by decide), pI_eq]; rfl
  · rw [h3.2.1 i 3 (show ¬ i = i + 2 by omega), pI_eq]
  · exact ((fr.I (s0 _)).tr (fr.I (s0 _))).tr (h3.2.mono (fun b j e => by rw [e]; exact s2 j))
end WC
