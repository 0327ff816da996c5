/-! questions that weigh: open, chosen, heard, errors, best -/
theorem fb_no {ok : Nat → Bool} {bt : Nat → Nat → Bool} {n : Nat} (h : ok n = false) : fb ok bt (n + 1) = fb ok bt n := by
  show (match fb ok bt n with
    | none => if ok n then some n else none
    | some q => if ok n && bt n q then some n else some q) = _
  rw [h]
  cases fb ok bt n <;> simp
section HH
variable {W : WO} {P : ab_P} {k N : Nat} {a : Int32}
def sOpen (W : WO) : Int64 := orB (opn W) W.L.2.1
theorem c_opens (h : CW W P) (ok : OK W) (hN : 70000 ≤ N) : TT (f_149 N P) (fun q => q.1 = sOpen W ∧ fr scC P q.2) := by
  have h40 := h.c.m40
  refine upT (fun n k (s : Int64 × ab_P) => f_149_4 N n s.1 (iN k) s.2) W.L.2.1 (fun k s => s.1 = orB (opn W) k ∧ fr scC P s.2) _ (fun n k s hk hi => ?_) (fun n s hi => ?_) N (0, P) ⟨rfl, fr.rf⟩ (by omega)
  · obtain ⟨x, P1⟩ := s
    obtain ⟨e1, e2⟩ := hi
    dsimp only at e1 e2
    have h1 := h.fr e2
    obtain ⟨⟨v, P2⟩, g1, g2, g3⟩ := c_open h1 ok (show k < 2147483648 by omega) hN
    dsimp only at g2 g3
    show ∃ s', f_149_4 N (n + 1) x (iN k) P1 = _ ∧ _
    simp only [f_149_4, c_more h1.c hk, ↓reduceIte, g1, ab_b2, Option.bind_some, g2, bI_0, iN_succ]
    cases ho : opn W k with
    | false => exact ⟨(x, P2), by simp, by simp [orB, ho, e1], e2.tr g3⟩
    | true => exact ⟨(_, P2), by simp only [Bool.true_eq_false, ↓reduceIte]; rfl, by simp [orB, ho, e1], e2.tr g3⟩
  · obtain ⟨x, P1⟩ := s
    obtain ⟨e1, e2⟩ := hi
    dsimp only at e1 e2
    simp only [f_149_4, c_end (h.fr e2).c, ↓reduceIte]
    exact TT_some ⟨e1, e2⟩
theorem r_opens (h : RW W P) (ok : OK W) (hN : 70000 ≤ N) : TT (f_35_9 N N 0 0 P) (fun q => q.1 = sOpen W ∧ fr scR P q.2) := by
  have h40 := h.r.m40
  refine upT (fun n k (s : Int64 × ab_P) => f_35_9 N n s.1 (iN k) s.2) W.L.2.1 (fun k s => s.1 = orB (opn W) k ∧ fr scR P s.2) _ (fun n k s hk hi => ?_) (fun n s hi => ?_) N (0, P) ⟨rfl, fr.rf⟩ (by omega)
  · obtain ⟨x, P1⟩ := s
    obtain ⟨e1, e2⟩ := hi
    dsimp only at e1 e2
    have h1 := h.fr ok e2
    obtain ⟨⟨v, P2⟩, g1, g2, g3⟩ := r_open h1 ok (show k < 2147483648 by omega) hN
    dsimp only at g2 g3
    show ∃ s', f_35_9 N (n + 1) x (iN k) P1 = _ ∧ _
    simp only [f_35_9, r_more h1.r hk, ↓reduceIte, g1, ab_b2, Option.bind_some, g2, bI_0, iN_succ]
    cases ho : opn W k with
    | false => exact ⟨(x, P2), by simp, by simp [orB, ho, e1], e2.tr g3⟩
    | true => exact ⟨(_, P2), by simp only [Bool.true_eq_false, ↓reduceIte]; rfl, by simp [orB, ho, e1], e2.tr g3⟩
  · obtain ⟨x, P1⟩ := s
    obtain ⟨e1, e2⟩ := hi
    dsimp only at e1 e2
    simp only [f_35_9, r_end (h.fr ok e2).r, ↓reduceIte]
    exact TT_some ⟨e1, e2⟩
/-- the sweetest: the first of those meant most -/
def sSweet (W : WO) (n : Nat) : Option Nat := fb (stL W.L) (fun a b => decide (sMeant W b < sMeant W a)) n
theorem c_sweet (h : CW W P) (ok : OK W) (hN : 70000 ≤ N) : TT (f_267 N P) (fun q => q.1 = oN (sSweet W W.L.2.1) ∧ fr scC P q.2) := by
  have h40 := h.c.m40
  refine upT (fun n k (s : (Int32 × Int32) × ab_P) => f_267_6 N n s.1.1 s.1.2 (iN k) s.2) W.L.2.1 (fun k s => s.1.1 = oN (sSweet W k) ∧ s.1.2 = (match sSweet W k with | none => -1 | some q => sMeant W q) ∧ fr scC P s.2) _ (fun n k s hk hi => ?_) (fun n s hi => ?_) N ((-1, -1), P) ⟨rfl, rfl, fr.rf⟩ (by omega)
  · obtain ⟨⟨x, y⟩, P1⟩ := s
    obtain ⟨e1, e3, e2⟩ := hi
    dsimp only at e1 e2 e3
    have h1 := h.fr e2
    show ∃ s', f_267_6 N (n + 1) x y (iN k) P1 = _ ∧ _
    simp only [f_267_6, c_more h1.c hk, ↓reduceIte, c_stand h1.c (show k < 2147483648 by omega), Option.bind_some, bI_0, iN_succ]
    cases hs : stL W.L k with
    | false =>
      have hu : sSweet W (k + 1) = sSweet W k := fb_no hs
      have hy : ¬ y < -1 := by
        rw [e3]
        cases sSweet W k with
        | none => exact (by decide : ¬ (-1 : Int32) < -1)
        | some q =>
          obtain ⟨z, hz, e⟩ := sMeant_N W q
          dsimp only
          rw [e]
          rw [Int32.lt_iff_toInt_lt, iN_toInt (by omega)]
          show ¬ (z : Int) < -1
          omega
      rw [if_pos rfl, if_neg hy]
      exact ⟨((x, y), P1), rfl, by rw [hu]; exact e1, by rw [hu]; exact e3, e2⟩
    | true =>
      obtain ⟨⟨v, P2⟩, g1, g2, g3⟩ := c_weigh h1 ok hk hN
      dsimp only at g2 g3
      rw [if_neg (by decide)]
      simp only [g1, ab_b2, Option.bind_some, g2]
      cases hb : sSweet W k with
      | none =>
        have hb2 : fb (stL W.L) (fun a b => decide (sMeant W b < sMeant W a)) k = none := hb
        rw [hb] at e3
        have hu : sSweet W (k + 1) = some k := by simp [sSweet, fb, hb2, hs]
        have hy : y < sMeant W k := by
          obtain ⟨z, hz, e⟩ := sMeant_N W k
          rw [e3, e, Int32.lt_iff_toInt_lt, iN_toInt (by omega)]
          show (-1 : Int) < (z : Int)
          omega
        rw [if_pos hy]
        exact ⟨((iN k, sMeant W k), P2), rfl, by rw [hu]; rfl, by rw [hu], e2.tr g3⟩
      | some q =>
        have hb2 : fb (stL W.L) (fun a b => decide (sMeant W b < sMeant W a)) k = some q := hb
        rw [hb] at e3
        dsimp only at e3
        rw [e3]
        by_cases hc : sMeant W q < sMeant W k
        · have hu : sSweet W (k + 1) = some k := by simp [sSweet, fb, hb2, hs, hc]
          rw [if_pos hc]
          exact ⟨((iN k, sMeant W k), P2), rfl, by rw [hu]; rfl, by rw [hu], e2.tr g3⟩
        · have hu : sSweet W (k + 1) = some q := by simp [sSweet, fb, hb2, hs, hc]
          rw [if_neg hc]
          exact ⟨((x, sMeant W q), P2), rfl, by rw [hu, e1, hb], by rw [hu], e2.tr g3⟩
  · obtain ⟨⟨x, y⟩, P1⟩ := s
    obtain ⟨e1, e3, e2⟩ := hi
    dsimp only at e1 e2 e3
    simp only [f_267_6, c_end (h.fr e2).c, ↓reduceIte]
    exact TT_some ⟨e1, e2⟩
theorem r_sweet (h : RW W P) (ok : OK W) (hN : 70000 ≤ N) : TT (f_69_34 N N 1 (-1) 0 P) (fun q => q.1 = oN (sSweet W W.L.2.1) ∧ fr scR P q.2) := by
  have h40 := h.r.m40
  refine upT (fun n k (s : Int32 × ab_P) => f_69_34 N n 1 s.1 (iN k) s.2) W.L.2.1 (fun k s => s.1 = oN (sSweet W k) ∧ fr scR P s.2) _ (fun n k s hk hi => ?_) (fun n s hi => ?_) N (-1, P) ⟨rfl, fr.rf⟩ (by omega)
  · obtain ⟨x, P1⟩ := s
    obtain ⟨e1, e2⟩ := hi
    dsimp only at e1 e2
    have h1 := h.fr ok e2
    show ∃ s', f_69_34 N (n + 1) 1 x (iN k) P1 = _ ∧ _
    simp only [f_69_34, r_more h1.r hk, ↓reduceIte, r_stand h1.r (show k < 2147483648 by omega), Option.bind_some, bI_0, iN_succ]
    cases hs : stL W.L k with
    | false =>
      have hu : sSweet W (k + 1) = sSweet W k := fb_no hs
      rw [if_pos rfl]
      exact ⟨(x, P1), rfl, by rw [hu]; exact e1, e2⟩
    | true =>
      rw [if_neg (by decide)]
      cases hb : sSweet W k with
      | none =>
        have hb2 : fb (stL W.L) (fun a b => decide (sMeant W b < sMeant W a)) k = none := hb
        have hu : sSweet W (k + 1) = some k := by simp [sSweet, fb, hb2, hs]
        rw [if_pos (by rw [e1, hb]; rfl)]
        exact ⟨(iN k, P1), rfl, by rw [hu]; rfl, e2⟩
      | some q =>
        have hb2 : fb (stL W.L) (fun a b => decide (sMeant W b < sMeant W a)) k = some q := hb
        have hq := fb_some hb2
        rw [hb] at e1
        have e1 : x = iN q := e1
        obtain ⟨⟨v, P2⟩, g1, g2, g3⟩ := r_weigh h1 ok hk hN
        dsimp only at g2 g3
        obtain ⟨⟨v2, P3⟩, j1, j2, j3⟩ := r_weigh (h1.fr ok g3) ok (stL_lt hq.2) hN
        dsimp only at j2 j3
        have hq1 := hq.1
        rw [e1, if_neg (by rw [iN_nm1 (show q < 2147483648 by omega)]; exact id), if_neg (by decide), g1]
        simp only [ab_b2, Option.bind_some, j1, g2, j2]
        by_cases hc : sMeant W q < sMeant W k
        · have hu : sSweet W (k + 1) = some k := by simp [sSweet, fb, hb2, hs, hc]
          rw [if_pos hc]
          exact ⟨(iN k, P3), rfl, by rw [hu]; rfl, (e2.tr g3).tr j3⟩
        · have hu : sSweet W (k + 1) = some q := by simp [sSweet, fb, hb2, hs, hc]
          rw [if_neg hc]
          exact ⟨(iN q, P3), rfl, by rw [hu]; rfl, (e2.tr g3).tr j3⟩
  · obtain ⟨x, P1⟩ := s
    obtain ⟨e1, e2⟩ := hi
    dsimp only at e1 e2
    simp only [f_69_34, r_end (h.fr ok e2).r, ↓reduceIte]
    exact TT_some ⟨e1, e2⟩
theorem r_eldest (h : RW W P) (hN : 70000 ≤ N) : f_69_34 N N 0 (-1) 0 P = some (oN (fb (stL W.L) (fun a b => decide (W.L.1 3 a < W.L.1 3 b)) W.L.2.1), P) := by
  have h40 := h.r.m40
  refine up (fun n k x => f_69_34 N n 0 x (iN k) P) W.L.2.1 (fun k => oN (fb (stL W.L) (fun a b => decide (W.L.1 3 a < W.L.1 3 b)) k)) _ (fun n k hk => ?_) (fun n => ?_) N (by omega)
  · simp only [f_69_34, r_more h.r hk, r_stand h.r (show k < 2147483648 by omega), ↓reduceIte, Option.bind_some, bI_0, iN_succ, fb]
    cases hs : stL W.L k
    · cases hb : fb (stL W.L) (fun a b => decide (W.L.1 3 a < W.L.1 3 b)) k <;> simp
    · cases hb : fb (stL W.L) (fun a b => decide (W.L.1 3 a < W.L.1 3 b)) k with
      | none => simp [oN]
      | some q =>
        have hq := (fb_some hb).1
        have hql := stL_lt (fb_some hb).2
        simp only [oN_some, iN_nm1 (show q < 2147483648 by omega), r_of3 h.r hk, r_of3 h.r hql, Option.bind_some, ↓reduceIte]
        by_cases hc : W.L.1 3 k < W.L.1 3 q <;> simp [hc, oN]
  · simp only [f_69_34, r_end h.r, ↓reduceIte]
/-- what one would hear, claim after claim: how much, and how many are held still -/
def hrd (W : WO) (p : Int32) : Nat → Int32 × Int32
  | 0 => (0, sMany W.L 1 p)
  | n + 1 => if stL W.L n && decide (W.L.1 1 n = p) && !decide (sMean W n (hrd W p n).2 < W.bi) then ((hrd W p n).1 + W.L.1 2 n, (hrd W p n).2 + (-1)) else hrd W p n
theorem c_hears (h : CW W P) (ok : OK W) (p : Int32) (hN : 70000 ≤ N) : TT (f_268 N p P) (fun q => q.1 = (hrd W p W.L.2.1).1 ∧ fr scC P q.2) := by
  have h40 := h.c.m40
  unfold f_268
  rw [show (1 : Int32) = iN 1 from rfl, c_many h.c (by decide) hN, Option.bind_some]
  refine upT (fun n k (s : (Int32 × Int32) × ab_P) => f_268_15 N n p s.1.2 s.1.1 (iN k) s.2) W.L.2.1 (fun k s => s.1 = hrd W p k ∧ fr scC P s.2) _ (fun n k s hk hi => ?_) (fun n s hi => ?_) N ((0, sMany W.L 1 p), P) ⟨rfl, fr.rf⟩ (by omega)
  · obtain ⟨⟨x, y⟩, P1⟩ := s
    obtain ⟨e1, e2⟩ := hi
    dsimp only at e1 e2
    have h1 := h.fr e2
    show ∃ s', f_268_15 N (n + 1) p y x (iN k) P1 = _ ∧ _
    have ey : (hrd W p k).2 = y := by rw [← e1]
    have ex : (hrd W p k).1 = x := by rw [← e1]
    simp only [f_268_15, c_more h1.c hk, ↓reduceIte, c_stand h1.c (show k < 2147483648 by omega), Option.bind_some, bI_0, iN_succ, hrd, ← e1]
    cases hs : stL W.L k with
    | false => exact ⟨((x, y), P1), by simp, by simp, e2⟩
    | true =>
      rw [if_neg (by decide), c_get1 h1.c hk, Option.bind_some]
      by_cases hp : W.L.1 1 k = p
      · rw [if_pos hp]
        obtain ⟨⟨v, P2⟩, g1, g2, g3⟩ := c_weighH (a := y) h1 ok hk hN
        dsimp only at g2 g3
        have h2 := h1.fr g3
        simp only [g1, ab_b2, Option.bind_some, g2, h2.bi, c_get2 h2.c hk]
        by_cases hc : sMean W k y < W.bi
        · rw [if_pos hc]
          exact ⟨((x, y), P2), rfl, by simp [hc], e2.tr g3⟩
        · rw [if_neg hc]
          exact ⟨((_, _), P2), rfl, by simp [hc, hp], e2.tr g3⟩
      · rw [if_neg hp]
        exact ⟨((x, y), P1), rfl, by simp [hp], e2⟩
  · obtain ⟨⟨x, y⟩, P1⟩ := s
    obtain ⟨e1, e2⟩ := hi
    dsimp only at e1 e2
    simp only [f_268_15, c_end (h.fr e2).c, ↓reduceIte]
    exact TT_some ⟨by rw [← e1], e2⟩
theorem r_hears (h : RW W P) (ok : OK W) (p : Int32) (hN : 70000 ≤ N) : TT (f_71_43 N N p (sMany W.L 1 p) 0 0 P) (fun q => q.1 = (hrd W p W.L.2.1).1 ∧ fr scR P q.2) := by
  have h40 := h.r.m40
  refine upT (fun n k (s : (Int32 × Int32) × ab_P) => f_71_43 N n p s.1.2 s.1.1 (iN k) s.2) W.L.2.1 (fun k s => s.1 = hrd W p k ∧ fr scR P s.2) _ (fun n k s hk hi => ?_) (fun n s hi => ?_) N ((0, sMany W.L 1 p), P) ⟨rfl, fr.rf⟩ (by omega)
  · obtain ⟨⟨x, y⟩, P1⟩ := s
    obtain ⟨e1, e2⟩ := hi
    dsimp only at e1 e2
    have h1 := h.fr ok e2
    show ∃ s', f_71_43 N (n + 1) p y x (iN k) P1 = _ ∧ _
    simp only [f_71_43, r_more h1.r hk, ↓reduceIte, r_stand h1.r (show k < 2147483648 by omega), Option.bind_some, bI_0, iN_succ, hrd, ← e1]
    cases hs : stL W.L k with
    | false => exact ⟨((x, y), P1), by simp, by simp, e2⟩
    | true =>
      rw [if_neg (by decide), r_of1 h1.r hk, Option.bind_some]
      by_cases hp : W.L.1 1 k = p
      · rw [if_pos hp]
        obtain ⟨⟨v, P2⟩, g1, g2, g3⟩ := r_weighH (a := y) h1 ok hk hN
        dsimp only at g2 g3
        have h2 := h1.fr ok g3
        simp only [g1, ab_b2, Option.bind_some, g2, h2.bi, r_of2 h2.r hk]
        by_cases hc : sMean W k y < W.bi
        · rw [if_pos hc]
          exact ⟨((x, y), P2), rfl, by simp [hc], e2.tr g3⟩
        · rw [if_neg hc]
          exact ⟨((_, _), P2), rfl, by simp [hc, hp], e2.tr g3⟩
      · rw [if_neg hp]
        exact ⟨((x, y), P1), rfl, by simp [hp], e2⟩
  · obtain ⟨⟨x, y⟩, P1⟩ := s
    obtain ⟨e1, e2⟩ := hi
    dsimp only at e1 e2
    simp only [f_71_43, r_end (h.fr ok e2).r, ↓reduceIte]
    exact TT_some ⟨by rw [← e1], e2⟩
/-! errors -/
def wgt (W : WO) (k : Nat) : Int32 := if stL W.L k then sMeant W k else -1
theorem c_weights (h : CW W P) (ok : OK W) (hN : 70000 ≤ N) : TT (f_261 N P) (fun q => (∀ k, k < 40 → q.1 48 k = wgt W k) ∧ fr scC P q) := by
  refine upT (fun n k (s : ab_P) => f_261_2 N n (iN k) s) 40 (fun k s => (∀ j, j < k → s.1 48 j = wgt W j) ∧ fr scC P s) _ (fun n k P1 hk hi => ?_) (fun n P1 hi => ?_) N P ⟨fun j hj => absurd hj (Nat.not_lt_zero _), fr.rf⟩ (by omega)
  · obtain ⟨e1, e2⟩ := hi
    have h1 := h.fr e2
    show ∃ s', f_261_2 N (n + 1) (iN k) P1 = _ ∧ _
    simp only [f_261_2, iN_ltl (show k < 2147483648 by omega) (show 40 < 2147483648 by decide), hk, ↓reduceIte, c_stand h1.c (show k < 2147483648 by omega), Option.bind_some, bI_0, iN_succ, iN_gT hk (show 40 ≤ 2147483648 by decide), iN_nat (show k < 2147483648 by omega), ab_lt]
    cases hs : stL W.L k with
    | false =>
      rw [if_pos rfl]
      refine ⟨_, rfl, fun j hj => ?_, e2.tr (fr.I (show scC 48 k by unfold scC; omega))⟩
      show ab_upI P1.1 48 _ _ 48 j = _
      rw [uI_at]
      split
      · rename_i hh; rw [hh.2]; simp [wgt, hs]
      · exact e1 j (by omega)
    | true =>
      rw [if_neg (by decide)]
      obtain ⟨⟨v, P2⟩, g1, g2, g3⟩ := c_weighG h1 ok (stL_lt hs) hN
      dsimp only at g2 g3
      simp only [g1, ab_b2, Option.bind_some, g2]
      refine ⟨_, rfl, fun j hj => ?_, (e2.tr (g3.mono s47_C)).tr (fr.I (show scC 48 k by unfold scC; omega))⟩
      show ab_upI P2.1 48 _ _ 48 j = _
      rw [uI_at]
      split
      · rename_i hh; rw [hh.2]; simp [wgt, hs]
      · rw [g3.1 48 j (by unfold s47; omega)]; exact e1 j (by omega)
  · obtain ⟨e1, e2⟩ := hi
    simp only [f_261_2, iN_ltl (show 40 < 2147483648 by omega) (show 40 < 2147483648 by decide), Nat.lt_irrefl, ↓reduceIte]
    exact TT_some ⟨e1, e2⟩
/-- how many of the first n have p -/
def cntN (p : Nat → Bool) : Nat → Nat
  | 0 => 0
  | n + 1 => cntN p n + (if p n then 1 else 0)
theorem cntN_le (p : Nat → Bool) : ∀ n, cntN p n ≤ n
  | 0 => Nat.le_refl 0
  | n + 1 => by
    have := cntN_le p n
    unfold cntN
    split <;> omega
theorem cntN_two {p q : Nat → Bool} (h : ∀ k, p k = true → q k = false) : ∀ n, cntN p n + cntN q n ≤ n
  | 0 => Nat.le_refl 0
  | n + 1 => by
    have := cntN_two h n
    unfold cntN
    cases hp : p n with
    | true => rw [h n hp]; simp; omega
    | false =>
      cases q n <;> simp <;> omega
theorem cntN_sum (p : Nat → Bool) : ∀ n, sumI (fun k => if p k then 1 else 0) n = iN (cntN p n)
  | 0 => rfl
  | n + 1 => by
    rw [sumI_s, cntN_sum p n, show cntN p (n + 1) = cntN p n + (if p n then 1 else 0) from rfl]
    cases hp : p n with
    | true => simp [iN_succ]
    | false => simp
theorem cntN_ext {p : Nat → Bool} {m : Nat} (h : ∀ k, p k = true → k < m) : ∀ d, cntN p (m + d) = cntN p m
  | 0 => rfl
  | d + 1 => by
    rw [← Nat.add_assoc]
    show cntN p (m + d) + _ = _
    rw [cntN_ext h d, if_neg (fun e => absurd (h _ e) (by omega))]
    rfl
def isEr (W : WO) (b : Int32) (t : Bool) (k : Nat) : Bool := stL W.L k && decide (W.L.1 6 k = bI t) && (decide (sMeant W k < b) == t)
def nEr (W : WO) (b : Int32) (t : Bool) : Nat := cntN (isEr W b t) W.L.2.1
theorem nEr_two (W : WO) (b : Int32) : nEr W b true + nEr W b false ≤ W.L.2.1 := by
  refine cntN_two (fun k h => ?_) _
  unfold isEr at h ⊢
  simp only [Bool.and_eq_true, decide_eq_true_eq] at h
  have : decide (W.L.1 6 k = bI false) = false := by
    rw [h.1.2]
    decide
  rw [this]
  simp
theorem c_errs (h : CL 43 W.L P) (hw : ∀ k, k < 40 → P.1 48 k = wgt W k) (b : Int32) (t : Bool) (hN : 70000 ≤ N) : f_262 N P b (bI t) = some (iN (nEr W b t)) := by
  have h40 := h.m40
  have e40 : nEr W b t = cntN (isEr W b t) 40 := by
    unfold nEr
    have := cntN_ext (p := isEr W b t) (m := W.L.2.1) (fun k e => by
      unfold isEr at e
      simp only [Bool.and_eq_true] at e
      exact stL_lt e.1.1) (40 - W.L.2.1)
    rw [← this]
    congr 1
    omega
  rw [e40]
  refine up (fun n k x => f_262_5 P n b (bI t) x (iN k)) 40 (fun k => iN (cntN (isEr W b t) k)) _ (fun n k hk => ?_) (fun n => ?_) N (by omega)
  · have hgi := iN_gT hk (show 40 ≤ 2147483648 by decide)
    simp only [f_262_5, f_262_46, iN_ltl (show k < 2147483648 by omega) (show 40 < 2147483648 by decide), hk, ↓reduceIte, hgi, iN_nat (show k < 2147483648 by omega), hw k hk, iN_succ, Int32.add_zero, show ¬ (1 : Int32) = 0 by decide]
    cases hs : stL W.L k with
    | false =>
      have e1 : cntN (isEr W b t) (k + 1) = cntN (isEr W b t) k := by simp [cntN, isEr, hs]
      rw [e1]
      simp [wgt, hs]
    | true =>
      have hl := stL_lt hs
      obtain ⟨z, hz, ez⟩ := sMeant_N W k
      have hne : ¬ wgt W k = -1 := by
        unfold wgt
        rw [if_pos hs, ez, iN_nm1 (by omega)]
        exact id
      have hwk : wgt W k = sMeant W k := by unfold wgt; rw [if_pos hs]
      rw [if_neg hne, c_get6 h hl, Option.bind_some, hwk]
      by_cases h6 : W.L.1 6 k = bI t
      · rw [if_pos h6]
        cases t <;> by_cases hb : sMeant W k < b <;> simp [cntN, isEr, hs, h6, hb, bI, iN_succ]
      · rw [if_neg h6]
        have e1 : cntN (isEr W b t) (k + 1) = cntN (isEr W b t) k := by simp [cntN, isEr, h6]
        rw [e1]
  · simp only [f_262_5, iN_ltl (show 40 < 2147483648 by omega) (show 40 < 2147483648 by decide), Nat.lt_irrefl, ↓reduceIte]
theorem r_errs (h : RW W P) (ok : OK W) (b : Int32) (t : Bool) (hN : 70000 ≤ N) : TT (f_169 N b (bI (!t)) P) (fun q => q.1 = iN (nEr W b t) ∧ fr scR P q.2) := by
  have h40 := h.r.m40
  refine upT (fun n k (s : Int32 × ab_P) => f_169_5 N n b (bI (!t)) s.1 (iN k) s.2) W.L.2.1 (fun k s => s.1 = iN (cntN (isEr W b t) k) ∧ fr scR P s.2) _ (fun n k s hk hi => ?_) (fun n s hi => ?_) N (0, P) ⟨rfl, fr.rf⟩ (by omega)
  · obtain ⟨x, P1⟩ := s
    obtain ⟨e1, e2⟩ := hi
    dsimp only at e1 e2
    have h1 := h.fr ok e2
    show ∃ s', f_169_5 N (n + 1) b (bI (!t)) x (iN k) P1 = _ ∧ _
    simp only [f_169_5, r_more h1.r hk, ↓reduceIte, r_stand h1.r (show k < 2147483648 by omega), Option.bind_some, bI_0, iN_succ, Int32.add_zero]
    have ht : (1 : Int32) - bI (!t) = bI t := by cases t <;> rfl
    rw [ht]
    cases hs : stL W.L k with
    | false => exact ⟨(x, P1), by simp, by simp [cntN, isEr, hs, e1], e2⟩
    | true =>
      rw [if_neg (by decide), r_of6 h1.r hk, Option.bind_some]
      by_cases h6 : W.L.1 6 k = bI t
      · rw [if_pos h6]
        obtain ⟨⟨v, P2⟩, g1, g2, g3⟩ := r_weigh h1 ok hk hN
        dsimp only at g2 g3
        simp only [g1, ab_b2, Option.bind_some, g2]
        subst e1
        cases t <;> by_cases hb : sMeant W k < b
        · exact ⟨(_, P2), by simp [hb, bI]; rfl, by simp [cntN, isEr, hs, h6, hb], e2.tr g3⟩
        · exact ⟨(_, P2), by simp [hb, bI]; rfl, by simp [cntN, isEr, hs, h6, hb, iN_succ], e2.tr g3⟩
        · exact ⟨(_, P2), by simp [hb, bI]; rfl, by simp [cntN, isEr, hs, h6, hb, iN_succ], e2.tr g3⟩
        · exact ⟨(_, P2), by simp [hb, bI]; rfl, by simp [cntN, isEr, hs, h6, hb], e2.tr g3⟩
      · rw [if_neg h6]
        exact ⟨(x, P1), rfl, by simp [cntN, isEr, h6, e1], e2⟩
  · obtain ⟨x, P1⟩ := s
    obtain ⟨e1, e2⟩ := hi
    dsimp only at e1 e2
    simp only [f_169_5, r_end (h.fr ok e2).r, ↓reduceIte]
    exact TT_some ⟨e1, e2⟩
/-- the best bite so far, and how often it errs -/
def tEr (W : WO) (b : Nat) : Nat := nEr W (iN b) true + nEr W (iN b) false
def bst (W : WO) : Nat → Nat × Nat
  | 0 => (0, tEr W 0)
  | n + 1 => if tEr W (n + 1) < (bst W n).2 then (n + 1, tEr W (n + 1)) else bst W n
theorem tEr_le (W : WO) (h : W.L.2.1 ≤ 40) (b : Nat) : tEr W b ≤ 40 := Nat.le_trans (nEr_two W (iN b)) h
theorem bst_le (W : WO) (h : W.L.2.1 ≤ 40) : ∀ n, (bst W n).2 ≤ 40
  | 0 => tEr_le W h 0
  | n + 1 => by
    unfold bst
    split
    · exact tEr_le W h _
    · exact bst_le W h n
theorem c_best {m : Nat} (hm : m = 100) (h : CW W P) (ok : OK W) (hN : 70000 ≤ N) : TT (f_170 N P) (fun q => q.1 = iN (bst W m).1 ∧ fr scC P q.2) := by
  have h40 := h.c.m40
  unfold f_170
  refine TT_bind (c_weights h ok hN) (fun P1 hP => ?_)
  obtain ⟨hw, hf⟩ := hP
  have h1 := h.fr hf
  refine upT (fun n k (s : Int32 × Int32) => f_170_11 N n s.1 s.2 (iN k) P1) 101 (fun k s => (k = 0 → s = (0, 41)) ∧ ∀ j, k = j + 1 → s = (iN (bst W j).1, iN (bst W j).2)) _ (fun n k s hk hi => ?_) (fun n s hi => ?_) N (0, 41) ⟨fun _ => rfl, fun j hj => by omega⟩ (by omega)
  · obtain ⟨x, y⟩ := s
    show ∃ s', f_170_11 N (n + 1) x y (iN k) P1 = _ ∧ _
    have ct := c_errs h1.c hw (iN k) true hN
    have cf := c_errs h1.c hw (iN k) false hN
    have e1 : (1 : Int32) = bI true := rfl
    have e0 : (0 : Int32) = bI false := rfl
    have hle := tEr_le W h40 k
    rw [show f_170_11 N (n + 1) x y (iN k) P1 = if (100 : Int32) < iN k then some (x, P1) else Option.bind (f_262 N P1 (iN k) (1 : Int32)) fun v2 => Option.bind (f_262 N P1 (iN k) (0 : Int32)) fun v3 => if (v2 + v3) < y then f_170_11 N n (iN k) (v2 + v3) (iN k + 1) P1 else f_170_11 N n x y (iN k + 1) P1 from rfl]
    rw [if_neg (by rw [iN_lll (by omega) (by decide)]; exact (by omega : ¬ 100 < k)), show f_262 N P1 (iN k) (1 : Int32) = _ from ct, show f_262 N P1 (iN k) (0 : Int32) = _ from cf, Option.bind_some, Option.bind_some, iN_add, iN_succ]
    show ∃ s', (if iN (tEr W k) < y then f_170_11 N n (iN k) (iN (tEr W k)) (iN (k + 1)) P1 else f_170_11 N n x y (iN (k + 1)) P1) = _ ∧ _
    rcases k with _ | k
    · have := hi.1 rfl
      cases this
      rw [if_pos (by rw [show (41 : Int32) = iN 41 from rfl, iN_lt (by omega) (by decide)]; omega)]
      exact ⟨(iN 0, iN (tEr W 0)), rfl, fun e => by omega, fun j hj => by
        have : j = 0 := by omega
        subst this; rfl⟩
    · have := hi.2 k rfl
      cases this
      have hb := bst_le W h40 k
      by_cases hc : tEr W (k + 1) < (bst W k).2
      · rw [if_pos (by rw [iN_lt (by omega) (by omega)]; exact hc)]
        exact ⟨(iN (k + 1), iN (tEr W (k + 1))), rfl, fun e => by omega, fun j hj => by
          have : j = k + 1 := by omega
          subst this; simp [bst, hc]⟩
      · rw [if_neg (by rw [iN_lt (by omega) (by omega)]; exact hc)]
        exact ⟨(iN (bst W k).1, iN (bst W k).2), rfl, fun e => by omega, fun j hj => by
          have : j = k + 1 := by omega
          subst this; simp [bst, hc]⟩
  · have e := hi.2 m (by omega)
    show TT (if (100 : Int32) < iN 101 then some (s.1, P1) else _) _
    rw [if_pos (by decide)]
    exact TT_some ⟨congrArg Prod.fst e, hf⟩
theorem r_best {m : Nat} (hm : m = 100) (h : RW W P) (ok : OK W) (hN : 70000 ≤ N) : TT (f_57_12 N N 0 41 0 P) (fun q => q.1 = iN (bst W m).1 ∧ fr scR P q.2) := by
  have h40 := h.r.m40
  refine upT (fun n k (s : (Int32 × Int32) × ab_P) => f_57_12 N n s.1.1 s.1.2 (iN k) s.2) 101 (fun k s => (k = 0 → s.1 = (0, 41)) ∧ (∀ j, k = j + 1 → s.1 = (iN (bst W j).1, iN (bst W j).2)) ∧ fr scR P s.2) _ (fun n k s hk hi => ?_) (fun n s hi => ?_) N ((0, 41), P) ⟨fun _ => rfl, fun j hj => by omega, fr.rf⟩ (by omega)
  · obtain ⟨⟨x, y⟩, P1⟩ := s
    obtain ⟨i1, i2, i3⟩ := hi
    dsimp only at i1 i2 i3
    have h1 := h.fr ok i3
    obtain ⟨⟨v, P2⟩, g1, g2, g3⟩ := r_errs h1 ok (iN k) true hN
    dsimp only at g2 g3
    obtain ⟨⟨v', P3⟩, j1, j2, j3⟩ := r_errs (h1.fr ok g3) ok (iN k) false hN
    dsimp only at j2 j3
    have hle := tEr_le W h40 k
    have ff := (i3.tr g3).tr j3
    show ∃ s', f_57_12 N (n + 1) x y (iN k) P1 = _ ∧ _
    rw [show f_57_12 N (n + 1) x y (iN k) P1 = if (100 : Int32) < iN k then some (x, P1) else ab_b2 (f_169 N (iN k) (0 : Int32) P1) fun v3 P2 => ab_b2 (f_169 N (iN k) (1 : Int32) P2) fun v5 P4 => if (v3 + v5) < y then f_57_12 N n (iN k) (v3 + v5) (iN k + 1) P4 else f_57_12 N n x y (iN k + 1) P4 from rfl]
    rw [if_neg (by rw [iN_lll (by omega) (by decide)]; exact (by omega : ¬ 100 < k)), show f_169 N (iN k) (0 : Int32) P1 = _ from g1]
    show ∃ s', (ab_b2 (f_169 N (iN k) (1 : Int32) P2) fun v5 P4 => if (v + v5) < y then f_57_12 N n (iN k) (v + v5) (iN k + 1) P4 else f_57_12 N n x y (iN k + 1) P4) = _ ∧ _
    rw [show f_169 N (iN k) (1 : Int32) P2 = _ from j1]
    show ∃ s', (if (v + v') < y then f_57_12 N n (iN k) (v + v') (iN k + 1) P3 else f_57_12 N n x y (iN k + 1) P3) = _ ∧ _
    rw [g2, j2, iN_add, iN_succ]
    show ∃ s', (if iN (tEr W k) < y then f_57_12 N n (iN k) (iN (tEr W k)) (iN (k + 1)) P3 else f_57_12 N n x y (iN (k + 1)) P3) = _ ∧ _
    rcases k with _ | k
    · have := i1 rfl
      cases this
      rw [if_pos (by rw [show (41 : Int32) = iN 41 from rfl, iN_lt (by omega) (by decide)]; omega)]
      exact ⟨((iN 0, iN (tEr W 0)), P3), rfl, fun e => by omega, fun j hj => (by
        have : j = 0 := by omega
        subst this; rfl), ff⟩
    · have := i2 k rfl
      cases this
      have hb := bst_le W h40 k
      by_cases hc : tEr W (k + 1) < (bst W k).2
      · rw [if_pos (by rw [iN_lt (by omega) (by omega)]; exact hc)]
        exact ⟨((iN (k + 1), iN (tEr W (k + 1))), P3), rfl, fun e => by omega, fun j hj => (by
          have : j = k + 1 := by omega
          subst this; simp [bst, hc]), ff⟩
      · rw [if_neg (by rw [iN_lt (by omega) (by omega)]; exact hc)]
        exact ⟨((iN (bst W k).1, iN (bst W k).2), P3), rfl, fun e => by omega, fun j hj => (by
          have : j = k + 1 := by omega
          subst this; simp [bst, hc]), ff⟩
  · obtain ⟨⟨x, y⟩, P1⟩ := s
    have e := hi.2.1 m (by omega)
    show TT (if (100 : Int32) < iN 101 then some (x, P1) else _) _
    rw [if_pos (by decide)]
    exact TT_some ⟨congrArg Prod.fst e, hi.2.2⟩
/-- what would be meant of one told of -/
def tv (a b c d e : Int32) : Nat → Int32 := fun j => match j with
  | 0 => a
  | 1 => b
  | 2 => c
  | 3 => d
  | 4 => 0
  | 5 => e
  | _ => 0
theorem c_would (h : CW W P) (ok : OK W) (a b c d e : Int32) (hN : 70000 ≤ N) : TT (f_241 N a b c d e P) (fun q => q.1 = clamp (evK W.w.2 (tv a b c d e) W.w.1 0) ∧ fr scC P q.2) := by
  have h8 : CW W (p8 P 47 (tv a b c d e)) := h.fr (p8_fr (fun j => by unfold scC; omega))
  have main := c_law ok.2.1 h8.2.1 (fun j hj => p8_at hj) hN
  refine TT_b2 main (fun v P1 hv => TT_some ⟨hv.1, ?_⟩)
  exact (p8_fr (fun j => by unfold scC; omega)).tr (hv.2.mono (fun b j e => by unfold scC; omega))
theorem r_would (h : RW W P) (ok : OK W) (a b c d e : Int32) (hN : 70000 ≤ N) : TT (f_33_79 N N a b c d e 0 P) (fun q => q.1 = clamp (evK W.w.2 (tv a b c d e) W.w.1 0) ∧ fr scR P q.2) := by
  refine upT (fun n k (s : ab_P) => f_33_79 N n a b c d e (iN k) s) 8 (fun k s => (∀ j, j < k → s.1 476 j = 0) ∧ fr scR P s) _ (fun n k P1 hk hi => ?_) (fun n P1 hi => ?_) N P ⟨fun j hj => absurd hj (Nat.not_lt_zero _), fr.rf⟩ (by omega)
  · obtain ⟨e1, e2⟩ := hi
    show ∃ s', f_33_79 N (n + 1) a b c d e (iN k) P1 = _ ∧ _
    simp only [f_33_79, iN_ltl (show k < 2147483648 by omega) (show 8 < 2147483648 by decide), hk, ↓reduceIte, iN_succ, iN_gT hk (show 8 ≤ 2147483648 by decide), iN_nat (show k < 2147483648 by omega), ab_lt]
    refine ⟨_, rfl, fun j hj => ?_, e2.tr (fr.I (show scR 476 k by unfold scR; omega))⟩
    show ab_upI P1.1 476 _ _ 476 j = _
    rw [uI_at]
    split
    · rfl
    · exact e1 j (by omega)
  · obtain ⟨e1, e2⟩ := hi
    simp only [f_33_79, iN_ltl (show 8 < 2147483648 by omega) (show 8 < 2147483648 by decide), Nat.lt_irrefl, ↓reduceIte, ab_lt]
    have f5 : fr scR P1 (ab_pI (ab_pI (ab_pI (ab_pI (ab_pI P1 476 0 a) 476 1 b) 476 2 c) 476 3 d) 476 5 e) := by
      refine fr.tr (fr.tr (fr.tr (fr.tr (fr.I ?_) (fr.I ?_)) (fr.I ?_)) (fr.I ?_)) (fr.I ?_) <;> (unfold scR; omega)
    have h8 := (h.fr ok e2).fr ok f5
    have main := r_law (v := tv a b c d e) ok.2.1 h8.2.1 (fun j hj => by
      simp only [uI_at]
      rcases (show j = 0 ∨ j = 1 ∨ j = 2 ∨ j = 3 ∨ j = 4 ∨ j = 5 ∨ j = 6 ∨ j = 7 by omega) with rfl | rfl | rfl | rfl | rfl | rfl | rfl | rfl <;> simp [tv, e1]) hN
    refine TT_b2 main (fun v P2 hv => TT_some ⟨hv.1, ?_⟩)
    exact (e2.tr f5).tr (hv.2.mono (fun b j e => by unfold scR; omega))
end HH
