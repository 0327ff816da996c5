/-! a law as codes: (0, a number), (1, a told value), (2 .. 7, _) what is done with two; how high the stack is, what lies on it -/
abbrev LW : Type := Nat × (Nat → Nat × Nat)
def hK (c : Nat → Nat × Nat) : Nat → Nat
  | 0 => 0
  | n + 1 => if (c n).1 < 2 then hK c n + 1 else hK c n - 1
def opL (t : Nat) (a b : Int32) : Int32 := match t with
  | 2 => a + b
  | 3 => a - b
  | 4 => a * b
  | 5 => if b = 0 then 0 else a / b
  | 6 => ab_mn a b
  | _ => ab_mx a b
def pu (s : Nat → Int32) (h : Nat) (x : Int32) : Nat → Int32 := fun j => if j = h then x else s j
def evK (c : Nat → Nat × Nat) (v : Nat → Int32) : Nat → Nat → Int32
  | 0 => fun _ => 0
  | n + 1 => if (c n).1 = 0 then pu (evK c v n) (hK c n) (iN (c n).2) else if (c n).1 = 1 then pu (evK c v n) (hK c n) (v (c n).2)
    else pu (evK c v n) (hK c n - 2) (opL (c n).1 (evK c v n (hK c n - 2)) (evK c v n (hK c n - 1)))
def encC (c : Nat × Nat) : Int32 := iN (if c.1 = 0 then c.2 else if c.1 = 1 then 1000 + c.2 else 1998 + c.1)
def WFL (w : LW) : Prop := w.1 ≤ 150 ∧ 1 ≤ hK w.2 w.1 ∧ ∀ k, k < w.1 → ((w.2 k).1 = 0 ∧ (w.2 k).2 ≤ 999 ∧ hK w.2 k < 32) ∨ ((w.2 k).1 = 1 ∧ (w.2 k).2 < 8 ∧ hK w.2 k < 32) ∨ (2 ≤ (w.2 k).1 ∧ (w.2 k).1 ≤ 7 ∧ 2 ≤ hK w.2 k ∧ hK w.2 k ≤ 32)
def wLaw : LW := (7, fun k => match k with
  | 0 => (0, 50)
  | 1 => (0, 5)
  | 2 => (1, 2)
  | 3 => (4, 0)
  | 4 => (2, 0)
  | 5 => (1, 5)
  | _ => (3, 0))
theorem wLaw_WF : WFL wLaw := by
  refine ⟨by decide, by decide, fun k hk => ?_⟩
  have hk : k < 7 := hk
  rcases (show k = 0 ∨ k = 1 ∨ k = 2 ∨ k = 3 ∨ k = 4 ∨ k = 5 ∨ k = 6 by omega) with rfl | rfl | rfl | rfl | rfl | rfl | rfl <;> decide
theorem wLaw_ev (v : Nat → Int32) : evK wLaw.2 v 7 0 = 50 + 5 * v 2 - v 5 := rfl
def CLaw (i : Nat) (w : LW) (P : ab_P) : Prop := w.1 ≤ 150 ∧ P.1 i 1 = iN w.1 ∧ ∀ k, k < w.1 → P.1 (i + 1) k = encC (w.2 k)
def RLaw (w : LW) (P : ab_P) : Prop := (P.1 72 16 = iN w.1 ∧ w.1 ≠ 0 ∧ ∀ k, k < w.1 → P.1 (104 + 1 + k) 0 = iN (w.2 k).1 ∧ P.1 (104 + 1 + k) 1 = iN (w.2 k).2) ∨ (P.1 72 16 = 0 ∧ w = wLaw)
def clamp (x : Int32) : Int32 := ab_mx 0 (ab_mn 99 x)
theorem clamp_N (x : Int32) : ∃ z, z ≤ 99 ∧ clamp x = iN z := by
  have h1 : ¬ clamp x < 0 := by
    unfold clamp ab_mx ab_mn
    grind
  have h2 : clamp x < iN 100 := by
    show clamp x < 100
    unfold clamp ab_mx ab_mn
    grind
  obtain ⟨k, hk, e⟩ := iN_of h1 (by decide) h2
  exact ⟨k, by omega, e⟩
theorem pu_at (s : Nat → Int32) (h : Nat) (x : Int32) (j : Nat) : pu s h x j = if j = h then x else s j := rfl
theorem i_dm1 (a : Int32) : a / (-1) = -a := by
  apply Int32.toInt_inj.mp
  rw [Int32.toInt_div, Int32.toInt_neg a]
  have : (-1 : Int32).toInt = -1 := by decide
  rw [this]
  simp
theorem c_op {P : ab_P} {t : Nat} (h2 : 2 ≤ t) (h7 : t ≤ 7) (a b : Int32) : f_342 P (iN (1998 + t)) a b = some (opL t a b) := by
  rcases (show t = 2 ∨ t = 3 ∨ t = 4 ∨ t = 5 ∨ t = 6 ∨ t = 7 by omega) with rfl | rfl | rfl | rfl | rfl | rfl
  · rfl
  · rfl
  · rfl
  · show (if b = 0 then some 0 else if ¬ b = 0 then some (a / b) else none) = some (if b = 0 then 0 else a / b)
    by_cases hb : b = 0 <;> simp [hb]
  · show (if b < a then some b else some a) = some (if b < a then b else a)
    by_cases hb : b < a <;> simp [hb]
  · show (if a < b then some b else some a) = some (if a < b then b else a)
    by_cases hb : a < b <;> simp [hb]
theorem r_op {P : ab_P} {t : Nat} (h2 : 2 ≤ t) (h7 : t ≤ 7) (a b : Int32) : f_298 P (iN t) a b = some (opL t a b) := by
  rcases (show t = 2 ∨ t = 3 ∨ t = 4 ∨ t = 5 ∨ t = 6 ∨ t = 7 by omega) with rfl | rfl | rfl | rfl | rfl | rfl
  · rfl
  · rfl
  · rfl
  · show (if b = 0 then some 0 else if b = -1 then some (-a) else if ¬ b = 0 then some (a / b) else none) = some (if b = 0 then 0 else a / b)
    by_cases hb : b = 0
    · simp [hb]
    · by_cases h1 : b = -1
      · subst h1; rw [if_neg (by decide), if_pos rfl, if_neg (by decide), i_dm1]
      · simp [hb, h1]
  · show (f_192 P a b).bind (fun v => some v) = _
    rw [r_less]; rfl
  · show (f_193 P a b).bind (fun v => some v) = _
    rw [r_mor]; rfl
theorem sub_lt0 {a b : Nat} (h : a < b) (hb : b < 2147483648) : iN a - iN b < 0 := by
  rw [Int32.lt_iff_toInt_lt, i_sub (by rw [iN_toInt (by omega), iN_toInt hb]; omega) (by rw [iN_toInt (by omega), iN_toInt hb]; omega), iN_toInt (by omega), iN_toInt hb]
  show _ < (0 : Int)
  omega
section ME
variable {w : LW} {P : ab_P} {N : Nat} {v : Nat → Int32}
theorem c_law (hw : WFL w) (h : CLaw 15 w P) (hv : ∀ j, j < 8 → P.1 47 j = v j) (hN : 70000 ≤ N) : TT (f_297_8 15 47 N P) (fun q => q.1 = clamp (evK w.2 v w.1 0) ∧ fr (fun b _ => b = 17) P q.2) := by
  have h150 := h.1
  refine upT (fun n k (s : Int32 × ab_P) => f_297_8_4 15 47 n s.1 (iN k) s.2) w.1 (fun k s => s.1 = iN (hK w.2 k) ∧ (∀ j, j < hK w.2 k → s.2.1 17 j = evK w.2 v k j) ∧ fr (fun b _ => b = 17) P s.2) _ (fun n k s hk hi => ?_) (fun n s hi => ?_) N (0, P) ⟨rfl, fun j hj => absurd hj (Nat.not_lt_zero _), fr.rf⟩ (by omega)
  · obtain ⟨x, P1⟩ := s
    obtain ⟨e1, e2, e3⟩ := hi
    dsimp only at e1 e2 e3
    subst e1
    have g1 : P1.1 15 1 = iN w.1 := by rw [e3.1 15 1 (show ¬ 15 = 17 by decide)]; exact h.2.1
    have g2 : P1.1 (15 + 1) k = encC (w.2 k) := by rw [e3.1 16 k (show ¬ 16 = 17 by decide)]; exact h.2.2 k hk
    have g3 : ∀ j, j < 8 → P1.1 47 j = v j := fun j hj => by rw [e3.1 47 j (show ¬ 47 = 17 by decide)]; exact hv j hj
    show ∃ s', f_297_8_4 15 47 (n + 1) (iN (hK w.2 k)) (iN k) P1 = _ ∧ _
    simp only [f_297_8_4, g1, iN_lt (show k < 2147483648 by omega) (show w.1 < 2147483648 by omega), hk, iN_lit 150, iN_lt (show k < 2147483648 by omega) (show 150 < 2147483648 by decide), show k < 150 by omega, iN_gT (show k < 150 by omega) (show 150 ≤ 2147483648 by decide), iN_nat (show k < 2147483648 by omega), g2, ↓reduceIte]
    rcases hw.2.2 k hk with ⟨c1, c2, c3⟩ | ⟨c1, c2, c3⟩ | ⟨c1, c2, c3, c4⟩
    · have he : encC (w.2 k) = iN (w.2 k).2 := by unfold encC; rw [if_pos c1]
      simp only [he, iN_lit 2000, iN_lt (show (w.2 k).2 < 2147483648 by omega) (show 2000 < 2147483648 by decide), show (w.2 k).2 < 2000 by omega, iN_lit 32, iN_lt (show hK w.2 k < 2147483648 by omega) (show 32 < 2147483648 by decide), c3, iN_lit 1000, sub_lt0 (show (w.2 k).2 < 1000 by omega) (by decide), iN_gT (show hK w.2 k < 32 by omega) (show 32 ≤ 2147483648 by decide), iN_nat (show hK w.2 k < 2147483648 by omega), iN_succ, ab_lt, ↓reduceIte]
      refine ⟨(iN (hK w.2 k + 1), _), rfl, ?_, fun j hj => ?_, e3.tr (fr.I rfl)⟩
      · simp [hK, c1]
      · have hh : hK w.2 (k + 1) = hK w.2 k + 1 := by simp [hK, c1]
        rw [hh] at hj
        show ab_upI P1.1 17 _ _ 17 j = _
        rw [uI_at]
        simp only [evK, c1, ↓reduceIte, pu_at, true_and]
        split
        · rfl
        · exact e2 j (by omega)
    · have he : encC (w.2 k) = iN (1000 + (w.2 k).2) := by unfold encC; rw [if_neg (by omega), if_pos c1]
      have hs : iN (1000 + (w.2 k).2) - iN 1000 = iN (w.2 k).2 := by rw [iN_sub (by omega), Nat.add_sub_cancel_left]
      simp only [he, iN_lit 2000, iN_lt (show 1000 + (w.2 k).2 < 2147483648 by omega) (show 2000 < 2147483648 by decide), show 1000 + (w.2 k).2 < 2000 by omega, iN_lit 32, iN_lt (show hK w.2 k < 2147483648 by omega) (show 32 < 2147483648 by decide), c3, iN_lit 1000, hs, iN_neg (show (w.2 k).2 < 2147483648 by omega), iN_lit 8, iN_lt (show (w.2 k).2 < 2147483648 by omega) (show 8 < 2147483648 by decide), c2, iN_gT c2 (show 8 ≤ 2147483648 by decide), iN_gT (show hK w.2 k < 32 by omega) (show 32 ≤ 2147483648 by decide), iN_nat (show hK w.2 k < 2147483648 by omega), iN_nat (show (w.2 k).2 < 2147483648 by omega), iN_succ, ab_lt, ↓reduceIte]
      refine ⟨(iN (hK w.2 k + 1), _), rfl, ?_, fun j hj => ?_, e3.tr (fr.I rfl)⟩
      · simp [hK, c1]
      · have hh : hK w.2 (k + 1) = hK w.2 k + 1 := by simp [hK, c1]
        rw [hh] at hj
        show ab_upI P1.1 17 _ _ 17 j = _
        rw [uI_at]
        simp only [evK, c1, show ¬ 1 = 0 by decide, ↓reduceIte, pu_at, true_and]
        split
        · exact g3 _ c2
        · exact e2 j (by omega)
    · have he : encC (w.2 k) = iN (1998 + (w.2 k).1) := by unfold encC; rw [if_neg (by omega), if_neg (by omega)]
      simp only [f_297_8_87, he, iN_lit 2000, iN_lt (show 1998 + (w.2 k).1 < 2147483648 by omega) (show 2000 < 2147483648 by decide), show ¬ 1998 + (w.2 k).1 < 2000 by omega, iN_lit 2, iN_lt (show hK w.2 k < 2147483648 by omega) (show 2 < 2147483648 by decide), show ¬ hK w.2 k < 2 by omega, iN_lit 1, iN_sub (show 2 ≤ hK w.2 k by omega), iN_sub (show 1 ≤ hK w.2 k by omega), iN_gT (show hK w.2 k - 2 < 32 by omega) (show 32 ≤ 2147483648 by decide), iN_gT (show hK w.2 k - 1 < 32 by omega) (show 32 ≤ 2147483648 by decide), iN_nat (show hK w.2 k - 2 < 2147483648 by omega), iN_nat (show hK w.2 k - 1 < 2147483648 by omega), c_op c1 c2, Option.bind_some, ab_lt, ↓reduceIte, iN_add, iN_pred (show 0 < hK w.2 k by omega), e2 _ (show hK w.2 k - 2 < hK w.2 k by omega), e2 _ (show hK w.2 k - 1 < hK w.2 k by omega)]
      refine ⟨(iN (hK w.2 k) + -iN 1, _), rfl, ?_, fun j hj => ?_, e3.tr (fr.I rfl)⟩
      · refine (iN_pred (show 0 < hK w.2 k by omega)).trans ?_
        simp [hK, show ¬ (w.2 k).1 < 2 by omega]
      · have hh : hK w.2 (k + 1) = hK w.2 k - 1 := by simp [hK, show ¬ (w.2 k).1 < 2 by omega]
        rw [hh] at hj
        show ab_upI P1.1 17 _ _ 17 j = _
        rw [uI_at]
        simp only [evK, show ¬ (w.2 k).1 = 0 by omega, show ¬ (w.2 k).1 = 1 by omega, ↓reduceIte, pu_at, true_and]
        split
        · rfl
        · exact e2 j (by omega)
  · obtain ⟨x, P1⟩ := s
    obtain ⟨e1, e2, e3⟩ := hi
    dsimp only at e1 e2 e3
    have g1 : P1.1 15 1 = iN w.1 := by rw [e3.1 15 1 (show ¬ 15 = 17 by decide)]; exact h.2.1
    simp only [f_297_8_4, g1, iN_lt (show w.1 < 2147483648 by omega) (show w.1 < 2147483648 by omega), Nat.lt_irrefl, ↓reduceIte]
    exact TT_some ⟨by rw [e2 0 hw.2.1]; rfl, e3⟩
theorem r_law (hw : WFL w) (h : RLaw w P) (hv : ∀ j, j < 8 → P.1 476 j = v j) (hN : 70000 ≤ N) : TT (f_148 N P) (fun q => q.1 = clamp (evK w.2 v w.1 0) ∧ fr (fun b _ => b = 475) P q.2) := by
  have h150 := hw.1
  have main : TT (f_242 N P) (fun q => q.1 = evK w.2 v w.1 0 ∧ fr (fun b _ => b = 475) P q.2) := by
    unfold f_242
    rcases h with ⟨h1, h0, h2⟩ | ⟨h1, rfl⟩
    · rw [if_neg (by rw [h1, ← iN_0, iN_eq (by omega) (by decide)]; exact h0)]
      refine upT (fun n k (s : Int32 × ab_P) => f_242_30 n s.1 (iN k) s.2) w.1 (fun k s => s.1 = iN (hK w.2 k) ∧ (∀ j, j < hK w.2 k → s.2.1 475 j = evK w.2 v k j) ∧ fr (fun b _ => b = 475) P s.2) _ (fun n k s hk hi => ?_) (fun n s hi => ?_) N (0, P) ⟨rfl, fun j hj => absurd hj (Nat.not_lt_zero _), fr.rf⟩ (by omega)
      · obtain ⟨x, P1⟩ := s
        obtain ⟨e1, e2, e3⟩ := hi
        dsimp only at e1 e2 e3
        subst e1
        have g1 : P1.1 72 16 = iN w.1 := by rw [e3.1 72 16 (show ¬ 72 = 475 by decide)]; exact h1
        have g2 : P1.1 (104 + 1 + k) 0 = iN (w.2 k).1 := by rw [e3.1 _ _ (show ¬ 104 + 1 + k = 475 by omega)]; exact (h2 k hk).1
        have g3 : P1.1 (104 + 1 + k) 1 = iN (w.2 k).2 := by rw [e3.1 _ _ (show ¬ 104 + 1 + k = 475 by omega)]; exact (h2 k hk).2
        have g4 : ∀ j, j < 8 → P1.1 476 j = v j := fun j hj => by rw [e3.1 476 j (show ¬ 476 = 475 by decide)]; exact hv j hj
        show ∃ s', f_242_30 (n + 1) (iN (hK w.2 k)) (iN k) P1 = _ ∧ _
        simp only [f_242_30, g1, iN_lt (show k < 2147483648 by omega) (show w.1 < 2147483648 by omega), hk, iN_gT (show k < 160 by omega) (show 160 ≤ 2147483648 by decide), iN_nat (show k < 2147483648 by omega), g2, g3, ↓reduceIte]
        rcases hw.2.2 k hk with ⟨c1, c2, c3⟩ | ⟨c1, c2, c3⟩ | ⟨c1, c2, c3, c4⟩
        · simp only [c1, iN_lit 2, iN_lt (show 0 < 2147483648 by decide) (show 2 < 2147483648 by decide), show 0 < 2 by decide, show iN 0 = 0 from rfl, iN_gT (show hK w.2 k < 160 by omega) (show 160 ≤ 2147483648 by decide), iN_nat (show hK w.2 k < 2147483648 by omega), iN_succ, ab_lt, ↓reduceIte, show ((0 : Int32) < iN 2) by decide]
          refine ⟨(iN (hK w.2 k + 1), _), rfl, ?_, fun j hj => ?_, e3.tr (fr.I rfl)⟩
          · simp [hK, c1]
          · have hh : hK w.2 (k + 1) = hK w.2 k + 1 := by simp [hK, c1]
            rw [hh] at hj
            show ab_upI P1.1 475 _ _ 475 j = _
            rw [uI_at]
            simp only [evK, c1, ↓reduceIte, pu_at, true_and]
            split
            · rfl
            · exact e2 j (by omega)
        · simp only [c1, show (iN 1 < (2 : Int32)) by decide, show ¬ iN 1 = 0 by decide, iN_gT (show (w.2 k).2 < 8 by omega) (show 8 ≤ 2147483648 by decide), iN_gT (show hK w.2 k < 160 by omega) (show 160 ≤ 2147483648 by decide), iN_nat (show hK w.2 k < 2147483648 by omega), iN_nat (show (w.2 k).2 < 2147483648 by omega), g4 _ c2, iN_succ, ab_lt, ↓reduceIte]
          refine ⟨(iN (hK w.2 k + 1), _), rfl, ?_, fun j hj => ?_, e3.tr (fr.I rfl)⟩
          · simp [hK, c1]
          · have hh : hK w.2 (k + 1) = hK w.2 k + 1 := by simp [hK, c1]
            rw [hh] at hj
            show ab_upI P1.1 475 _ _ 475 j = _
            rw [uI_at]
            simp only [evK, c1, show ¬ 1 = 0 by decide, ↓reduceIte, pu_at, true_and]
            split
            · rfl
            · exact e2 j (by omega)
        · have hpp : iN (hK w.2 k - 1) - 1 = iN (hK w.2 k - 2) := by
            rw [iN_lit 1, iN_sub (by omega), Nat.sub_sub]
          simp only [hpp, iN_lit 2, iN_lt (show (w.2 k).1 < 2147483648 by omega) (show 2 < 2147483648 by decide), show ¬ (w.2 k).1 < 2 by omega, iN_pred (show 0 < hK w.2 k by omega), iN_gT (show hK w.2 k - 2 < 160 by omega) (show 160 ≤ 2147483648 by decide), iN_gT (show hK w.2 k - 1 < 160 by omega) (show 160 ≤ 2147483648 by decide), iN_nat (show hK w.2 k - 2 < 2147483648 by omega), iN_nat (show hK w.2 k - 1 < 2147483648 by omega), r_op c1 c2, Option.bind_some, ab_lt, ↓reduceIte, iN_succ, e2 _ (show hK w.2 k - 2 < hK w.2 k by omega), e2 _ (show hK w.2 k - 1 < hK w.2 k by omega)]
          refine ⟨(iN (hK w.2 k - 1), _), rfl, ?_, fun j hj => ?_, e3.tr (fr.I rfl)⟩
          · simp [hK, show ¬ (w.2 k).1 < 2 by omega]
          · have hh : hK w.2 (k + 1) = hK w.2 k - 1 := by simp [hK, show ¬ (w.2 k).1 < 2 by omega]
            rw [hh] at hj
            show ab_upI P1.1 475 _ _ 475 j = _
            rw [uI_at]
            simp only [evK, show ¬ (w.2 k).1 = 0 by omega, show ¬ (w.2 k).1 = 1 by omega, ↓reduceIte, pu_at, true_and]
            split
            · rfl
            · exact e2 j (by omega)
      · obtain ⟨x, P1⟩ := s
        obtain ⟨e1, e2, e3⟩ := hi
        dsimp only at e1 e2 e3
        have g1 : P1.1 72 16 = iN w.1 := by rw [e3.1 72 16 (show ¬ 72 = 475 by decide)]; exact h1
        simp only [f_242_30, g1, iN_lt (show w.1 < 2147483648 by omega) (show w.1 < 2147483648 by omega), Nat.lt_irrefl, ↓reduceIte]
        exact TT_some ⟨by rw [e2 0 hw.2.1], e3⟩
    · rw [if_pos h1]
      refine TT_some ⟨?_, fr.rf⟩
      show 50 + 5 * P.1 476 2 - P.1 476 5 = _
      rw [hv 2 (by decide), hv 5 (by decide)]
      exact (wLaw_ev v).symm
  unfold f_148
  refine TT_b2 main (fun x P1 hx => ?_)
  rw [r_less, Option.bind_some, r_mor, Option.bind_some]
  exact TT_some ⟨by rw [show x = _ from hx.1]; rfl, hx.2⟩
end ME
