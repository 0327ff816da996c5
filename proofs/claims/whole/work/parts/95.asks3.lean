/-! calls: the questions, third part -/
section GU
variable {g g' : GS} {P : ab_P} {N K n : Nat}
/-! the book: the first line that doesn't hold -/
def rgt (L : LG) (B : BK) : Nat → Nat → Int32
  | 0, _ => iN B.1
  | c + 1, k => if sWorth L (iN (B.2.1 k)) true = zN (B.2.2 k) then rgt L B c (k + 1) else iN k
theorem c_rgt {L : LG} {B : BK} (h : CL 43 L P) (hB : CB B P) (h8 : B.1 ≤ 8) (hN : 70000 ≤ N) : ∀ c k n, k + c = B.1 → c < n → f_167_2 21 43 N P n (iN k) = some (rgt L B c k) := by
  intro c
  induction c with
  | zero =>
    intro k n hk hn
    obtain ⟨n, rfl⟩ : ∃ z, n = z + 1 := ⟨n - 1, by omega⟩
    unfold f_167_2
    rw [hB.1, if_neg (by rw [iN_lt (by omega) (by omega)]; omega)]
    rfl
  | succ c ih =>
    intro k n hk hn
    obtain ⟨n, rfl⟩ : ∃ z, n = z + 1 := ⟨n - 1, by omega⟩
    obtain ⟨b1, b2⟩ := hB.2 k (by omega)
    have hg : ab_gi (iN k) 8 := iN_gi (by omega) (by decide)
    unfold f_167_2
    rw [hB.1, if_pos (by rw [iN_lt (by omega) (by omega)]; omega), if_pos (by rw [iN_ltl (by omega) (by decide)]; exact (show k < 8 by omega)), if_pos hg, (by rw [iN_nat (by omega)]; exact b1 : P.1 (21 + 1) (iN k).toNatClampNeg = iN (B.2.1 k)), c_worth1 h hN, Option.bind_some, if_pos hg, (by rw [iN_nat (by omega)]; exact b2 : P.1 (21 + 2) (iN k).toNatClampNeg = zN (B.2.2 k)), iN_succ]
    show (if sWorth L (iN (B.2.1 k)) true = zN (B.2.2 k) then _ else _) = some (if sWorth L (iN (B.2.1 k)) true = zN (B.2.2 k) then rgt L B c (k + 1) else iN k)
    by_cases e : sWorth L (iN (B.2.1 k)) true = zN (B.2.2 k)
    · rw [if_pos e, if_pos e]
      exact ih (k + 1) n (by omega) (by omega)
    · rw [if_neg e, if_neg e]
theorem r_rgt {L : LG} {B : BK} {pe : Nat} (h : RL 477 L P) (hw : WF pe L) (hB : RBk B P) (h8 : B.1 ≤ 8) (hN : 70000 ≤ N) : ∀ c k n, k + c = B.1 → c < n → f_53_7 N n (iN k) P = some (rgt L B c k, P) := by
  intro c
  induction c with
  | zero =>
    intro k n hk hn
    obtain ⟨n, rfl⟩ : ∃ z, n = z + 1 := ⟨n - 1, by omega⟩
    unfold f_53_7
    rw [hB.1, if_neg (by rw [iN_lt (by omega) (by omega)]; omega), show k = B.1 by omega]
    rfl
  | succ c ih =>
    intro k n hk hn
    obtain ⟨n, rfl⟩ : ∃ z, n = z + 1 := ⟨n - 1, by omega⟩
    obtain ⟨b1, b2⟩ := hB.2 k (by omega)
    have hg : ab_gi (iN k) 8 := iN_gi (by omega) (by decide)
    unfold f_53_7
    rw [hB.1, if_pos (by rw [iN_lt (by omega) (by omega)]; omega), if_pos hg, (by rw [iN_nat (by omega)]; exact b1 : P.1 (426 + 1 + (iN k).toNatClampNeg) 0 = iN (B.2.1 k)), r_worth1 h hw hN, Option.bind_some, if_pos hg, (by rw [iN_nat (by omega)]; exact b2 : P.1 (426 + 1 + (iN k).toNatClampNeg) 1 = zN (B.2.2 k)), iN_succ]
    show (if sWorth L (iN (B.2.1 k)) true = zN (B.2.2 k) then _ else _) = some (if sWorth L (iN (B.2.1 k)) true = zN (B.2.2 k) then rgt L B c (k + 1) else iN k, P)
    by_cases e : sWorth L (iN (B.2.1 k)) true = zN (B.2.2 k)
    · rw [if_pos e, if_pos e]
      exact ih (k + 1) n (by omega) (by omega)
    · rw [if_neg e, if_neg e]
theorem k_right (h : CREL g P) (ok : GOK g) (hN : 70000 ≤ N) : CallP g (f_52 N P) (f_53 N) := by
  have h8 := ok.2.2.2.2.1
  unfold f_52 f_53 f_167
  refine kPl (v := rgt g.W.L g.K g.K.1 0) ok ?_ (fun P1 h1 h0 => ?_)
  · rw [show f_167_2 21 43 N P N (0 : Int32) = _ from c_rgt h.2.2.2.1.c h.2.2.2.2.2.1 h8 hN g.K.1 0 N (by omega) (by omega), Option.bind_some]
  · exact TT_eq (r_rgt h1.2.2.2.1.r ok.2.2.1.1 h1.2.2.2.2.2.1 h8 hN g.K.1 0 N (by omega) (by omega)) ⟨rfl, fr.rf⟩
/-! who may pay a sum -/
def pyr (W : WO) (b : Int32) (n0 p : Nat) : Bool := !decide (iN p = b) && !decide (lg_cmp (jN (sPay W.L (iN p) b n0)) (0 : Int64) = 0)
theorem orI_y {p : Nat → Bool} {k : Nat} (h : p k = true) : orI p (k + 1) = orI p k ||| ((1 : Int32) <<< (iN k &&& 31)) := by
  show orI p k ||| (if p k then (1 : Int32) <<< (iN k &&& 31) else 0) = _
  rw [if_pos h]
theorem orI_n {p : Nat → Bool} {k : Nat} (h : p k = false) : orI p (k + 1) = orI p k ||| (0 : Int32) := by
  show orI p k ||| (if p k then (1 : Int32) <<< (iN k &&& 31) else 0) = _
  rw [if_neg (by rw [h]; decide)]
theorem or_z (x : Int32) : x ||| (0 : Int32) = x := Int32.or_zero
theorem c_payers {W : WO} {b : Int32} {n0 : Nat} (h : CW W P) (ok : OK W) (h1 : 1 ≤ n0) (hn : n0 < 1000) (hN : 70000 ≤ N) : TT (f_182_22 N N b (iN n0) 0 0 P) (fun q => q.1 = .inl (orI (pyr W b n0) W.pe) ∧ fr scC P q.2) := by
  have h8 := ok.1.1
  refine upC (fun n k (s : ab_P) => f_182_22 N n b (iN n0) (orI (pyr W b n0) k) (iN k) s) W.pe (fun k s => fr scC P s) _ (fun n k P1 hk hi hK => ?_) (fun n P1 hi => ?_) N P fr.rf (by omega)
  · show TT (f_182_22 N (n + 1) b (iN n0) _ (iN k) P1) _
    unfold f_182_22
    rw [(h.fr hi).pe, if_pos (by rw [iN_lt (by omega) (by omega)]; exact hk), iN_succ]
    by_cases hb : iN k = b
    · rw [if_pos hb]
      have := hK P1 hi
      rw [orI_n (show pyr W b n0 k = false by unfold pyr; simp [hb]), or_z] at this
      exact this
    · rw [if_neg hb]
      refine TT_b2 (c_fewest (h.fr hi) ok h1 hn hN) (fun v5 P2 hv => ?_)
      obtain ⟨v1, v2⟩ := hv
      dsimp only at v1 v2
      rw [v1]
      have := hK P2 (hi.tr v2)
      by_cases hc : lg_cmp (jN (sPay W.L (iN k) b n0)) (0 : Int64) = (0 : Int32)
      · rw [if_pos hc]
        rw [orI_n (show pyr W b n0 k = false by unfold pyr; simp [hc]), or_z] at this
        exact this
      · rw [if_neg hc]
        rw [orI_y (show pyr W b n0 k = true by unfold pyr; simp [hb, hc])] at this
        exact this
  · show TT (f_182_22 N (n + 1) b (iN n0) _ (iN W.pe) P1) _
    unfold f_182_22
    rw [(h.fr hi).pe, if_neg (by rw [iN_lt (by omega) (by omega)]; omega)]
    exact TT_some ⟨rfl, hi⟩
theorem r_payers {W : WO} {b : Int32} {n0 : Nat} (h : RW W P) (ok : OK W) (hn : n0 < 1000) (hN : 70000 ≤ N) : TT (f_73_59 N N b (iN n0) 0 0 P) (fun q => q.1 = orI (pyr W b n0) W.pe ∧ fr scR P q.2) := by
  have h8 := ok.1.1
  refine upC (fun n k (s : ab_P) => f_73_59 N n b (iN n0) (orI (pyr W b n0) k) (iN k) s) W.pe (fun k s => fr scR P s) _ (fun n k P1 hk hi hK => ?_) (fun n P1 hi => ?_) N P fr.rf (by omega)
  · show TT (f_73_59 N (n + 1) b (iN n0) _ (iN k) P1) _
    unfold f_73_59
    rw [(h.fr ok hi).pe, if_pos (by rw [iN_lt (by omega) (by omega)]; exact hk), iN_succ]
    by_cases hb : iN k = b
    · rw [if_pos hb]
      have := hK P1 hi
      rw [orI_n (show pyr W b n0 k = false by unfold pyr; simp [hb])] at this
      exact this
    · rw [if_neg hb]
      refine TT_b2 (r_fewest (h.fr ok hi) ok hn hN) (fun v5 P2 hv => ?_)
      obtain ⟨v1, v2⟩ := hv
      dsimp only at v1 v2
      rw [v1]
      have := hK P2 (hi.tr v2)
      by_cases hc : lg_cmp (jN (sPay W.L (iN k) b n0)) (0 : Int64) = (0 : Int32)
      · rw [if_pos hc]
        rw [orI_n (show pyr W b n0 k = false by unfold pyr; simp [hc])] at this
        exact this
      · rw [if_neg hc]
        rw [orI_y (show pyr W b n0 k = true by unfold pyr; simp [hb, hc])] at this
        exact this
  · show TT (f_73_59 N (n + 1) b (iN n0) _ (iN W.pe) P1) _
    unfold f_73_59
    rw [(h.fr ok hi).pe, if_neg (by rw [iN_lt (by omega) (by omega)]; omega)]
    exact TT_some ⟨rfl, hi⟩
/-! which cells stand still -/
def tV (a b c d : Int32) : Int32 := (if d < b then (if (if b < d then (0 : Int32) else if c < a then 0 else 1) = 0 then (if a < c then (0 : Int32) else 1) + 0 + 0 else (if a < c then (0 : Int32) else 1) + 6 + 0) else (if (if b < d then (0 : Int32) else if c < a then 0 else 1) = 0 then (if a < c then (0 : Int32) else 1) + 0 + 8 else (if a < c then (0 : Int32) else 1) + 6 + 8))
theorem c_till (a b c d : Int32) : (if a < c then f_175_64 a b c d (0 : Int32) P else f_175_64 a b c d (1 : Int32) P) = some (.inl (tV a b c d), P) := by
  unfold tV f_175_64 f_175_94 f_175_107 f_175_119
  by_cases h1 : a < c
  · simp only [if_pos h1]
    by_cases h2 : b < d
    · simp only [if_pos h2]
      by_cases h4 : d < b
      · simp only [if_pos h4]; rfl
      · simp only [if_neg h4]; rfl
    · simp only [if_neg h2]
      by_cases h3 : c < a
      · simp only [if_pos h3]
        by_cases h4 : d < b
        · simp only [if_pos h4]; rfl
        · simp only [if_neg h4]; rfl
      · simp only [if_neg h3]
        by_cases h4 : d < b
        · simp only [if_pos h4]; rfl
        · simp only [if_neg h4]; rfl
  · simp only [if_neg h1]
    by_cases h2 : b < d
    · simp only [if_pos h2]
      by_cases h4 : d < b
      · simp only [if_pos h4]; rfl
      · simp only [if_neg h4]; rfl
    · simp only [if_neg h2]
      by_cases h3 : c < a
      · simp only [if_pos h3]
        by_cases h4 : d < b
        · simp only [if_pos h4]; rfl
        · simp only [if_neg h4]; rfl
      · simp only [if_neg h3]
        by_cases h4 : d < b
        · simp only [if_pos h4]; rfl
        · simp only [if_neg h4]; rfl
theorem r_cell {H : Int32 → Int32 → ab_P → Option (Int32 × ab_P)} {m : Nat → Int32} {i j : Nat} (hi : i < 2) (hj : j < 2) (hP : ∀ t, t < 4 → P.1 569 t = m t) (x : Int32) : f_65_110 H (n + 1) x (iN i) (iN j) P = f_65_110 H n (if m (2 * i + j) < m (2 - 2 * i + j) then x else if m (2 * j + i) < m (2 - 2 * j + i) then x else x ||| ((1 : Int32) <<< (iN (2 * i + j) &&& 31))) (iN i) (iN (j + 1)) P := by
  have e1 : (2 : Int32) * iN i + iN j = iN (2 * i + j) := by rw [show (2 : Int32) = iN 2 from rfl, iN_mul, iN_add]
  have e2 : (2 : Int32) - (2 : Int32) * iN i + iN j = iN (2 - 2 * i + j) := by rw [show (2 : Int32) = iN 2 from rfl, iN_mul, iN_sub (by omega), iN_add]
  have e3 : (2 : Int32) * iN j + iN i = iN (2 * j + i) := by rw [show (2 : Int32) = iN 2 from rfl, iN_mul, iN_add]
  have e4 : (2 : Int32) - (2 : Int32) * iN j + iN i = iN (2 - 2 * j + i) := by rw [show (2 : Int32) = iN 2 from rfl, iN_mul, iN_sub (by omega), iN_add]
  conv => lhs; unfold f_65_110
  rw [e1, e2, e3, e4, if_pos (by rw [iN_ltl (by omega) (by decide)]; exact hj), if_pos (iN_gi (by omega) (by decide)), if_pos (iN_gi (by omega) (by decide)), if_pos (iN_gi (by omega) (by decide)), if_pos (iN_gi (by omega) (by decide)), iN_nat (show 2 * i + j < 2147483648 by omega), iN_nat (show 2 - 2 * i + j < 2147483648 by omega), iN_nat (show 2 * j + i < 2147483648 by omega), iN_nat (show 2 - 2 * j + i < 2147483648 by omega), hP _ (by omega), hP _ (by omega), hP _ (by omega), hP _ (by omega), iN_succ]
  by_cases c1 : m (2 * i + j) < m (2 - 2 * i + j)
  · rw [if_pos c1, if_pos c1]
  · rw [if_neg c1, if_neg c1]
    by_cases c2 : m (2 * j + i) < m (2 - 2 * j + i)
    · rw [if_pos c2, if_pos c2]
    · rw [if_neg c2, if_neg c2]
theorem r_till {a b c d : Int32} (h0 : P.1 569 0 = a) (h1 : P.1 569 1 = b) (h2 : P.1 569 2 = c) (h3 : P.1 569 3 = d) (hN : 70000 ≤ N) : f_65_101 N N 0 0 P = some (tV a b c d, P) := by
  obtain ⟨M, rfl⟩ : ∃ z, N = z + 4 := ⟨N - 4, by omega⟩
  have hP : ∀ t, t < 4 → P.1 569 t = (fun t => if t = 0 then a else if t = 1 then b else if t = 2 then c else d) t := fun t ht => by
    rcases (show t = 0 ∨ t = 1 ∨ t = 2 ∨ t = 3 by omega) with rfl | rfl | rfl | rfl
    · exact h0
    · exact h1
    · exact h2
    · exact h3
  have row : ∀ i n x, i < 2 → f_65_101 (M + 4) (n + 1) x (iN i) P = f_65_101 (M + 4) n _ (iN (i + 1)) P := fun i n x hi => by
    conv => lhs; unfold f_65_101
    rw [if_pos (by rw [iN_ltl (by omega) (by decide)]; exact hi), show f_65_110 (fun y0 y1 y2 => f_65_101 (M + 4) n y0 y1 y2) (M + 4) x (iN i) (0 : Int32) P = _ from r_cell (j := 0) hi (by decide) hP x, r_cell (j := 1) hi (by decide) hP]
    conv => lhs; unfold f_65_110
    rw [if_neg (by decide), iN_succ]
  rw [show f_65_101 (M + 4) (M + 4) 0 0 P = _ from row 0 (M + 3) 0 (by decide), row 1 (M + 2) _ (by decide)]
  unfold f_65_101
  rw [if_neg (by decide)]
  refine congrArg (fun x => some (x, P)) ?_
  unfold tV
  by_cases c1 : a < c <;> by_cases c2 : b < d <;> by_cases c3 : c < a <;> by_cases c4 : d < b <;> simp [c1, c2, c3, c4] <;> decide
/-! months -/
theorem c273_yes {β : Type} {a b c : Int32} {F : Unit → ab_P → Option ((β ⊕ Fin 3) × ab_P)} (h : isRg 1 30 a ∧ isRg 0 16 b ∧ isRg 0 16 c) : ab_x2 (f_273 a b c P) F (fun q => q) = F () P := by
  unfold f_273
  rw [cc_yes h.1, cc_yes h.2.1, cc_yes h.2.2]
  rfl
theorem c273_no {β : Type} {a b c : Int32} {F : Unit → ab_P → Option ((β ⊕ Fin 3) × ab_P)} (h : ¬ (isRg 1 30 a ∧ isRg 0 16 b ∧ isRg 0 16 c)) : ab_x2 (f_273 a b c P) F (fun q => q) = some (.inr 1, noC 1 P) := by
  unfold f_273
  by_cases ha : isRg 1 30 a
  · rw [cc_yes ha]
    by_cases hb : isRg 0 16 b
    · rw [cc_yes hb, cc_no (fun hc => h ⟨ha, hb, hc⟩)]
      rfl
    · rw [cc_no hb]
      rfl
  · rw [cc_no ha]
    rfl
theorem rr3_yes {α : Type} {a b c l1 l2 l3 u1 u2 u3 : Int32} {X Y : Option α} (h : isRg l1 u1 a ∧ isRg l2 u2 b ∧ isRg l3 u3 c) : (Option.bind (f_112 P a l1 u1) fun v => if v = (0 : Int32) then X else Option.bind (f_112 P b l2 u2) fun v => if v = (0 : Int32) then X else Option.bind (f_112 P c l3 u3) fun v => if v = (0 : Int32) then X else Y) = Y := by
  rw [rr_yes h.1, rr_yes h.2.1, rr_yes h.2.2]
theorem rr3_no {α : Type} {a b c l1 l2 l3 u1 u2 u3 : Int32} {X Y : Option α} (h : ¬ (isRg l1 u1 a ∧ isRg l2 u2 b ∧ isRg l3 u3 c)) : (Option.bind (f_112 P a l1 u1) fun v => if v = (0 : Int32) then X else Option.bind (f_112 P b l2 u2) fun v => if v = (0 : Int32) then X else Option.bind (f_112 P c l3 u3) fun v => if v = (0 : Int32) then X else Y) = X := by
  by_cases ha : isRg l1 u1 a
  · rw [rr_yes ha]
    by_cases hb : isRg l2 u2 b
    · rw [rr_yes hb, rr_no (fun hc => h ⟨ha, hb, hc⟩)]
    · rw [rr_no hb]
  · rw [rr_no ha]
theorem cS_yes {β : Type} {F : Unit → ab_P → Option ((β ⊕ Fin 3) × ab_P)} {w : Nat} (h : CREL g P) (ok : GOK g) {a : Int32} {A B : Option ((β ⊕ Fin 3) × ab_P)} (ha : isP g.W.pe a) : (Option.bind (f_240 P a (0 : Int32) ((P.1 3 5) - (1 : Int32))) fun v => if v = (0 : Int32) then A else B) = B := by
  rw [h.2.2.2.1.pe]
  exact cc_yes ((rg_pred (by have := ok.2.2.1.1.1; omega) a).mpr ha)
theorem cS_no {β : Type} (h : CREL g P) (ok : GOK g) {a : Int32} {A B : Option ((β ⊕ Fin 3) × ab_P)} (ha : ¬ isP g.W.pe a) : (Option.bind (f_240 P a (0 : Int32) ((P.1 3 5) - (1 : Int32))) fun v => if v = (0 : Int32) then A else B) = A := by
  rw [h.2.2.2.1.pe]
  exact cc_no (fun e => ha ((rg_pred (by have := ok.2.2.1.1.1; omega) a).mp e))
theorem k_span (h : CREL g P) (ok : GOK g) (a b c d e f w : Int32) (hN : 70000 ≤ N) : CallI g P (f_86_1 N a b c d e f w P) (f_87 N a b c d e f w) := by
  unfold f_86_1 f_87
  obtain ⟨lc, hl⟩ : ∃ lc : Int32 → Int32, ∀ x : Int32, x * (1103515245 : Int32) + (12345 : Int32) = lc x := ⟨_, fun _ => rfl⟩
  by_cases hall : isRg 1 20 b ∧ (isRg 1 30 c ∧ isRg 0 16 d ∧ isRg 0 16 e) ∧ isRg 0 2 f ∧ isP g.W.pe w
  · obtain ⟨hb, ht, hf, hg⟩ := hall
    obtain ⟨many, m1, m20, rfl⟩ := isRg1_nat (m := 20) (by decide) hb
    obtain ⟨n0, n1, n30, rfl⟩ := isRg1_nat (m := 30) (by decide) ht.1
    have hwh : f = 0 ∨ f = 1 ∨ f = 2 := by
      obtain ⟨k, hk, rfl⟩ := isRg_nat (n := 2) (by decide) hf
      rcases (show k = 0 ∨ k = 1 ∨ k = 2 by omega) with rfl | rfl | rfl
      · exact Or.inl rfl
      · exact Or.inr (Or.inl rfl)
      · exact Or.inr (Or.inr rfl)
    refine kI_scr h ok (v := sSpan lc g.W a d e n0 many f w) ?_ (fun P1 h1 h0 => ?_)
    · unfold f_191
      rw [c273_yes ht, cc_yes hb, rg_yes hf, cS_yes (F := fun _ _ => none) (w := 0) h ok hg, c1_yes]
      exact (c_span hl hwh h.2.2.2.1 ok.2.2.1 m1 m20 n30 hN).mono (fun q hq => ⟨hq.1, hq.2.mono sMo_C⟩)
    · rw [rr_yes hb, rr3_yes ht, rr_yes hf, rP_yes h1 ok hg]
      unfold f_87_72
      rw [r_goon h0]
      exact (r_span hl h1.2.2.2.1 ok.2.2.1 m1 m20 n30 hN).mono (fun q hq => ⟨hq.1, hq.2.mono sMr_R⟩)
  · refine kI_bad (E := 1) (a := 1) (x := 1) h ok ?_ (fun P1 => rfl) (by decide) (by decide) (by decide) (fun P1 h1 h0 => ?_)
    · unfold f_191
      by_cases ht : isRg 1 30 c ∧ isRg 0 16 d ∧ isRg 0 16 e
      · rw [c273_yes ht]
        by_cases hb : isRg 1 20 b
        · rw [cc_yes hb]
          by_cases hf : isRg 0 2 f
          · rw [rg_yes hf, cS_no h ok (fun hg => hall ⟨hb, ht, hf, hg⟩)]
            exact c1_no
          · rw [rg_no hf]
            exact c1_no
        · rw [cc_no hb]
          exact c1_no
      · rw [c273_no ht]
    · have fin : TT (f_87_72 N a b c d e f w (1 : Int32) P1) (fun q => q.2.1 72 0 = iN 1 ∧ RREL (gRf g 1) q.2 ∧ fr sRR P1 q.2) := by
        unfold f_87_72
        exact r_stop (a := 1) (x := 1) h1 ok h0 (by decide) (by decide) (by decide)
      by_cases hb : isRg 1 20 b
      · rw [rr_yes hb]
        by_cases ht : isRg 1 30 c ∧ isRg 0 16 d ∧ isRg 0 16 e
        · rw [rr3_yes ht]
          by_cases hf : isRg 0 2 f
          · rw [rr_yes hf, rP_no h1 ok (fun hg => hall ⟨hb, ht, hf, hg⟩)]
            exact fin
          · rw [rr_no hf]
            exact fin
        · rw [rr3_no ht]
          exact fin
      · rw [rr_no hb]
        exact fin
theorem k_month (h : CREL g P) (ok : GOK g) (a b c d e : Int32) (hN : 70000 ≤ N) : CallI g P (f_84_1 N a b c d e P) (f_85 N a b c d e) := by
  unfold f_84_1 f_85
  obtain ⟨lc, hl⟩ : ∃ lc : Int32 → Int32, ∀ x : Int32, x * (1103515245 : Int32) + (12345 : Int32) = lc x := ⟨_, fun _ => rfl⟩
  by_cases ht : isRg 1 30 b ∧ isRg 0 16 c ∧ isRg 0 16 d
  · by_cases he : isRg 0 3 e
    · obtain ⟨n0, n1, n30, rfl⟩ := isRg1_nat (m := 30) (by decide) ht.1
      obtain ⟨k, hk, rfl⟩ := isRg_nat (n := 3) (by decide) he
      have hM := spM_OK lc ok.2.2.1 a c d n0 0
      unfold spM at hM
      rw [show a + iN 0 = a from Int32.add_zero a] at hM
      have cc := c_run hl h.2.2.2.1 ok.2.2.1 a c d n30 hN
      have rc := fun P1 (h1 : RREL g P1) => r_run hl h1.2.2.2.1 ok.2.2.1 a c d n30 hN
      generalize mDays lc g.W.pe c d (g.W.L, a, 0) n0 = M at hM cc rc
      have goC : ∀ v : Int32, (∀ P2, CM M P2 → fr sMo P P2 → (if iN k = 0 then Option.bind (f_236 62 N P2) fun v4 => (some (.inl v4, P2) : Option ((Int32 ⊕ Fin 3) × ab_P)) else if iN k = 1 then Option.bind (f_229 62 N P2) fun v5 => some (.inl v5, P2) else if iN k = 2 then some (.inl (P2.1 61 4), P2) else Option.bind (f_275 N P2) fun v6 => some (.inl v6, P2)) = some (.inl v, P2)) → TT (f_189 N a (iN n0) c d (iN k) P) (fun q => q.1 = .inl v ∧ fr scC P q.2) := fun v hv => by
        unfold f_189
        rw [c273_yes ht, rg_yes he]
        unfold f_189_25
        rw [c1_yes]
        exact TT_bind cc (fun P2 h2 => TT_eq (hv P2 h2.1 h2.2) ⟨rfl, h2.2.mono sMo_C⟩)
      have goR : ∀ (v : Int32) P1, RREL g P1 → P1.1 72 0 = 0 → (∀ P2, RMo M P2 → fr sMr P1 P2 → (if iN k = (0 : Int32) then Option.bind (f_142_366 478 N P2) fun v9 => some (v9, P2) else f_85_87 N (iN k) P2) = some (v, P2)) → TT (f_85_52 N a (iN n0) c d (iN k) 0 P1) (fun q => q.1 = v ∧ fr scR P1 q.2) := fun v P1 h1 h0 hv => by
        unfold f_85_52
        rw [r_goon h0]
        unfold f_85_62
        exact TT_bind (rc P1 h1) (fun P2 h2 => TT_eq (hv P2 h2.1 h2.2) ⟨rfl, h2.2.mono sMr_R⟩)
      rcases (show k = 0 ∨ k = 1 ∨ k = 2 ∨ k = 3 by omega) with rfl | rfl | rfl | rfl
      · refine kI_scr h ok (v := sSorrows M.1) (goC _ (fun P2 c1 c2 => ?_)) (fun P1 h1 h0 => ?_)
        · rw [if_pos (by decide), c_sorrows c1.1 hN, Option.bind_some]
        · rw [rr3_yes ht, rr_yes he]
          refine goR _ P1 h1 h0 (fun P2 c1 c2 => ?_)
          rw [if_pos (by decide), r_sorrows c1.1 hN, Option.bind_some]
      · refine kI_scr h ok (v := sStanding M.1) (goC _ (fun P2 c1 c2 => ?_)) (fun P1 h1 h0 => ?_)
        · rw [if_neg (by decide), if_pos (by decide), c_standing c1.1 hN, Option.bind_some]
        · rw [rr3_yes ht, rr_yes he]
          refine goR _ P1 h1 h0 (fun P2 c1 c2 => ?_)
          unfold f_85_87
          rw [if_neg (by decide), if_pos (by decide), r_standing c1.1 hN, Option.bind_some]
      · refine kI_scr h ok (v := M.2.2) (goC _ (fun P2 c1 c2 => ?_)) (fun P1 h1 h0 => ?_)
        · rw [if_neg (by decide), if_neg (by decide), if_pos (by decide), c1.2.2]
        · rw [rr3_yes ht, rr_yes he]
          refine goR _ P1 h1 h0 (fun P2 c1 c2 => ?_)
          unfold f_85_87 f_85_104
          rw [if_neg (by decide), if_neg (by decide), if_pos (by decide), c1.2.2]
      · refine kI_scr h ok (v := oN (sRich M.1 g.W.pe 1)) (goC _ (fun P2 c1 c2 => ?_)) (fun P1 h1 h0 => ?_)
        · unfold f_275
          rw [if_neg (by decide), if_neg (by decide), if_neg (by decide), (c2.1 3 5 (by unfold sMo; omega)).trans h.2.2.2.1.pe, c_rich c1.1 ok.2.2.1.1.1 1 hN, Option.bind_some, Option.bind_some]
        · rw [rr3_yes ht, rr_yes he]
          refine goR _ P1 h1 h0 (fun P2 c1 c2 => ?_)
          unfold f_85_87 f_85_104
          rw [if_neg (by decide), if_neg (by decide), if_neg (by decide), r_rich c1.1 hM ((c2.1 76 0 (by unfold sMr; omega)).trans h1.2.2.2.1.pe) 1 hN, Option.bind_some]
    · refine kI_bad (E := 1) (a := 1) (x := 1) h ok ?_ (fun P1 => rfl) (by decide) (by decide) (by decide) (fun P1 h1 h0 => ?_)
      · unfold f_189
        rw [c273_yes ht, rg_no he]
        unfold f_189_25
        exact c1_no
      · rw [rr3_yes ht, rr_no he]
        unfold f_85_52
        exact r_stop (a := 1) (x := 1) h1 ok h0 (by decide) (by decide) (by decide)
  · refine kI_bad (E := 1) (a := 1) (x := 1) h ok ?_ (fun P1 => rfl) (by decide) (by decide) (by decide) (fun P1 h1 h0 => ?_)
    · unfold f_189
      rw [c273_no ht]
    · rw [rr3_no ht]
      unfold f_85_52
      exact r_stop (a := 1) (x := 1) h1 ok h0 (by decide) (by decide) (by decide)
theorem k_payers (h : CREL g P) (ok : GOK g) (a b : Int32) (hN : 70000 ≤ N) : CallI g P (f_72_1 N a b P) (f_73 N a b) := by
  unfold f_72_1 f_73
  by_cases ha : isP g.W.pe a
  · by_cases hb : isRg (1) (999) b
    · obtain ⟨n0, hn1, hn9, rfl⟩ := isRg1_nat (m := 999) (by decide) hb
      refine kI_scr h ok (v := (orI (pyr g.W a n0) g.W.pe)) ?_ (fun P1 h1 h0 => ?_)
      · skip
        unfold f_182
        rw [cP_yes h ha]
        rw [cb_yes hb]
        exact c_payers h.2.2.2.1 ok.2.2.1 hn1 (by omega) hN
      · skip
        rw [rP_yes h1 ok ha]
        unfold f_73_19
        rw [r_goon h0]
        rw [rr_yes hb]
        unfold f_73_44
        rw [r_goon h0]
        exact r_payers h1.2.2.2.1 ok.2.2.1 (by omega) hN
    · refine kI_bad (E := 1) (a := 2) (x := 1) h ok ?_ (fun P1 => rfl) (by decide) (by decide) (by decide) (fun P1 h1 h0 => ?_)
      · unfold f_182
        rw [cP_yes h ha]
        rw [cb_no hb]
      · rw [rP_yes h1 ok ha]
        unfold f_73_19
        rw [r_goon h0]
        rw [rr_no hb]
        unfold f_73_44
        exact r_stop (a := 2) (x := 1) h1 ok h0 (by decide) (by decide) (by decide)
  · refine kI_bad (E := 0) (a := 1) (x := 0) h ok ?_ (fun P1 => rfl) (by decide) (by decide) (by decide) (fun P1 h1 h0 => ?_)
    · unfold f_182
      rw [cP_no h ha]
    · rw [rP_no h1 ok ha]
      unfold f_73_19
      exact r_stop (a := 1) (x := 0) h1 ok h0 (by decide) (by decide) (by decide)
theorem k_till (h : CREL g P) (ok : GOK g) (a b c d : Int32) (hN : 70000 ≤ N) : CallI g P (f_64_1 a b c d P) (f_65 N a b c d) := by
  unfold f_64_1 f_65
  by_cases ha : isRg (-99) (99) a
  · by_cases hb : isRg (-99) (99) b
    · by_cases hc : isRg (-99) (99) c
      · by_cases hd : isRg (-99) (99) d
        · refine kI_scr h ok (v := (tV a b c d)) ?_ (fun P1 h1 h0 => ?_)
          · skip
            unfold f_175
            rw [cc_yes ha]
            rw [cc_yes hb]
            rw [cc_yes hc]
            rw [cc_yes hd]
            unfold f_175_51
            rw [c1_yes]
            exact TT_eq (c_till a b c d) ⟨rfl, fr.rf⟩
          · skip
            rw [rr_yes ha]
            rw [rr_yes hb]
            rw [rr_yes hc]
            rw [rr_yes hd]
            unfold f_65_56
            rw [r_goon h0]
            exact TT_lt (TT_lt (TT_lt (TT_lt (TT_eq (r_till (by rw [pI_nj (by decide), pI_nj (by decide), pI_nj (by decide), pI_eq]) (by rw [pI_nj (by decide), pI_nj (by decide), pI_eq]) (by rw [pI_nj (by decide), pI_eq]) pI_eq hN) ⟨rfl, (((fr.I (by unfold scR; omega)).tr (fr.I (by unfold scR; omega))).tr (fr.I (by unfold scR; omega))).tr (fr.I (by unfold scR; omega))⟩))))
        · refine kI_bad (E := 1) (a := 1) (x := 1) h ok ?_ (fun P1 => rfl) (by decide) (by decide) (by decide) (fun P1 h1 h0 => ?_)
          · unfold f_175
            rw [cc_yes ha]
            rw [cc_yes hb]
            rw [cc_yes hc]
            rw [cc_no hd]
            unfold f_175_51
            exact c1_no
          · rw [rr_yes ha]
            rw [rr_yes hb]
            rw [rr_yes hc]
            rw [rr_no hd]
            unfold f_65_56
            exact r_stop (a := 1) (x := 1) h1 ok h0 (by decide) (by decide) (by decide)
      · refine kI_bad (E := 1) (a := 1) (x := 1) h ok ?_ (fun P1 => rfl) (by decide) (by decide) (by decide) (fun P1 h1 h0 => ?_)
        · unfold f_175
          rw [cc_yes ha]
          rw [cc_yes hb]
          rw [cc_no hc]
          unfold f_175_51
          exact c1_no
        · rw [rr_yes ha]
          rw [rr_yes hb]
          rw [rr_no hc]
          unfold f_65_56
          exact r_stop (a := 1) (x := 1) h1 ok h0 (by decide) (by decide) (by decide)
    · refine kI_bad (E := 1) (a := 1) (x := 1) h ok ?_ (fun P1 => rfl) (by decide) (by decide) (by decide) (fun P1 h1 h0 => ?_)
      · unfold f_175
        rw [cc_yes ha]
        rw [cc_no hb]
        unfold f_175_51
        exact c1_no
      · rw [rr_yes ha]
        rw [rr_no hb]
        unfold f_65_56
        exact r_stop (a := 1) (x := 1) h1 ok h0 (by decide) (by decide) (by decide)
  · refine kI_bad (E := 1) (a := 1) (x := 1) h ok ?_ (fun P1 => rfl) (by decide) (by decide) (by decide) (fun P1 h1 h0 => ?_)
    · unfold f_175
      rw [cc_no ha]
      unfold f_175_51
      exact c1_no
    · rw [rr_no ha]
      unfold f_65_56
      exact r_stop (a := 1) (x := 1) h1 ok h0 (by decide) (by decide) (by decide)
end GU
