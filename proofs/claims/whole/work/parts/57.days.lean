/-! one day: who apologises to whom -/
section DY
variable {W : WO} {P : ab_P} {N n0 k : Nat}
def bOk (W : WO) (p q k : Nat) : Bool := opn W k && decide (W.L.1 0 k = iN p) && decide (W.L.1 1 k = iN q)
/-- the greatest claim that p would apologise for to q, of the first n -/
def bOn (W : WO) (p q n : Nat) : Option Nat := fb (bOk W p q) (fun a b => decide (W.L.1 2 b < W.L.1 2 a)) n
def bO (W : WO) (p q : Nat) : Option Nat := bOn W p q W.L.2.1
theorem bO_p {p q b : Nat} (h : bO W p q = some b) : b < W.L.2.1 ∧ opn W b = true ∧ W.L.1 0 b = iN p ∧ W.L.1 1 b = iN q := by
  have := fb_some h
  obtain ⟨h1, h2⟩ := this
  unfold bOk at h2
  simp only [Bool.and_eq_true, decide_eq_true_eq] at h2
  exact ⟨h1, h2.1.1, h2.1.2, h2.2⟩
theorem bO_pe (ok : OK W) {p q b : Nat} (hq : q < 8) (h : bO W p q = some b) : q < W.pe := by
  obtain ⟨h1, _, _, h4⟩ := bO_p h
  obtain ⟨a, a1, a2, a3⟩ := ok.1.by h1
  rw [a3, iN_eq (by omega) (by omega)] at h4
  omega
theorem opn_lt {k : Nat} (h : opn W k = true) : stL W.L k = true := by
  unfold opn at h
  rw [Bool.and_eq_true] at h
  exact h.1
/-- what it brings -/
def bz (W : WO) (p q : Nat) : Nat := match bO W p q with
  | none => 0
  | some b => szP W.L b
def DD (W : WO) : Nat → Nat → Nat
  | 0, _ => 0
  | d + 1, h => max (DD W d h) (mxN (fun q => if h.testBit q = false ∧ bO W (W.pe - (d + 1)) q ≠ none then bz W (W.pe - (d + 1)) q + DD W d (h ||| 2 ^ q) else 0) 8)
theorem bz_le (ok : OK W) (p q : Nat) : bz W p q ≤ 9999 := by
  unfold bz
  split
  · omega
  · rename_i b hb
    exact (ok.1.sz (bO_p hb).1).2.2
theorem DD_le (ok : OK W) : ∀ d h, DD W d h ≤ 9999 * d
  | 0, _ => Nat.le_refl _
  | d + 1, h => by
    unfold DD
    have h1 := DD_le ok d h
    rcases mxN_at (f := fun q => if h.testBit q = false ∧ bO W (W.pe - (d + 1)) q ≠ none then bz W (W.pe - (d + 1)) q + DD W d (h ||| 2 ^ q) else 0) (n := 8) with e | ⟨q, q1, q2⟩
    · omega
    · rw [q2]
      split
      · have := DD_le ok d (h ||| 2 ^ q)
        have := bz_le ok (W.pe - (d + 1)) q
        omega
      · omega
theorem or_lt8 {h q pe : Nat} (hh : h < 2 ^ pe) (hq : q < pe) : h ||| 2 ^ q < 2 ^ pe := Nat.or_lt_two_pow hh (Nat.pow_lt_pow_right (by decide) hq)
theorem pw_lt {q : Nat} (h : q < 8) : 2 ^ q < 256 := by
  have : 2 ^ q < 2 ^ 8 := Nat.pow_lt_pow_right (by decide) h
  omega
theorem shr_tb0 {s p : Nat} (hs : s < 2147483648) (hp : p < 31) : ((iN s >>> (iN p &&& 31)) &&& (1 : Int32) = 0) = (s.testBit p = false) := by
  rw [i31 p (by omega), iN_shr hs (by omega), show (1 : Int32) = iN 1 from rfl, iN_and]
  have h1 : (s >>> p) &&& 1 ≤ 1 := Nat.and_le_right
  rw [show (0 : Int32) = iN 0 from rfl, iN_eq (by omega) (by decide)]
  have : Nat.testBit s p = (1 &&& (s >>> p) != 0) := rfl
  have hc : 1 &&& (s >>> p) = (s >>> p) &&& 1 := Nat.and_comm _ _
  rw [this, hc]
  generalize (s >>> p) &&& 1 = v at *
  apply propext
  rcases (show v = 0 ∨ v = 1 by omega) with rfl | rfl <;> decide
/-! the component: offers -/
def CO (W : WO) (n : Nat) (P : ab_P) : Prop := ∀ p, p < 8 → ∀ q, q < 8 → P.1 58 (p * 8 + q) = oN (bOn W p q n)
theorem CO.fr47 {n : Nat} {P P' : ab_P} (h : CO W n P) (f : fr s47 P P') : CO W n P' := fun p hp q hq => by
  rw [f.1 58 _ (by unfold s47; omega)]
  exact h p hp q hq
theorem c_fill64 (hN : 70000 ≤ N) : TT (f_306_64 58 N (-1) P) (fun q => (∀ s, s < 64 → q.1 58 s = -1) ∧ fr scC P q) := by
  unfold f_306_64
  refine upT (fun n k (s : ab_P) => f_306_64_5 58 n (-1) (iN k) 64 s) 64 (fun k q => (∀ s, s < k → q.1 58 s = -1) ∧ fr scC P q) _ (fun n k P1 hk hi => ?_) (fun n P1 hi => ?_) N P ⟨fun s hs => absurd hs (Nat.not_lt_zero _), fr.rf⟩ (by omega)
  · obtain ⟨e1, e2⟩ := hi
    show ∃ s', f_306_64_5 58 (n + 1) (-1) (iN k) 64 P1 = _ ∧ _
    simp only [f_306_64_5, iN_ltl (show k < 2147483648 by omega) (show 64 < 2147483648 by decide), hk, iN_gT hk (show 64 ≤ 2147483648 by decide), iN_nat (show k < 2147483648 by omega), iN_succ, ab_lt, ↓reduceIte]
    refine ⟨_, rfl, fun s hs => ?_, e2.tr (fr.I (by unfold scC; omega))⟩
    rw [pI_at]
    split
    · rfl
    · exact e1 s (by omega)
  · obtain ⟨e1, e2⟩ := hi
    simp only [f_306_64_5, iN_ltl (show 64 < 2147483648 by omega) (show 64 < 2147483648 by decide), Nat.lt_irrefl, ↓reduceIte]
    exact TT_some ⟨e1, e2⟩
def szO (L : LG) (o : Option Nat) : Int32 := match o with
  | none => 0
  | some b => L.1 2 b
theorem c_size (h : CL 43 W.L P) {o : Option Nat} (ho : ∀ b, o = some b → b < W.L.2.1) : f_307 P (oN o) = some (szO W.L o) := by
  have h40 := h.m40
  unfold f_307
  cases o with
  | none => rw [if_pos (show oN none = -1 from rfl)]; rfl
  | some b =>
    have hb := ho b rfl
    rw [oN_some, if_neg (by rw [iN_nm1 (by omega)]; exact id), c_get2 h hb]
    rfl
theorem bOn_lt {p q n b : Nat} (h : bOn W p q n = some b) : b < n := (fb_some h).1
theorem c_offers (h : CW W P) (ok : OK W) (hN : 70000 ≤ N) : TT (f_251 N P) (fun q => CO W W.L.2.1 q ∧ fr scC P q) := by
  have h40 := h.c.m40
  unfold f_251
  refine TT_bind (c_fill64 hN) (fun P0 h0 => ?_)
  refine upT (fun n k (q : ab_P) => f_251_10 N n (iN k) q) W.L.2.1 (fun k q => CO W k q ∧ fr scC P q) _ (fun n k P1 hk hi => ?_) (fun n P1 hi => ?_) N P0 ⟨fun p hp q hq => by rw [h0.1 _ (by omega)]; rfl, h0.2⟩ (by omega)
  · obtain ⟨e1, e2⟩ := hi
    have g := h.fr e2
    obtain ⟨a, a1, a2, a3⟩ := ok.1.on hk
    obtain ⟨b, b1, b2, b3⟩ := ok.1.by hk
    obtain ⟨z1, z2, z3⟩ := ok.1.sz hk
    have hat : iN a * (8 : Int32) + iN b = iN (a * 8 + b) := by rw [iN_lit 8, iN_mul, iN_add]
    have no : opn W k = false → ∀ P2, fr s47 P1 P2 → CO W (k + 1) P2 := fun hc P2 hf p hp q hq => by
      rw [(e1.fr47 hf) p hp q hq]
      unfold bOn
      rw [fb_no (by unfold bOk; rw [hc]; rfl)]
    show ∃ s', f_251_10 N (n + 1) (iN k) P1 = _ ∧ _
    simp only [f_251_10, c_more g.c hk, c_get0 g.c hk, c_get1 g.c hk, a3, b3, Option.bind_some, hat, iN_neg (show a * 8 + b < 2147483648 by omega), iN_ltl (show a * 8 + b < 2147483648 by omega) (show 64 < 2147483648 by decide), show a * 8 + b < 64 by omega, iN_succ, ↓reduceIte]
    obtain ⟨⟨v, P2⟩, g1, g2, g3⟩ := c_openG g ok (show k < 2147483648 by omega) hN
    dsimp only at g2 g3
    have gg := g.fr (g3.mono s47_C)
    simp only [g1, ab_b2, Option.bind_some, g2, bI_0]
    cases ho : opn W k with
    | false =>
      rw [if_pos rfl]
      exact ⟨P2, rfl, no ho P2 g3, e2.tr (g3.mono s47_C)⟩
    | true =>
      rw [if_neg (by decide)]
      have hof : P2.1 58 (a * 8 + b) = oN (bOn W a b k) := (e1.fr47 g3) a a2 b b2
      simp only [c_get2 gg.c hk, iN_gT (show a * 8 + b < 64 by omega) (show 64 ≤ 2147483648 by decide), iN_nat (show a * 8 + b < 2147483648 by omega), hof, c_size gg.c (o := bOn W a b k) (fun x hx => by have := bOn_lt hx; omega), Option.bind_some, ab_lt, ↓reduceIte]
      have okk : bOk W a b k = true := by unfold bOk; simp [ho, a3, b3]
      have other : ∀ p q, p < 8 → q < 8 → ¬ (p = a ∧ q = b) → bOn W p q (k + 1) = bOn W p q k := fun p q hp hq hn => by
        unfold bOn
        refine fb_no ?_
        unfold bOk
        rw [a3, b3]
        simp only [iN_eq (show a < 2147483648 by omega) (show p < 2147483648 by omega), iN_eq (show b < 2147483648 by omega) (show q < 2147483648 by omega)]
        by_cases h1 : a = p
        · by_cases h2 : b = q
          · exact absurd ⟨h1.symm, h2.symm⟩ hn
          · simp [h2]
        · simp [h1]
      have wr : bOn W a b (k + 1) = some k → CO W (k + 1) (ab_pI P2 58 (a * 8 + b) (iN k)) := fun hb p hp q hq => by
        rw [pI_at]
        by_cases hpq : p = a ∧ q = b
        · rw [if_pos ⟨rfl, by rw [hpq.1, hpq.2]⟩, hpq.1, hpq.2, hb]; rfl
        · rw [if_neg (by omega), other p q hp hq hpq]
          exact (e1.fr47 g3) p hp q hq
      have st : bOn W a b (k + 1) = bOn W a b k → CO W (k + 1) P2 := fun hb p hp q hq => by
        rw [(e1.fr47 g3) p hp q hq]
        by_cases hpq : p = a ∧ q = b
        · rw [hpq.1, hpq.2, hb]
        · rw [other p q hp hq hpq]
      have hun : bOn W a b (k + 1) = match bOn W a b k with
        | none => if bOk W a b k then some k else none
        | some q => if bOk W a b k && decide (W.L.1 2 q < W.L.1 2 k) then some k else some q := rfl
      have f2 : fr scC P (ab_pI P2 58 (a * 8 + b) (iN k)) := (e2.tr (g3.mono s47_C)).tr (fr.I (by unfold scC; omega))
      rw [okk] at hun
      cases hb : bOn W a b k with
      | none =>
        rw [hb] at hun
        rw [show szO W.L none = 0 from rfl, z1, if_pos (by rw [show (0 : Int32) = iN 0 from rfl, iN_lt (by decide) (by omega)]; omega)]
        exact ⟨_, rfl, wr (by simpa using hun), f2⟩
      | some c =>
        rw [hb] at hun
        dsimp only at hun
        rw [show szO W.L (some c) = W.L.1 2 c from rfl]
        by_cases hc : W.L.1 2 c < W.L.1 2 k
        · rw [if_pos hc]
          exact ⟨_, rfl, wr (by simpa [hc] using hun), f2⟩
        · rw [if_neg hc]
          exact ⟨P2, rfl, st (by rw [hb]; simpa [hc] using hun), e2.tr (g3.mono s47_C)⟩
  · obtain ⟨e1, e2⟩ := hi
    simp only [f_251_10, c_end (h.fr e2).c, ↓reduceIte]
    exact TT_some ⟨e1, e2⟩
/-- its table of the last d -/
def TM (W : WO) (d : Nat) (P : ab_P) : Prop := CO W W.L.2.1 P ∧ ∀ e, e ≤ d → ∀ h, h < 2 ^ W.pe → P.1 60 ((W.pe - e) * 256 + h) = iN (DD W e h)
theorem s60 : ∀ b j : Nat, (b = 59 ∨ b = 60) → scC b j := fun b j h => by unfold scC; omega
theorem c_with {d p q h : Nat} (g : CL 43 W.L P) (ok : OK W) (hM : TM W d P) (hp : p + (d + 1) = W.pe) (hq : q < 8) (hh : h < 2 ^ W.pe) {b : Nat} (hb : bO W p q = some b) : f_309 P (iN p) (iN q) (iN h) = some (iN (bz W p q + DD W d (h ||| 2 ^ q))) := by
  have h8 := ok.1.1
  have hp8 := p8_le h8
  have hqp := bO_pe ok hq hb
  have hor := or_lt8 hh hqp
  unfold f_309
  have e1 : iN p * (8 : Int32) + iN q = iN (p * 8 + q) := by rw [iN_lit 8, iN_mul, iN_add]
  have e2 : (iN p + (1 : Int32)) * (256 : Int32) + (iN h ||| ((1 : Int32) <<< (iN q &&& 31))) = iN ((p + 1) * 256 + (h ||| 2 ^ q)) := by
    rw [iN_one q (by omega), iN_or, iN_succ, iN_lit 256, iN_mul, iN_add]
  rw [e1, if_pos (iN_gi (by omega) (by omega)), iN_nat (by omega), hM.1 p (by omega) q hq]
  have hbl := (bO_p hb).1
  have hs := c_size g (o := bO W p q) (fun x hx => (bO_p hx).1)
  rw [show bOn W p q W.L.2.1 = bO W p q from rfl, hs, Option.bind_some, e2, if_pos (iN_gi (by omega) (by omega)), iN_nat (by omega), show p + 1 = W.pe - d by omega, hM.2 d (Nat.le_refl _) _ hor]
  rw [hb, show szO W.L (some b) = W.L.1 2 b from rfl, (ok.1.sz hbl).1, iN_add]
  unfold bz
  rw [hb]
theorem DD_s (d h : Nat) : DD W (d + 1) h = max (DD W d h) (mxN (fun q => if h.testBit q = false ∧ bO W (W.pe - (d + 1)) q ≠ none then bz W (W.pe - (d + 1)) q + DD W d (h ||| 2 ^ q) else 0) 8) := rfl
theorem c_from {d p h : Nat} (g : CL 43 W.L P) (ok : OK W) (hM : TM W d P) (hp : p + (d + 1) = W.pe) (hh : h < 2 ^ W.pe) (hN : 70000 ≤ N) : f_254 N P (iN p) (iN h) = some (iN (DD W (d + 1) h)) := by
  have h8 := ok.1.1
  have hp8 := p8_le h8
  unfold f_254
  have e2 : (iN p + (1 : Int32)) * (256 : Int32) + iN h = iN ((p + 1) * 256 + h) := by
    rw [iN_succ, iN_lit 256, iN_mul, iN_add]
  rw [e2, if_pos (iN_gi (by omega) (by omega)), iN_nat (by omega), show p + 1 = W.pe - d by omega, hM.2 d (Nat.le_refl _) _ hh]
  have hdd := DD_le ok d h
  have hpp : W.pe - (d + 1) = p := by omega
  rw [DD_s, hpp]
  have h0 : iN (DD W d h) = iN (max (DD W d h) (mxN (fun q => if h.testBit q = false ∧ bO W p q ≠ none then bz W p q + DD W d (h ||| 2 ^ q) else 0) 0)) := by
    rw [show mxN (fun q => if h.testBit q = false ∧ bO W p q ≠ none then bz W p q + DD W d (h ||| 2 ^ q) else 0) 0 = 0 from rfl, Nat.max_eq_left (by omega)]
  refine (congrArg (fun x => f_254_18 P N (iN p) (iN h) x 0) h0).trans ?_
  refine up (fun n j x => f_254_18 P n (iN p) (iN h) x (iN j)) 8 (fun j => iN (max (DD W d h) (mxN (fun q => if h.testBit q = false ∧ bO W p q ≠ none then bz W p q + DD W d (h ||| 2 ^ q) else 0) j))) _ (fun n j hj => ?_) (fun n => ?_) N (by omega)
  · have e1 : iN p * (8 : Int32) + iN j = iN (p * 8 + j) := by rw [iN_lit 8, iN_mul, iN_add]
    have hof : P.1 58 (p * 8 + j) = oN (bO W p j) := hM.1 p (by omega) j hj
    have hst : ∀ v, v = (if h.testBit j = false ∧ bO W p j ≠ none then bz W p j + DD W d (h ||| 2 ^ j) else 0) → mxN (fun q => if h.testBit q = false ∧ bO W p q ≠ none then bz W p q + DD W d (h ||| 2 ^ q) else 0) (j + 1) = max (mxN (fun q => if h.testBit q = false ∧ bO W p q ≠ none then bz W p q + DD W d (h ||| 2 ^ q) else 0) j) v := fun v hv => by rw [hv]; rfl
    simp only [f_254_18, iN_ltl (show j < 2147483648 by omega) (show 8 < 2147483648 by decide), hj, e1, iN_gT (show p * 8 + j < 64 by omega) (show 64 ≤ 2147483648 by decide), iN_nat (show p * 8 + j < 2147483648 by omega), hof, shr_tb0 (show h < 2147483648 by omega) (show j < 31 by omega), iN_succ, ↓reduceIte]
    rcases hb : bO W p j with _ | b
    · rw [if_pos (show oN none = -1 from rfl), hst 0 (by rw [hb]; simp), Nat.max_eq_left (a := mxN _ j) (by omega)]
    · have hbl := (bO_p hb).1
      have := g.m40
      rw [if_neg (show ¬ oN (some b) = -1 by rw [oN_some, iN_nm1 (by omega)]; exact id)]
      by_cases ht : h.testBit j = false
      · rw [if_pos ht, c_with g ok hM hp hj hh hb, Option.bind_some]
        have hw1 := bz_le ok p j
        have hw2 := DD_le ok d (h ||| 2 ^ j)
        have hmx : mxN (fun q => if h.testBit q = false ∧ bO W p q ≠ none then bz W p q + DD W d (h ||| 2 ^ q) else 0) j ≤ 9999 * 9 := by
          rcases mxN_at (f := fun q => if h.testBit q = false ∧ bO W p q ≠ none then bz W p q + DD W d (h ||| 2 ^ q) else 0) (n := j) with e | ⟨q, q1, q2⟩
          · omega
          · rw [q2]
            split
            · have := DD_le ok d (h ||| 2 ^ q)
              have := bz_le ok p q
              omega
            · omega
        rw [mx_iN (by omega) (by omega), hst (bz W p j + DD W d (h ||| 2 ^ j)) (by rw [if_pos ⟨ht, by rw [hb]; simp⟩]), Nat.max_assoc]
      · rw [if_neg ht, hst 0 (by rw [if_neg (fun e => ht e.1)]), Nat.max_eq_left (a := mxN _ j) (by omega)]
  · simp only [f_254_18, iN_ltl (show 8 < 2147483648 by omega) (show 8 < 2147483648 by decide), Nat.lt_irrefl, ↓reduceIte]
/-- who hears first -/
def cq (W : WO) (d h q : Nat) : Bool := !h.testBit q && (bO W (W.pe - (d + 1)) q).isSome && decide (bz W (W.pe - (d + 1)) q + DD W d (h ||| 2 ^ q) = DD W (d + 1) h)
def hr (W : WO) (d h : Nat) : Option Nat := if DD W d h = DD W (d + 1) h then none else some (fstN (cq W d h) 0 8)
theorem hr_p (ok : OK W) {d h q : Nat} (hq : hr W d h = some q) : q < 8 ∧ q < W.pe ∧ cq W d h q = true ∧ (∀ t, t < q → cq W d h t = false) ∧ DD W d h ≠ DD W (d + 1) h := by
  unfold hr at hq
  split at hq
  · cases hq
  · rename_i hne
    cases hq
    obtain ⟨i1, i2, i3, i4⟩ := fstN_p (q := cq W d h) (d := 8) (a := 0)
    have ex : ∃ q, q < 8 ∧ cq W d h q = true := by
      rcases mxN_at (f := fun q => if h.testBit q = false ∧ bO W (W.pe - (d + 1)) q ≠ none then bz W (W.pe - (d + 1)) q + DD W d (h ||| 2 ^ q) else 0) (n := 8) with e | ⟨q, q1, q2⟩
      · exfalso
        apply hne
        rw [DD_s, e]
        omega
      · refine ⟨q, q1, ?_⟩
        by_cases hc : h.testBit q = false ∧ bO W (W.pe - (d + 1)) q ≠ none
        · have hD := DD_s (W := W) d h
          rw [q2, if_pos hc] at hD
          unfold cq
          rw [hc.1, decide_eq_true (by omega)]
          rcases hb : bO W (W.pe - (d + 1)) q with _ | b
          · exact absurd hb hc.2
          · rfl
        · exfalso
          rw [if_neg hc] at q2
          apply hne
          rw [DD_s, q2]
          omega
    obtain ⟨q, q1, q2⟩ := ex
    have hlt : fstN (cq W d h) 0 8 < 8 := by
      by_cases hl : fstN (cq W d h) 0 8 < 8
      · exact hl
      · have := i3 q (by omega) (by omega)
        rw [q2] at this
        cases this
    have hcq := i4 (by omega)
    refine ⟨hlt, ?_, hcq, fun t ht => i3 t (by omega) ht, hne⟩
    unfold cq at hcq
    rw [Bool.and_eq_true, Bool.and_eq_true] at hcq
    obtain ⟨b, hb⟩ := Option.isSome_iff_exists.mp hcq.1.2
    exact bO_pe ok hlt hb
/-- who has heard before p speaks -/
def hd (W : WO) : Nat → Nat
  | 0 => 0
  | p + 1 => match hr W (W.pe - (p + 1)) (hd W p) with
    | none => hd W p
    | some q => hd W p ||| 2 ^ q
theorem hd_lt (ok : OK W) : ∀ p, hd W p < 2 ^ W.pe
  | 0 => Nat.two_pow_pos _
  | p + 1 => by
    unfold hd
    split
    · exact hd_lt ok p
    · rename_i q hq
      exact or_lt8 (hd_lt ok p) (hr_p ok hq).2.1
/-- what p apologises for -/
def sSaid (W : WO) (p : Nat) : Int32 := match hr W (W.pe - (p + 1)) (hd W p) with
  | none => -1
  | some q => oN (bO W p q)
theorem c_first {d p h : Nat} (g : CL 43 W.L P) (ok : OK W) (hM : TM W W.pe P) (hp : p + (d + 1) = W.pe) (hh : h < 2 ^ W.pe) (hN : 70000 ≤ N) : f_310 N P (iN p) (iN h) = some (oN (hr W d h)) := by
  have h8 := ok.1.1
  have hp8 := p8_le h8
  have hMd : TM W d P := ⟨hM.1, fun e he => hM.2 e (by omega)⟩
  unfold f_310
  have e1 : iN p * (256 : Int32) + iN h = iN (p * 256 + h) := by rw [iN_lit 256, iN_mul, iN_add]
  have e2 : (iN p + (1 : Int32)) * (256 : Int32) + iN h = iN ((p + 1) * 256 + h) := by
    rw [iN_succ, iN_lit 256, iN_mul, iN_add]
  have r1 : P.1 60 (p * 256 + h) = iN (DD W (d + 1) h) := by
    have := hM.2 (d + 1) (by omega) h hh
    rwa [show W.pe - (d + 1) = p by omega] at this
  have r2 : P.1 60 ((p + 1) * 256 + h) = iN (DD W d h) := by
    have := hM.2 d (by omega) h hh
    rwa [show W.pe - d = p + 1 by omega] at this
  have b1 := DD_le ok (d + 1) h
  have b2 := DD_le ok d h
  simp only [e1, e2, iN_gT (show p * 256 + h < 2304 by omega) (show 2304 ≤ 2147483648 by decide), iN_gT (show (p + 1) * 256 + h < 2304 by omega) (show 2304 ≤ 2147483648 by decide), iN_nat (show p * 256 + h < 2147483648 by omega), iN_nat (show (p + 1) * 256 + h < 2147483648 by omega), r1, r2, iN_eq (show DD W d h < 2147483648 by omega) (show DD W (d + 1) h < 2147483648 by omega), ↓reduceIte]
  by_cases hne : DD W d h = DD W (d + 1) h
  · rw [if_pos hne]
    unfold hr
    rw [if_pos hne]; rfl
  · rw [if_neg hne]
    have hsome : hr W d h = some (fstN (cq W d h) 0 8) := by unfold hr; rw [if_neg hne]
    obtain ⟨q1, q2, q3, q4, _⟩ := hr_p ok hsome
    rw [hsome, oN_some]
    generalize fstN (cq W d h) 0 8 = q at *
    have hpp : W.pe - (d + 1) = p := by omega
    -- one tried
    have one : ∀ n j, j < 8 → f_310_36 P (n + 1) (iN p) (iN h) (iN (DD W (d + 1) h)) (iN j) = if cq W d h j then some (iN j) else f_310_36 P n (iN p) (iN h) (iN (DD W (d + 1) h)) (iN (j + 1)) := fun n j hj => by
      have e1 : iN p * (8 : Int32) + iN j = iN (p * 8 + j) := by rw [iN_lit 8, iN_mul, iN_add]
      have hof : P.1 58 (p * 8 + j) = oN (bO W p j) := hM.1 p (by omega) j hj
      conv => lhs; unfold f_310_36
      simp only [iN_ltl (show j < 2147483648 by omega) (show 8 < 2147483648 by decide), hj, e1, iN_gT (show p * 8 + j < 64 by omega) (show 64 ≤ 2147483648 by decide), iN_nat (show p * 8 + j < 2147483648 by omega), hof, shr_tb0 (show h < 2147483648 by omega) (show j < 31 by omega), iN_succ, ↓reduceIte]
      unfold cq
      rw [hpp]
      rcases hb : bO W p j with _ | b
      · rw [if_pos (show oN none = -1 from rfl)]; simp
      · have hbl := (bO_p hb).1
        have := g.m40
        rw [if_neg (show ¬ oN (some b) = -1 by rw [oN_some, iN_nm1 (by omega)]; exact id)]
        by_cases ht : h.testBit j = false
        · have hw1 := bz_le ok p j
          have hw2 := DD_le ok d (h ||| 2 ^ j)
          rw [if_pos ht, c_with g ok hMd hp hj hh hb, Option.bind_some]
          by_cases hc : bz W p j + DD W d (h ||| 2 ^ j) = DD W (d + 1) h
          · rw [if_pos (by rw [hc])]; simp [ht, hc]
          · rw [if_neg (by rw [iN_eq (by omega) (by omega)]; exact hc)]; simp [hc]
        · have ht2 : h.testBit j = true := by simpa using ht
          rw [if_neg ht]; simp [ht2]
    refine up (fun n j (_ : Unit) => f_310_36 P n (iN p) (iN h) (iN (DD W (d + 1) h)) (iN j)) q (fun _ => ()) _ (fun n j hj => ?_) (fun n => ?_) N (by omega)
    · rw [one n j (by omega), q4 j hj]; rfl
    · rw [one n q q1, q3]; rfl
end DY
