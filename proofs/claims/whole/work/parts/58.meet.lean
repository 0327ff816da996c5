/-! one day, to its end; the reference -/
section MT
variable {W : WO} {P : ab_P} {N n0 k : Nat}
def MT (W : WO) (P : ab_P) : Prop := P.1 60 0 = iN (DD W W.pe 0) ∧ ∀ p, p < W.pe → P.1 59 p = sSaid W p
theorem s60' (i : Nat) : scC 60 i := s60 60 i (Or.inr rfl)
theorem s59' (i : Nat) : scC 59 i := s60 59 i (Or.inl rfl)
theorem c_fill60 {a b : Nat} (ha : a ≤ b) (hb : b ≤ 2304) (hN : 70000 ≤ N) : TT (f_253_2304 60 N (iN a) (iN b) 0 P) (fun q => (∀ s, a ≤ s → s < b → q.1 60 s = 0) ∧ fr (fun b _ => b = 60) P q) := by
  unfold f_253_2304 f_308
  rw [if_neg (by rw [iN_lt (by omega) (by omega)]; omega), if_neg (by rw [iN_neg (by omega)]; exact id), if_neg (by rw [iN_lll (by omega) (by decide)]; exact (by omega : ¬ 2304 < b)), Option.bind_some]
  refine upT (fun n k (s : ab_P) => f_253_2304_10 60 n (iN b) 0 (iN (a + k)) s) (b - a) (fun k q => (∀ s, a ≤ s → s < a + k → q.1 60 s = 0) ∧ fr (fun b _ => b = 60) P q) _ (fun n k P1 hk hi => ?_) (fun n P1 hi => ?_) N P ⟨fun s h1 h2 => absurd h1 (by omega), fr.rf⟩ (by omega)
  · obtain ⟨e1, e2⟩ := hi
    show ∃ s', f_253_2304_10 60 (n + 1) (iN b) 0 (iN (a + k)) P1 = _ ∧ _
    simp only [f_253_2304_10, iN_lt (show a + k < 2147483648 by omega) (show b < 2147483648 by omega), show a + k < b by omega, iN_gT (show a + k < 2304 by omega) (show 2304 ≤ 2147483648 by decide), iN_nat (show a + k < 2147483648 by omega), iN_succ, ab_lt, ↓reduceIte]
    refine ⟨_, rfl, fun s h1 h2 => ?_, e2.tr (fr.I rfl)⟩
    rw [pI_at]
    split
    · rfl
    · exact e1 s h1 (by omega)
  · obtain ⟨e1, e2⟩ := hi
    have : a + (b - a) = b := by omega
    simp only [this, f_253_2304_10, iN_lt (show b < 2147483648 by omega) (show b < 2147483648 by omega), Nat.lt_irrefl, ↓reduceIte]
    rw [this] at e1
    exact TT_some ⟨e1, e2⟩
theorem c_way (h : CW W P) (ok : OK W) (hM : TM W W.pe P) (hN : 70000 ≤ N) : TT (f_255 N (iN W.pe) P) (fun q => MT W q ∧ fr scC P q) := by
  have h8 := ok.1.1
  have hp8 := p8_le h8
  unfold f_255
  have fill : TT (f_306_8 59 N (-1) P) (fun q => (∀ s, s < 8 → q.1 59 s = -1) ∧ fr (fun b _ => b = 59) P q) := by
    unfold f_306_8
    refine upT (fun n k (s : ab_P) => f_306_8_5 59 n (-1) (iN k) 8 s) 8 (fun k q => (∀ s, s < k → q.1 59 s = -1) ∧ fr (fun b _ => b = 59) P q) _ (fun n k P1 hk hi => ?_) (fun n P1 hi => ?_) N P ⟨fun s hs => absurd hs (Nat.not_lt_zero _), fr.rf⟩ (by omega)
    · obtain ⟨e1, e2⟩ := hi
      show ∃ s', f_306_8_5 59 (n + 1) (-1) (iN k) 8 P1 = _ ∧ _
      simp only [f_306_8_5, iN_ltl (show k < 2147483648 by omega) (show 8 < 2147483648 by decide), hk, iN_gT hk (show 8 ≤ 2147483648 by decide), iN_nat (show k < 2147483648 by omega), iN_succ, ab_lt, ↓reduceIte]
      refine ⟨_, rfl, fun s hs => ?_, e2.tr (fr.I rfl)⟩
      rw [pI_at]
      split
      · rfl
      · exact e1 s (by omega)
    · obtain ⟨e1, e2⟩ := hi
      simp only [f_306_8_5, iN_ltl (show 8 < 2147483648 by omega) (show 8 < 2147483648 by decide), Nat.lt_irrefl, ↓reduceIte]
      exact TT_some ⟨e1, e2⟩
  have s59 : ∀ b j : Nat, b = 59 → scC b j := fun b j h => s60 b j (Or.inl h)
  have tm : ∀ q : ab_P, fr (fun b _ => b = 59) P q → TM W W.pe q := fun q hq => by
    refine ⟨fun a ha b hb => ?_, fun e he x hx => ?_⟩
    · rw [hq.1 58 _ (show ¬ 58 = 59 by decide)]; exact hM.1 a ha b hb
    · rw [hq.1 60 _ (show ¬ 60 = 59 by decide)]; exact hM.2 e he x hx
  refine TT_bind fill (fun P0 h0 => ?_)
  refine upT (fun n p (s : ab_P) => f_255_12 N n (iN W.pe) (iN (hd W p)) (iN p) s) W.pe (fun p q => (∀ i, i < p → q.1 59 i = sSaid W i) ∧ (∀ i, p ≤ i → i < 8 → q.1 59 i = -1) ∧ fr (fun b _ => b = 59) P q) _ (fun n p P1 hp hi => ?_) (fun n P1 hi => ?_) N P0 ⟨fun i hi => absurd hi (Nat.not_lt_zero _), fun i _ hi => h0.1 i hi, h0.2⟩ (by omega)
  · obtain ⟨e1, e2, e3⟩ := hi
    have g := h.fr (e3.mono s59)
    have hM1 := tm P1 e3
    have hh := hd_lt ok p
    have hf := c_first (d := W.pe - (p + 1)) (N := N) g.c ok hM1 (show p + (W.pe - (p + 1) + 1) = W.pe by omega) hh hN
    show ∃ s', f_255_12 N (n + 1) (iN W.pe) (iN (hd W p)) (iN p) P1 = f_255_12 N n (iN W.pe) (iN (hd W (p + 1))) (iN (p + 1)) s' ∧ _
    simp only [f_255_12, iN_lt (show p < 2147483648 by omega) (show W.pe < 2147483648 by omega), hp, hf, Option.bind_some, iN_succ, ↓reduceIte]
    cases hq : hr W (W.pe - (p + 1)) (hd W p) with
    | none =>
      rw [if_pos (show oN none = -1 from rfl)]
      have hd1 : hd W (p + 1) = hd W p := by unfold hd; rw [hq]; cases p <;> rfl
      rw [hd1]
      refine ⟨P1, rfl, fun i hi => ?_, fun i h1 h2 => e2 i (by omega) h2, e3⟩
      by_cases hip : i = p
      · rw [hip, e2 p (Nat.le_refl _) (by omega)]
        unfold sSaid
        rw [hq]
      · exact e1 i (by omega)
    | some q =>
      obtain ⟨q1, q2, q3, q4, q5⟩ := hr_p ok hq
      have hd1 : hd W (p + 1) = hd W p ||| 2 ^ q := by
        show (match hr W (W.pe - (p + 1)) (hd W p) with | none => hd W p | some q => hd W p ||| 2 ^ q) = _
        rw [hq]
      have e1' : iN p * (8 : Int32) + iN q = iN (p * 8 + q) := by rw [iN_lit 8, iN_mul, iN_add]
      rw [oN_some, if_neg (by rw [iN_nm1 (by omega)]; exact id)]
      simp only [e1', iN_gT (show p * 8 + q < 64 by omega) (show 64 ≤ 2147483648 by decide), iN_gT (show p < 8 by omega) (show 8 ≤ 2147483648 by decide), iN_nat (show p * 8 + q < 2147483648 by omega), iN_nat (show p < 2147483648 by omega), hM1.1 p (by omega) q q1, iN_one q (by omega), iN_or, ab_lt, ↓reduceIte]
      rw [hd1]
      refine ⟨_, rfl, fun i hi => ?_, fun i h1 h2 => ?_, e3.tr (fr.I rfl)⟩
      · rw [pI_at]
        by_cases hip : i = p
        · rw [if_pos ⟨rfl, hip⟩, hip]
          unfold sSaid
          rw [hq]; rfl
        · rw [if_neg (fun e => hip e.2)]; exact e1 i (by omega)
      · rw [pI_nj (by omega)]; exact e2 i (by omega) h2
  · obtain ⟨e1, e2, e3⟩ := hi
    simp only [f_255_12, iN_lt (show W.pe < 2147483648 by omega) (show W.pe < 2147483648 by omega), Nat.lt_irrefl, ↓reduceIte]
    refine TT_some ⟨⟨?_, e1⟩, e3.mono s59⟩
    rw [e3.1 60 0 (show ¬ 60 = 59 by decide)]
    have := hM.2 W.pe (Nat.le_refl _) 0 (Nat.two_pow_pos _)
    rwa [Nat.sub_self] at this
theorem c_meet (h : CW W P) (ok : OK W) (hN : 70000 ≤ N) : TT (f_161 N P) (fun q => MT W q ∧ fr scC P q) := by
  have h8 := ok.1.1
  have hp8 := p8_le h8
  unfold f_161
  refine TT_bind (c_offers h ok hN) (fun P1 h1 => ?_)
  have g1 := h.fr h1.2
  have hmn : ab_mn (P1.1 3 5) (8 : Int32) = iN W.pe := by
    rw [g1.pe, iN_lit 8, mn_iN (by omega) (by decide), Nat.min_eq_left h8]
  rw [hmn, iN_succ, iN_lit 256, iN_mul, iN_mul]
  refine TT_bind (c_fill60 (by omega) (by omega) hN) (fun P2 h2 => ?_)
  have s60'' : ∀ b j : Nat, b = 60 → scC b j := fun b j h => s60 b j (Or.inr h)
  have hM0 : TM W 0 P2 := by
    refine ⟨fun p hp q hq => by rw [h2.2.1 58 _ (show ¬ 58 = 60 by decide)]; exact h1.1 p hp q hq, fun e he x hx => ?_⟩
    have : e = 0 := by omega
    subst this
    rw [Nat.sub_zero, h2.1 _ (by omega) (by omega)]; rfl
  have key : ∀ c d n P3, d + c = W.pe → c < n → TM W d P3 → fr scC P P3 → TT (f_161_41 N n (iN W.pe) (iN (W.pe - d) - 1) P3) (fun q => MT W q ∧ fr scC P q) := by
    intro c
    induction c with
    | zero =>
      intro d n P3 hd hn hM hf
      obtain ⟨n, rfl⟩ : ∃ z, n = z + 1 := ⟨n - 1, by omega⟩
      have : d = W.pe := by omega
      subst this
      unfold f_161_41
      rw [Nat.sub_self, if_pos (by decide)]
      obtain ⟨P4, k1, k2, k3⟩ := c_way (h.fr hf) ok hM hN
      rw [k1]
      exact TT_some ⟨k2, hf.tr k3⟩
    | succ c ih =>
      intro d n P3 hd hn hM hf
      obtain ⟨n, rfl⟩ : ∃ z, n = z + 1 := ⟨n - 1, by omega⟩
      have hx : iN (W.pe - d) - 1 = iN (W.pe - (d + 1)) := by
        rw [iN_lit 1, iN_sub (by omega), Nat.sub_sub]
      unfold f_161_41
      rw [hx, if_neg (by rw [iN_neg (by omega)]; exact id)]
      refine upT (fun m x (q : ab_P) => f_161_47 N (fun y0 y1 y2 => f_161_41 N n y0 y1 y2) m (iN W.pe) (iN (W.pe - (d + 1))) (iN x) q) (2 ^ W.pe) (fun x q => TM W d q ∧ (∀ y, y < x → q.1 60 ((W.pe - (d + 1)) * 256 + y) = iN (DD W (d + 1) y)) ∧ fr scC P q) _ (fun m x P4 hx hi => ?_) (fun m P4 hi => ?_) N P3 ⟨hM, fun y hy => absurd hy (Nat.not_lt_zero _), hf⟩ (by omega)
      · obtain ⟨e1, e2, e3⟩ := hi
        have g := h.fr e3
        have e1' : iN (W.pe - (d + 1)) * (256 : Int32) + iN x = iN ((W.pe - (d + 1)) * 256 + x) := by rw [iN_lit 256, iN_mul, iN_add]
        show ∃ s', f_161_47 N _ (m + 1) (iN W.pe) (iN (W.pe - (d + 1))) (iN x) P4 = _ ∧ _
        simp only [f_161_47, iN_one W.pe (by omega), iN_lt (show x < 2147483648 by omega) (show 2 ^ W.pe < 2147483648 by omega), hx, c_from g.c ok e1 (show W.pe - (d + 1) + (d + 1) = W.pe by omega) hx hN, Option.bind_some, e1', iN_gT (show (W.pe - (d + 1)) * 256 + x < 2304 by omega) (show 2304 ≤ 2147483648 by decide), iN_nat (show (W.pe - (d + 1)) * 256 + x < 2147483648 by omega), iN_succ, ab_lt, ↓reduceIte]
        refine ⟨_, rfl, ⟨fun p hp q hq => by rw [pI_ne (by decide)]; exact e1.1 p hp q hq, fun e he y hy => ?_⟩, fun y hy => ?_, e3.tr (fr.I (s60' _))⟩
        · rw [pI_nj (by omega)]; exact e1.2 e he y hy
        · rw [pI_at]
          by_cases hyx : y = x
          · rw [if_pos ⟨rfl, by rw [hyx]⟩, hyx]
          · rw [if_neg (by omega)]; exact e2 y (by omega)
      · obtain ⟨e1, e2, e3⟩ := hi
        have hm1 : iN (W.pe - (d + 1)) + (-1) = iN (W.pe - (d + 1)) - 1 := i_m1 _
        simp only [f_161_47, iN_one W.pe (by omega), iN_lt (show 2 ^ W.pe < 2147483648 by omega) (show 2 ^ W.pe < 2147483648 by omega), Nat.lt_irrefl, hm1, ↓reduceIte]
        refine ih (d + 1) n P4 (by omega) (by omega) ⟨e1.1, fun e he y hy => ?_⟩ e3
        by_cases hed : e = d + 1
        · rw [hed]; exact e2 y hy
        · exact e1.2 e (by omega) y hy
  have := key W.pe 0 N P2 (by omega) (by omega) hM0 (h1.2.tr (h2.2.mono s60''))
  rwa [Nat.sub_zero] at this
/-! the reference -/
theorem r_best1 (h : RW W P) (ok : OK W) (p q : Nat) (hN : 70000 ≤ N) : TT (f_256 N (iN p) (iN q) P) (fun x => x.1 = oN (bO W p q) ∧ fr s75 P x.2) := by
  have h40 := h.r.m40
  unfold f_256
  refine upT (fun n k (s : Int32 × ab_P) => f_256_5 N n (iN p) (iN q) s.1 (iN k) s.2) W.L.2.1 (fun k s => s.1 = oN (bOn W p q k) ∧ fr s75 P s.2) _ (fun n k s hk hi => ?_) (fun n s hi => ?_) N (-1, P) ⟨rfl, fr.rf⟩ (by omega)
  · obtain ⟨x, P1⟩ := s
    obtain ⟨e1, e2⟩ := hi
    dsimp only at e1 e2
    have g := h.fr ok (e2.mono s75_R)
    have hun : bOn W p q (k + 1) = match bOn W p q k with
        | none => if bOk W p q k then some k else none
        | some c => if bOk W p q k && decide (W.L.1 2 c < W.L.1 2 k) then some k else some c := rfl
    have no : bOk W p q k = false → x = oN (bOn W p q (k + 1)) := fun hc => by
      rw [e1]
      unfold bOn
      rw [fb_no hc]
    show ∃ s', f_256_5 N (n + 1) (iN p) (iN q) x (iN k) P1 = _ ∧ _
    simp only [f_256_5, r_more g.r hk, r_stand g.r (show k < 2147483648 by omega), r_of0 g.r hk, r_of1 g.r hk, bI_0, Option.bind_some, iN_succ, ↓reduceIte]
    by_cases hs : stL W.L k = false
    · rw [if_pos hs]
      exact ⟨(x, P1), rfl, no (by unfold bOk opn; rw [hs]; rfl), e2⟩
    · rw [if_neg hs]
      by_cases hp : W.L.1 0 k = iN p
      · rw [if_pos hp]
        by_cases hq : W.L.1 1 k = iN q
        · rw [if_pos hq]
          obtain ⟨⟨v, P2⟩, g1, g2, g3⟩ := r_openG g ok (show k < 2147483648 by omega) hN
          dsimp only at g2 g3
          have gg := g.fr ok (g3.mono s75_R)
          simp only [g1, ab_b2, Option.bind_some, g2, bI_0]
          cases ho : opn W k with
          | false =>
            rw [if_pos rfl]
            exact ⟨(x, P2), rfl, no (by unfold bOk; rw [ho]; rfl), e2.tr g3⟩
          | true =>
            have okk : bOk W p q k = true := by unfold bOk; simp [ho, hp, hq]
            rw [okk] at hun
            rw [if_neg (by decide)]
            cases hb : bOn W p q k with
            | none =>
              rw [hb] at hun e1
              rw [if_pos (by rw [e1]; rfl)]
              exact ⟨(iN k, P2), rfl, by rw [hun]; rfl, e2.tr g3⟩
            | some c =>
              have hc1 := bOn_lt hb
              have hcl : c < W.L.2.1 := by omega
              rw [hb] at hun e1
              dsimp only at hun
              rw [oN_some] at e1
              rw [e1, if_neg (by rw [iN_nm1 (by omega)]; exact id), r_of2 gg.r hk, r_of2 gg.r hcl, Option.bind_some, Option.bind_some]
              by_cases hc : W.L.1 2 c < W.L.1 2 k
              · rw [if_pos hc]
                exact ⟨(iN k, P2), rfl, by rw [hun]; simp [hc, oN], e2.tr g3⟩
              · rw [if_neg hc]
                exact ⟨(iN c, P2), rfl, by rw [hun]; simp [hc, oN], e2.tr g3⟩
        · rw [if_neg hq]
          exact ⟨(x, P1), rfl, no (by unfold bOk; simp [hq]), e2⟩
      · rw [if_neg hp]
        exact ⟨(x, P1), rfl, no (by unfold bOk; simp [hp]), e2⟩
  · obtain ⟨x, P1⟩ := s
    obtain ⟨e1, e2⟩ := hi
    dsimp only at e1 e2
    simp only [f_256_5, r_end (h.fr ok (e2.mono s75_R)).r, ↓reduceIte]
    exact TT_some ⟨e1, e2⟩
def RO (W : WO) (P : ab_P) : Prop := ∀ p, p < W.pe → ∀ q, q < W.pe → P.1 (559 + 1 + p) q = oN (bO W p q)
def RM (W : WO) (d : Nat) (P : ab_P) : Prop := RO W P ∧ ∀ e, e < d → ∀ h, h < 2 ^ W.pe → P.1 (549 + 1 + (W.pe - e)) h = iN (DD W e h)
def dyF (W : WO) (d h q : Nat) : Nat := if h.testBit q = false ∧ bO W (W.pe - (d + 1)) q ≠ none then bz W (W.pe - (d + 1)) q + DD W d (h ||| 2 ^ q) else 0
theorem DD_pe (ok : OK W) (d h : Nat) : DD W (d + 1) h = max (DD W d h) (mxN (dyF W d h) W.pe) := by
  have h8 := ok.1.1
  have e : ∀ c, W.pe + c ≤ 8 → mxN (dyF W d h) (W.pe + c) = mxN (dyF W d h) W.pe := by
    intro c
    induction c with
    | zero => exact fun _ => rfl
    | succ c ih =>
      intro hc
      show max (mxN (dyF W d h) (W.pe + c)) (dyF W d h (W.pe + c)) = _
      rw [ih (by omega)]
      have : dyF W d h (W.pe + c) = 0 := by
        unfold dyF
        rw [if_neg]
        intro hh
        rcases hb : bO W (W.pe - (d + 1)) (W.pe + c) with _ | b
        · exact hh.2 hb
        · have := bO_pe ok (by omega) hb
          omega
      rw [this]
      omega
  have := e (8 - W.pe) (by omega)
  rw [show W.pe + (8 - W.pe) = 8 by omega] at this
  rw [← this]
  rfl
theorem dyF_le (ok : OK W) (d h j : Nat) : mxN (dyF W d h) j ≤ 9999 * (d + 1) := by
  rcases mxN_at (f := dyF W d h) (n := j) with e | ⟨q, q1, q2⟩
  · omega
  · rw [q2]
    unfold dyF
    split
    · have := DD_le ok d (h ||| 2 ^ q)
      have := bz_le ok (W.pe - (d + 1)) q
      omega
    · omega
theorem s5r {b j : Nat} (h : 549 ≤ b ∧ b ≤ 567) : scR b j := by unfold scR; omega
/-- one day and set -/
theorem r_day1 {Q : ab_P → Prop} {H : Int32 → Int32 → ab_P → Option ab_P} {d x : Nat} (h : RW W P) (ok : OK W) (hd : d < W.pe) (hx : x < 2 ^ W.pe) (hM : RM W (d + 1) P) (h0 : P.1 (549 + 1 + (W.pe - (d + 1))) x = iN (DD W d x)) (hN : 70000 ≤ N) (hfin : ∀ P', P'.1 (549 + 1 + (W.pe - (d + 1))) x = iN (DD W (d + 1) x) → (∀ b j, ¬ (b = 549 + 1 + (W.pe - (d + 1)) ∧ j = x) → P'.1 b j = P.1 b j) → fr scR P P' → TT (H (iN (W.pe - (d + 1))) (iN (x + 1)) P') Q) : TT (f_163_109 H N (iN (W.pe - (d + 1))) (iN x) 0 P) Q := by
  have h8 := ok.1.1
  have hp8 := p8_le h8
  have h40 := h.r.m40
  refine upT (fun n q (s : ab_P) => f_163_109 H n (iN (W.pe - (d + 1))) (iN x) (iN q) s) W.pe (fun q s => s.1 (549 + 1 + (W.pe - (d + 1))) x = iN (max (DD W d x) (mxN (dyF W d x) q)) ∧ (∀ b j, ¬ (b = 549 + 1 + (W.pe - (d + 1)) ∧ j = x) → s.1 b j = P.1 b j) ∧ fr scR P s) _ (fun n q P1 hq hi => ?_) (fun n P1 hi => ?_) N P ⟨by rw [h0, show mxN (dyF W d x) 0 = 0 from rfl, Nat.max_eq_left (by omega)], fun _ _ _ => rfl, fr.rf⟩ (by omega)
  · obtain ⟨e1, e2, e3⟩ := hi
    have g := h.fr ok e3
    have hof : P1.1 (559 + 1 + (W.pe - (d + 1))) q = oN (bO W (W.pe - (d + 1)) q) := by
      rw [e2 _ _ (by omega)]
      exact hM.1 _ (by omega) q hq
    have hst : ∀ v, v = dyF W d x q → mxN (dyF W d x) (q + 1) = max (mxN (dyF W d x) q) v := fun v hv => by rw [hv]; rfl
    show ∃ s', f_163_109 H (n + 1) (iN (W.pe - (d + 1))) (iN x) (iN q) P1 = _ ∧ _
    simp only [f_163_109, g.pe, iN_lt (show q < 2147483648 by omega) (show W.pe < 2147483648 by omega), hq, iN_lt (show W.pe - (d + 1) < 2147483648 by omega) (show W.pe < 2147483648 by omega), show W.pe - (d + 1) < W.pe by omega, shr_tb0 (show x < 2147483648 by omega) (show q < 31 by omega), iN_gT (show W.pe - (d + 1) < 8 by omega) (show 8 ≤ 2147483648 by decide), iN_gT (show W.pe - (d + 1) < 9 by omega) (show 9 ≤ 2147483648 by decide), iN_gT (show q < 8 by omega) (show 8 ≤ 2147483648 by decide), iN_gT (show x < 256 by omega) (show 256 ≤ 2147483648 by decide), iN_nat (show W.pe - (d + 1) < 2147483648 by omega), iN_nat (show q < 2147483648 by omega), iN_nat (show x < 2147483648 by omega), hof, iN_succ, ↓reduceIte]
    by_cases ht : x.testBit q = false
    · rw [if_pos ht]
      rcases hb : bO W (W.pe - (d + 1)) q with _ | b
      · rw [if_pos (show oN none = -1 from rfl)]
        refine ⟨P1, rfl, ?_, e2, e3⟩
        rw [e1, hst 0 (by unfold dyF; rw [hb]; simp), Nat.max_eq_left (a := mxN _ q) (by omega)]
      · have hbl := (bO_p hb).1
        have hor := or_lt8 hx hq
        have hdd : P1.1 (549 + 1 + (W.pe - (d + 1) + 1)) (x ||| 2 ^ q) = iN (DD W d (x ||| 2 ^ q)) := by
          rw [e2 _ _ (by omega)]
          have := hM.2 d (by omega) _ hor
          rwa [show W.pe - d = W.pe - (d + 1) + 1 by omega] at this
        have b1 := DD_le ok d x
        have b2 := dyF_le ok d x q
        have b3 := DD_le ok d (x ||| 2 ^ q)
        have b4 := (ok.1.sz hbl).2.2
        have hdv : szP W.L b + DD W d (x ||| 2 ^ q) = dyF W d x q := by
          unfold dyF
          rw [if_pos ⟨ht, by rw [hb]; simp⟩]
          unfold bz
          rw [hb]
        rw [if_neg (show ¬ oN (some b) = -1 by rw [oN_some, iN_nm1 (by omega)]; exact id), oN_some]
        simp only [r_of2 g.r hbl, (ok.1.sz hbl).1, Option.bind_some, iN_one q (by omega), iN_or, iN_gT (show W.pe - (d + 1) + 1 < 9 by omega) (show 9 ≤ 2147483648 by decide), iN_gT (show x ||| 2 ^ q < 256 by omega) (show 256 ≤ 2147483648 by decide), iN_nat (show W.pe - (d + 1) + 1 < 2147483648 by omega), iN_nat (show x ||| 2 ^ q < 2147483648 by omega), hdd, e1, r_mor, iN_add, mx_iN (show max (DD W d x) (mxN (dyF W d x) q) < 2147483648 by omega) (show szP W.L b + DD W d (x ||| 2 ^ q) < 2147483648 by omega), ab_lt, ↓reduceIte]
        refine ⟨_, rfl, ?_, fun b' j' hb' => ?_, e3.tr (fr.I (s5r (by omega)))⟩
        · rw [pI_eq, hst _ hdv, Nat.max_assoc]
        · rw [pI_at, if_neg hb']; exact e2 b' j' hb'
    · rw [if_neg ht]
      refine ⟨P1, rfl, ?_, e2, e3⟩
      rw [e1, hst 0 (by unfold dyF; rw [if_neg (fun e => ht e.1)]), Nat.max_eq_left (a := mxN _ q) (by omega)]
  · obtain ⟨e1, e2, e3⟩ := hi
    have g := h.fr ok e3
    simp only [f_163_109, g.pe, iN_lt (show W.pe < 2147483648 by omega) (show W.pe < 2147483648 by omega), Nat.lt_irrefl, iN_succ, ↓reduceIte]
    exact hfin P1 (by rw [e1, DD_pe ok]) e2 e3
theorem r_day {Q : ab_P → Prop} {H : Int32 → ab_P → Option ab_P} {d : Nat} (h : RW W P) (ok : OK W) (hd : d ≤ W.pe) (hM : RM W d P) (hN : 70000 ≤ N) (hfin : ∀ P', RM W (d + 1) P' → fr scR P P' → TT (H (iN (W.pe - d) - 1) P') Q) : TT (f_163_63 N H N (iN (W.pe - d)) 0 P) Q := by
  have h8 := ok.1.1
  have hp8 := p8_le h8
  have key : ∀ c x n P1, x + c = 2 ^ W.pe → c < n → RM W d P1 → (∀ y, y < x → P1.1 (549 + 1 + (W.pe - d)) y = iN (DD W d y)) → fr scR P P1 → TT (f_163_63 N H n (iN (W.pe - d)) (iN x) P1) Q := by
    intro c
    induction c with
    | zero =>
      intro x n P1 hx hn hM hy hf
      obtain ⟨n, rfl⟩ : ∃ z, n = z + 1 := ⟨n - 1, by omega⟩
      have : x = 2 ^ W.pe := by omega
      subst this
      simp only [f_163_63, (h.fr ok hf).pe, iN_one W.pe (by omega), iN_lt (show 2 ^ W.pe < 2147483648 by omega) (show 2 ^ W.pe < 2147483648 by omega), Nat.lt_irrefl, i_m1, ↓reduceIte]
      refine hfin P1 ⟨hM.1, fun e he y hyy => ?_⟩ hf
      by_cases hed : e = d
      · rw [hed]; exact hy y hyy
      · exact hM.2 e (by omega) y hyy
    | succ c ih =>
      intro x n P1 hx hn hM hy hf
      obtain ⟨n, rfl⟩ : ∃ z, n = z + 1 := ⟨n - 1, by omega⟩
      have hlt : x < 2 ^ W.pe := by omega
      have g := h.fr ok hf
      simp only [f_163_63, g.pe, iN_one W.pe (by omega), iN_lt (show x < 2147483648 by omega) (show 2 ^ W.pe < 2147483648 by omega), hlt, iN_gT (show W.pe - d < 9 by omega) (show 9 ≤ 2147483648 by decide), iN_gT (show x < 256 by omega) (show 256 ≤ 2147483648 by decide), iN_nat (show x < 2147483648 by omega), iN_nat (show W.pe - d < 2147483648 by omega), iN_eq (show W.pe - d < 2147483648 by omega) (show W.pe < 2147483648 by omega), ab_lt, ↓reduceIte]
      -- what a write to this row leaves
      have wr : ∀ v, RM W d (ab_pI P1 (549 + 1 + (W.pe - d)) x v) ∧ (∀ y, y < x → (ab_pI P1 (549 + 1 + (W.pe - d)) x v).1 (549 + 1 + (W.pe - d)) y = iN (DD W d y)) ∧ fr scR P (ab_pI P1 (549 + 1 + (W.pe - d)) x v) := fun v => by
        refine ⟨⟨fun p hp q hq => by rw [pI_ne (by omega)]; exact hM.1 p hp q hq, fun e he y hyy => by rw [pI_ne (by omega)]; exact hM.2 e he y hyy⟩, fun y hyx => by rw [pI_nj (by omega)]; exact hy y hyx, hf.tr (fr.I (s5r (by omega)))⟩
      by_cases hd0 : d = 0
      · subst hd0
        rw [if_pos (by omega)]
        obtain ⟨w1, w2, w3⟩ := wr 0
        -- the innermost loop does nothing
        have e : ∀ H2, f_163_109 H2 N (iN (W.pe - 0)) (iN x) 0 (ab_pI P1 (549 + 1 + (W.pe - 0)) x 0) = H2 (iN (W.pe - 0)) (iN (x + 1)) (ab_pI P1 (549 + 1 + (W.pe - 0)) x 0) := fun H2 => by
          obtain ⟨m, hm⟩ : ∃ m, N = m + 1 := ⟨N - 1, by omega⟩
          rw [hm]
          unfold f_163_109
          rw [(h.fr ok w3).pe, iN_succ]
          by_cases hpe : 0 < W.pe
          · rw [if_pos (by rw [show (0 : Int32) = iN 0 from rfl, iN_lt (by omega) (by omega)]; exact hpe), if_neg (by rw [iN_lt (by omega) (by omega)]; omega), iN_succ]
          · rw [if_neg (by rw [show (0 : Int32) = iN 0 from rfl, iN_lt (by omega) (by omega)]; exact hpe), iN_succ]
        rw [e]
        refine ih (x + 1) n _ (by omega) (by omega) w1 (fun y hyx => ?_) w3
        by_cases hyx' : y = x
        · rw [hyx', pI_eq]; rfl
        · exact w2 y (by omega)
      · rw [if_neg (by omega)]
        obtain ⟨d, rfl⟩ : ∃ z, d = z + 1 := ⟨d - 1, by omega⟩
        simp only [iN_succ, iN_gT (show W.pe - (d + 1) + 1 < 9 by omega) (show 9 ≤ 2147483648 by decide), iN_nat (show W.pe - (d + 1) + 1 < 2147483648 by omega), ↓reduceIte]
        obtain ⟨w1, w2, w3⟩ := wr (P1.1 (549 + 1 + (W.pe - (d + 1) + 1)) x)
        refine r_day1 (h.fr ok w3) ok (by omega) hlt w1 (by
          rw [pI_eq]
          have := hM.2 d (by omega) x hlt
          rwa [show W.pe - d = W.pe - (d + 1) + 1 by omega] at this) hN (fun P' k1 k2 k3 => ?_)
        refine ih (x + 1) n P' (by omega) (by omega) ⟨fun p hp q hq => ?_, fun e he y hyy => ?_⟩ (fun y hyx => ?_) (w3.tr k3)
        · rw [k2 _ _ (by omega)]; exact w1.1 p hp q hq
        · rw [k2 _ _ (by omega)]; exact w1.2 e he y hyy
        · by_cases hyx' : y = x
          · rw [hyx']; exact k1
          · rw [k2 _ _ (by omega)]; exact w2 y (by omega)
  exact key (2 ^ W.pe) 0 N P (by omega) (by omega) hM (fun y hy => absurd hy (Nat.not_lt_zero _)) fr.rf
theorem r_bestrow {Q : ab_P → Prop} {H : Int32 → ab_P → Option ab_P} {p : Nat} (h : RW W P) (ok : OK W) (hp : p < W.pe) (hO : ∀ a, a < p → ∀ q, q < W.pe → P.1 (559 + 1 + a) q = oN (bO W a q)) (hN : 70000 ≤ N) (hfin : ∀ P', (∀ a, a < p + 1 → ∀ q, q < W.pe → P'.1 (559 + 1 + a) q = oN (bO W a q)) → fr scR P P' → TT (H (iN (p + 1)) P') Q) : TT (f_163_14 N H N (iN p) 0 P) Q := by
  have h8 := ok.1.1
  refine upT (fun n q (s : ab_P) => f_163_14 N H n (iN p) (iN q) s) W.pe (fun q s => (∀ a, a < p → ∀ q, q < W.pe → s.1 (559 + 1 + a) q = oN (bO W a q)) ∧ (∀ b, b < q → s.1 (559 + 1 + p) b = oN (bO W p b)) ∧ fr scR P s) _ (fun n q P1 hq hi => ?_) (fun n P1 hi => ?_) N P ⟨hO, fun b hb => absurd hb (Nat.not_lt_zero _), fr.rf⟩ (by omega)
  · obtain ⟨e1, e2, e3⟩ := hi
    have g := h.fr ok e3
    obtain ⟨⟨v, P2⟩, g1, g2, g3⟩ := r_best1 g ok p q hN
    dsimp only at g2 g3
    show ∃ s', f_163_14 N H (n + 1) (iN p) (iN q) P1 = _ ∧ _
    simp only [f_163_14, g.pe, iN_lt (show q < 2147483648 by omega) (show W.pe < 2147483648 by omega), hq, iN_gT (show p < 8 by omega) (show 8 ≤ 2147483648 by decide), iN_gT (show q < 8 by omega) (show 8 ≤ 2147483648 by decide), g1, ab_b2, Option.bind_some, g2, iN_nat (show p < 2147483648 by omega), iN_nat (show q < 2147483648 by omega), iN_succ, ab_lt, ↓reduceIte]
    refine ⟨_, rfl, fun a ha b hb => ?_, fun b hb => ?_, (e3.tr (g3.mono s75_R)).tr (fr.I (s5r (by omega)))⟩
    · rw [pI_ne (by omega), g3.1 _ _ (by unfold s75; omega)]; exact e1 a ha b hb
    · rw [pI_at]
      by_cases hbq : b = q
      · rw [if_pos ⟨rfl, hbq⟩, hbq]
      · rw [if_neg (fun e => hbq e.2), g3.1 _ _ (by unfold s75; omega)]; exact e2 b (by omega)
  · obtain ⟨e1, e2, e3⟩ := hi
    simp only [f_163_14, (h.fr ok e3).pe, iN_lt (show W.pe < 2147483648 by omega) (show W.pe < 2147483648 by omega), Nat.lt_irrefl, iN_succ, ↓reduceIte]
    refine hfin P1 (fun a ha q hq => ?_) e3
    by_cases hap : a = p
    · rw [hap]; exact e2 q hq
    · exact e1 a (by omega) q hq
theorem r_meet (h : RW W P) (ok : OK W) (hN : 70000 ≤ N) : TT (f_163 N P) (fun q => RM W (W.pe + 1) q ∧ fr scR P q) := by
  have h8 := ok.1.1
  unfold f_163
  have key2 : ∀ c d n P1, d + c = W.pe + 1 → c < n → RM W d P1 → fr scR P P1 → TT (f_163_57 N n (iN (W.pe + 1 - d) - 1) P1) (fun q => RM W (W.pe + 1) q ∧ fr scR P q) := by
    intro c
    induction c with
    | zero =>
      intro d n P1 hd hn hM hf
      obtain ⟨n, rfl⟩ : ∃ z, n = z + 1 := ⟨n - 1, by omega⟩
      have : d = W.pe + 1 := by omega
      subst this
      unfold f_163_57
      rw [Nat.sub_self, if_pos (by decide)]
      exact TT_some ⟨hM, hf⟩
    | succ c ih =>
      intro d n P1 hd hn hM hf
      obtain ⟨n, rfl⟩ : ∃ z, n = z + 1 := ⟨n - 1, by omega⟩
      have hx : iN (W.pe + 1 - d) - 1 = iN (W.pe - d) := by
        rw [iN_lit 1, iN_sub (by omega)]; congr 1; omega
      unfold f_163_57
      rw [hx, if_neg (by rw [iN_neg (by omega)]; exact id)]
      refine r_day (h.fr ok hf) ok (by omega) hM hN (fun P' k1 k2 => ?_)
      have := ih (d + 1) n P' (by omega) (by omega) k1 (hf.tr k2)
      rwa [show W.pe + 1 - (d + 1) = W.pe - d by omega] at this
  have key : ∀ c p n P1, p + c = W.pe → c < n → (∀ a, a < p → ∀ q, q < W.pe → P1.1 (559 + 1 + a) q = oN (bO W a q)) → fr scR P P1 → TT (f_163_2 N n (iN p) P1) (fun q => RM W (W.pe + 1) q ∧ fr scR P q) := by
    intro c
    induction c with
    | zero =>
      intro p n P1 hp hn hO hf
      obtain ⟨n, rfl⟩ : ∃ z, n = z + 1 := ⟨n - 1, by omega⟩
      have : p = W.pe := by omega
      subst this
      simp only [f_163_2, (h.fr ok hf).pe, iN_lt (show W.pe < 2147483648 by omega) (show W.pe < 2147483648 by omega), Nat.lt_irrefl, ↓reduceIte]
      have := key2 (W.pe + 1) 0 N P1 (by omega) (by omega) ⟨hO, fun e he => absurd he (Nat.not_lt_zero _)⟩ hf
      rwa [Nat.sub_zero, iN_pm] at this
    | succ c ih =>
      intro p n P1 hp hn hO hf
      obtain ⟨n, rfl⟩ : ∃ z, n = z + 1 := ⟨n - 1, by omega⟩
      simp only [f_163_2, (h.fr ok hf).pe, iN_lt (show p < 2147483648 by omega) (show W.pe < 2147483648 by omega), show p < W.pe by omega, ↓reduceIte]
      exact r_bestrow (h.fr ok hf) ok (by omega) hO hN (fun P' k1 k2 => ih (p + 1) n P' (by omega) (by omega) k1 (hf.tr k2))
  exact key W.pe 0 N P (by omega) (by omega) (fun a ha => absurd ha (Nat.not_lt_zero _)) fr.rf
theorem r_one (ok : OK W) (hM : RM W (W.pe + 1) P) : P.1 550 0 = iN (DD W W.pe 0) := by
  have := hM.2 W.pe (by omega) 0 (Nat.two_pow_pos _)
  rwa [Nat.sub_self] at this
theorem r_says (h : RW W P) (ok : OK W) (hM : RM W (W.pe + 1) P) {a : Nat} (ha : a < W.pe) (hN : 70000 ≤ N) : f_49_40 N N (iN a) 0 (-1) 0 P = some (sSaid W a, P) := by
  have h8 := ok.1.1
  have hp8 := p8_le h8
  have h40 := h.r.m40
  refine up (fun n p (s : Int32) => f_49_40 N n (iN a) (iN (hd W p)) s (iN p) P) (a + 1) (fun p => match p with | 0 => -1 | p + 1 => sSaid W p) _ (fun n p hp => ?_) (fun n => ?_) N (by omega)
  · have hh := hd_lt ok p
    have r1 : P.1 (549 + 1 + p) (hd W p) = iN (DD W (W.pe - (p + 1) + 1) (hd W p)) := by
      have := hM.2 (W.pe - p) (by omega) _ hh
      rwa [show W.pe - (W.pe - p) = p by omega, show W.pe - p = W.pe - (p + 1) + 1 by omega] at this
    have r2 : P.1 (549 + 1 + (p + 1)) (hd W p) = iN (DD W (W.pe - (p + 1)) (hd W p)) := by
      have := hM.2 (W.pe - (p + 1)) (by omega) _ hh
      rwa [show W.pe - (W.pe - (p + 1)) = p + 1 by omega] at this
    have b1 := DD_le ok (W.pe - (p + 1) + 1) (hd W p)
    have b2 := DD_le ok (W.pe - (p + 1)) (hd W p)
    conv => lhs; unfold f_49_40
    simp only [iN_lt (show a < 2147483648 by omega) (show p < 2147483648 by omega), show ¬ a < p by omega, iN_succ, iN_gT (show p + 1 < 9 by omega) (show 9 ≤ 2147483648 by decide), iN_gT (show hd W p < 256 by omega) (show 256 ≤ 2147483648 by decide), iN_gT (show p < 9 by omega) (show 9 ≤ 2147483648 by decide), iN_nat (show p + 1 < 2147483648 by omega), iN_nat (show p < 2147483648 by omega), iN_nat (show hd W p < 2147483648 by omega), r1, r2, iN_eq (show DD W (W.pe - (p + 1)) (hd W p) < 2147483648 by omega) (show DD W (W.pe - (p + 1) + 1) (hd W p) < 2147483648 by omega), ↓reduceIte]
    cases hq : hr W (W.pe - (p + 1)) (hd W p) with
    | none =>
      have hd1 : hd W (p + 1) = hd W p := by
        show (match hr W (W.pe - (p + 1)) (hd W p) with | none => hd W p | some q => hd W p ||| 2 ^ q) = _
        rw [hq]
      have hs1 : sSaid W p = -1 := by unfold sSaid; rw [hq]
      have he : DD W (W.pe - (p + 1)) (hd W p) = DD W (W.pe - (p + 1) + 1) (hd W p) := by
        unfold hr at hq
        split at hq
        · assumption
        · cases hq
      rw [if_pos he, hd1, hs1]
    | some q =>
      obtain ⟨q1, q2, q3, q4, q5⟩ := hr_p ok hq
      have hd1 : hd W (p + 1) = hd W p ||| 2 ^ q := by
        show (match hr W (W.pe - (p + 1)) (hd W p) with | none => hd W p | some q => hd W p ||| 2 ^ q) = _
        rw [hq]
      have hs1 : sSaid W p = oN (bO W p q) := by unfold sSaid; rw [hq]
      rw [if_neg q5, hd1, hs1]
      have hpp : W.pe - (W.pe - (p + 1) + 1) = p := by omega
      have one : ∀ H m j, j < W.pe → f_49_77 H (m + 1) (iN a) (iN (hd W p)) (iN p) (iN j) P = if cq W (W.pe - (p + 1)) (hd W p) j then H (iN a) (iN (hd W p ||| 2 ^ j)) (oN (bO W p j)) (iN (p + 1)) P else f_49_77 H m (iN a) (iN (hd W p)) (iN p) (iN (j + 1)) P := fun H m j hj => by
        have hof : P.1 (559 + 1 + p) j = oN (bO W p j) := hM.1 p (by omega) j hj
        conv => lhs; unfold f_49_77
        simp only [shr_tb (show hd W p < 2147483648 by omega) (show j < 31 by omega), iN_gT (show p < 8 by omega) (show 8 ≤ 2147483648 by decide), iN_gT (show j < 8 by omega) (show 8 ≤ 2147483648 by decide), iN_gT (show p + 1 < 9 by omega) (show 9 ≤ 2147483648 by decide), iN_gT (show hd W p < 256 by omega) (show 256 ≤ 2147483648 by decide), iN_gT (show p < 9 by omega) (show 9 ≤ 2147483648 by decide), iN_nat (show p + 1 < 2147483648 by omega), iN_nat (show p < 2147483648 by omega), iN_nat (show j < 2147483648 by omega), iN_nat (show hd W p < 2147483648 by omega), hof, iN_succ, r1, ↓reduceIte]
        unfold cq
        rw [hpp]
        by_cases ht : (hd W p).testBit j = true
        · rw [if_pos ht]; simp [ht]
        · rw [if_neg ht]
          have ht : (hd W p).testBit j = false := by simpa using ht
          rcases hb : bO W p j with _ | b
          · rw [if_pos (show oN none = -1 from rfl)]; simp
          · have hbl := (bO_p hb).1
            have hor := or_lt8 hh hj
            have r3 : P.1 (549 + 1 + (p + 1)) (hd W p ||| 2 ^ j) = iN (DD W (W.pe - (p + 1)) (hd W p ||| 2 ^ j)) := by
              have := hM.2 (W.pe - (p + 1)) (by omega) _ hor
              rwa [show W.pe - (W.pe - (p + 1)) = p + 1 by omega] at this
            have b3 := DD_le ok (W.pe - (p + 1)) (hd W p ||| 2 ^ j)
            have b4 := (ok.1.sz hbl).2.2
            rw [if_neg (show ¬ oN (some b) = -1 by rw [oN_some, iN_nm1 (by omega)]; exact id), oN_some]
            simp only [r_of2 h.r hbl, (ok.1.sz hbl).1, Option.bind_some, iN_one j (by omega), iN_or, iN_gT (show hd W p ||| 2 ^ j < 256 by omega) (show 256 ≤ 2147483648 by decide), iN_nat (show hd W p ||| 2 ^ j < 2147483648 by omega), r3, iN_add, iN_eq (show szP W.L b + DD W (W.pe - (p + 1)) (hd W p ||| 2 ^ j) < 2147483648 by omega) (show DD W (W.pe - (p + 1) + 1) (hd W p) < 2147483648 by omega), ↓reduceIte]
            have hbz : bz W p j = szP W.L b := by unfold bz; rw [hb]
            rw [ht, hbz]
            by_cases hc : szP W.L b + DD W (W.pe - (p + 1)) (hd W p ||| 2 ^ j) = DD W (W.pe - (p + 1) + 1) (hd W p)
            · rw [if_pos hc]; simp [hc]
            · rw [if_neg hc]; simp [hc]
      refine up (fun m j (_ : Unit) => f_49_77 (fun y0 y1 y2 y3 y4 => f_49_40 N n y0 y1 y2 y3 y4) m (iN a) (iN (hd W p)) (iN p) (iN j) P) q (fun _ => ()) _ (fun m j hj => ?_) (fun m => ?_) N (by omega)
      · rw [one _ m j (by omega), q4 j hj]; rfl
      · rw [one _ m q q2, q3]; rfl
  · conv => lhs; unfold f_49_40
    rw [if_pos (by rw [iN_lt (by omega) (by omega)]; omega)]
end MT
