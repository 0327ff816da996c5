/-! which claims are false: what is found -/
section SF
variable {W : WO} {B : BK} {P : ab_P} {N n0 k : Nat}
def SJ (W : WO) (B : BK) (P : ab_P) : Prop := (∀ e, e < mS W.L → P.1 24 e = iN (kf W.L e) ∧ P.1 25 e = W.L.1 0 (kf W.L e) ∧ P.1 26 e = W.L.1 1 (kf W.L e) ∧ P.1 27 e = iN (szP W.L (kf W.L e))) ∧ (∀ p, p < 8 → P.1 28 p = bI (gp W.L B B.1 p).isSome) ∧ CBd W (mS W.L) P
/-- what the search changes -/
def s29 (b j : Nat) : Prop := b = 29 ∨ (b = 21 ∧ (j = 12 ∨ j = 13))
theorem s29_C : ∀ b j, s29 b j → scC b j := fun b j h => by
  unfold s29 at h
  unfold scC
  omega
theorem SJ.fr {P' : ab_P} (h : SJ W B P) (f : fr s29 P P') : SJ W B P' := by
  refine ⟨fun e he => ?_, fun p hp => ?_, fun u hu p hp => ?_⟩
  · rw [f.1 24 _ (by unfold s29; omega), f.1 25 _ (by unfold s29; omega), f.1 26 _ (by unfold s29; omega), f.1 27 _ (by unfold s29; omega)]
    exact h.1 e he
  · rw [f.1 28 _ (by unfold s29; omega)]; exact h.2.1 p hp
  · rw [f.1 30 _ (by unfold s29; omega), f.1 31 _ (by unfold s29; omega)]
    exact h.2.2 u hu p hp
def NE (W : WO) (B : BK) (q u : Nat) (P : ab_P) : Prop := ∀ p, p < 8 → P.1 29 p = zN ((gp W.L B B.1 p).getD 0 - UD W.L q u p)
def cF (L : LG) (F : Option Nat) : Nat := match F with
  | none => 17
  | some b => cS L b
def bF (L : LG) (F : Option Nat) : Int64 := match F with
  | none => 0
  | some b => bitS L b
def FD (W : WO) (F : Option Nat) (P : ab_P) : Prop := P.1 21 12 = iN (cF W.L F) ∧ P.2.1 21 13 = bF W.L F
theorem gp_bd (ok : OK W) (okb : okB W.pe B) (hm : mS W.L ≤ 16) {p : Nat} {x : Int} (h : gp W.L B B.1 p = some x) : -169983 ≤ x ∧ x ≤ 169983 ∧ p < 8 := by
  obtain ⟨i, i1, i2, i3⟩ := gp_some h
  obtain ⟨b1, b2, b3⟩ := okb.2 i i1
  have := aZ_bd ok hm p
  have := ok.1.1
  omega
theorem c_isIn (P : ab_P) {a h : Nat} (ha : a < 2147483648) (hh : h < 2147483648) : f_240 P (iN a) 0 (iN h) = some (bI (decide (a ≤ h))) := by
  unfold f_240
  rw [if_neg (by rw [iN_neg ha]; exact id)]
  by_cases hc : a ≤ h
  · rw [if_neg (by rw [iN_lt hh ha]; omega), decide_eq_true hc]; rfl
  · rw [if_pos (by rw [iN_lt hh ha]; omega), decide_eq_false hc]; rfl
theorem c_fit (ok : OK W) (okb : okB W.pe B) (hm : mS W.L ≤ 16) (hS : SJ W B P) {q u p : Nat} (hu : u ≤ mS W.L) (hp : p < 8) (hn : P.1 29 p = zN ((gp W.L B B.1 p).getD 0 - UD W.L q u p)) : (f_314 21 P (iN u) (iN p) = some 1 ∧ fits W.L (gp W.L B B.1) q u p) ∨ (f_314 21 P (iN u) (iN p) = some 0 ∧ ¬ fits W.L (gp W.L B B.1) q u p) := by
  obtain ⟨s1, s2, s3⟩ := hS
  obtain ⟨l1, l2⟩ := s3 u hu p hp
  have hat : iN u * (8 : Int32) + iN p = iN (u * 8 + p) := by rw [iN_lit 8, iN_mul, iN_add]
  have e1 : f_240 P (iN p) (0 : Int32) (7 : Int32) = some 1 := by
    have := c_isIn P (a := p) (h := 7) (by omega) (by decide)
    rw [decide_eq_true (by omega : p ≤ 7)] at this
    exact this
  have e2 : f_240 P (iN u) (0 : Int32) (16 : Int32) = some 1 := by
    have := c_isIn P (a := u) (h := 16) (by omega) (by decide)
    rw [decide_eq_true (by omega : u ≤ 16)] at this
    exact this
  unfold f_314
  simp only [Nat.reduceAdd, e1, e2, Option.bind_some, show ¬ (1 : Int32) = 0 by decide, iN_gT hp (show 8 ≤ 2147483648 by decide), iN_nat (show p < 2147483648 by omega), s2 p hp, bI_0, hat, iN_gT (show u * 8 + p < 136 by omega) (show 136 ≤ 2147483648 by decide), iN_nat (show u * 8 + p < 2147483648 by omega), hn, l1, l2, ↓reduceIte]
  cases hg : gp W.L B B.1 p with
  | none =>
    left
    rw [if_pos (show (none : Option Int).isSome = false from rfl)]
    exact ⟨rfl, fun x hx => by rw [hg] at hx; cases hx⟩
  | some x =>
    have b1 := gp_bd ok okb hm hg
    have b2 := UD_bd ok hm q u p
    have b3 := loZ_bd ok hm hu p
    have b4 := hiZ_bd ok hm hu p
    rw [if_neg (show ¬ (some x).isSome = false by simp)]
    show (((if zN (x - UD W.L q u p) < zN (loZ W.L u p) then _ else _) = _) ∧ _) ∨ (((if zN (x - UD W.L q u p) < zN (loZ W.L u p) then _ else _) = _) ∧ _)
    by_cases h1 : x - UD W.L q u p < loZ W.L u p
    · right
      rw [if_pos (by rw [zN_lt (by omega) (by omega)]; exact h1)]
      refine ⟨rfl, fun hf => ?_⟩
      have := hf x hg
      omega
    · rw [if_neg (by rw [zN_lt (by omega) (by omega)]; exact h1)]
      show (((if zN (hiZ W.L u p) < zN (x - UD W.L q u p) then _ else _) = _) ∧ _) ∨ (((if zN (hiZ W.L u p) < zN (x - UD W.L q u p) then _ else _) = _) ∧ _)
      by_cases h2 : hiZ W.L u p < x - UD W.L q u p
      · right
        rw [if_pos (by rw [zN_lt (by omega) (by omega)]; exact h2)]
        refine ⟨rfl, fun hf => ?_⟩
        have := hf x hg
        omega
      · left
        rw [if_neg (by rw [zN_lt (by omega) (by omega)]; exact h2)]
        refine ⟨rfl, fun y hy => ?_⟩
        rw [hg] at hy
        cases hy
        omega
theorem c_take (ok : OK W) (hm : mS W.L ≤ 16) (hS : SJ W B P) {u : Nat} (hu : u < mS W.L) (t : Int32) : TT (f_345 21 (iN u) t P) (fun P' => (∀ p, p < 8 → P'.1 29 p = P.1 29 p - t * shr W.L (iN p) (kf W.L u)) ∧ fr (fun b _ => b = 29) P P') := by
  obtain ⟨s1, s2, s3⟩ := hS
  obtain ⟨k1, k2, k3, k4⟩ := s1 u hu
  have hk := (kf_p hu).1
  obtain ⟨a, a1, a2, a3⟩ := ok.1.on hk
  obtain ⟨b, b1, b2, b3⟩ := ok.1.by hk
  have e1 : f_240 P (iN a) (0 : Int32) (7 : Int32) = some 1 := by
    have := c_isIn P (a := a) (h := 7) (by omega) (by decide)
    rw [decide_eq_true (by omega : a ≤ 7)] at this
    exact this
  have e2 : f_240 P (iN b) (0 : Int32) (7 : Int32) = some 1 := by
    have := c_isIn P (a := b) (h := 7) (by omega) (by decide)
    rw [decide_eq_true (by omega : b ≤ 7)] at this
    exact this
  have gi := iN_gi (k := u) (n := 16) (by omega) (by omega)
  unfold f_345
  simp only [Nat.reduceAdd, if_pos gi, iN_nat (show u < 2147483648 by omega), k2, k3, k4, a3, b3, e1, e2, Option.bind_some, show ¬ (1 : Int32) = 0 by decide, iN_gT a2 (show 8 ≤ 2147483648 by decide), iN_gT b2 (show 8 ≤ 2147483648 by decide), iN_nat (show a < 2147483648 by omega), iN_nat (show b < 2147483648 by omega), uI_ne (show 27 ≠ 29 by decide), ab_lt, ↓reduceIte]
  refine TT_some ⟨fun p hp => ?_, (fr.I (S := fun b _ => b = 29) rfl).tr (fr.I rfl)⟩
  have hz := (ok.1.sz hk).1
  unfold shr
  simp only [uI_at, true_and, a3, b3, hz, iN_eq (show a < 2147483648 by omega) (show p < 2147483648 by omega), iN_eq (show b < 2147483648 by omega) (show p < 2147483648 by omega)]
  by_cases pb : p = b
  · by_cases pa : p = a
    · subst pa
      subst pb
      simp
    · have hba : ¬ b = a := fun e => pa (pb.trans e)
      have hab : ¬ a = p := fun e => pa e.symm
      rw [pb] at hab
      subst pb
      simp [hba, hab]
  · have hbp : ¬ b = p := fun e => pb e.symm
    by_cases pa : p = a
    · subst pa
      simp [pb, hbp]
      grind
    · have hap : ¬ a = p := fun e => pa e.symm
      simp [pa, pb, hap, hbp]
theorem shr_kf (ok : OK W) {u : Nat} (hu : u < mS W.L) (p : Nat) : shr W.L (iN p) (kf W.L u) = zN (shZ W.L p (kf W.L u)) := shr_Z ok.1 (kf_p hu).1 p
theorem fld_F {L : LG} {F : Option Nat} {a : Nat} : ∀ d, (∀ b, F = some b → cS L b ≤ 16) → mS L ≤ 16 → ∀ b, fld (tB L B) (cS L) F a d = some b → cS L b ≤ 16
  | 0, h, _ => h
  | d + 1, h, hm => fun b hb => by
    have : cS L b ≤ mS L := cntN_le _ _
    omega
theorem cF_le {L : LG} (hm : mS L ≤ 16) (F : Option Nat) : cF L F ≤ 17 := by
  cases F with
  | none => exact Nat.le_refl _
  | some b =>
    have : cS L b ≤ mS L := cntN_le _ _
    show cS L b ≤ 17
    omega
theorem i_tk (x s : Int32) : x - 1 * s - (-1) * s = x := by grind
theorem c_seek (ok : OK W) (h40 : W.L.2.1 ≤ 40) (okb : okB W.pe B) (ha : agree B B.1) (hm : mS W.L ≤ 16) : ∀ u, u ≤ mS W.L → ∀ (K q : Nat) (F : Option Nat) (P : ab_P), u < K → SJ W B P → NE W B q u P → FD W F P → (∀ p, p < 8 → fits W.L (gp W.L B B.1) q u p) → TT (f_315 21 K (iN u) (iN (cU W.L q u)) (bU W.L q u) P) (fun P' => FD W (fld (tB W.L B) (cS W.L) F (2 ^ u * q) (2 ^ u)) P' ∧ (∀ p, p < 8 → P'.1 29 p = P.1 29 p) ∧ fr s29 P P') := by
  intro u
  induction u with
  | zero =>
    intro hu K q F P hK hS hN hF hfit
    obtain ⟨K, rfl⟩ : ∃ z, K = z + 1 := ⟨K - 1, by omega⟩
    have hc : cU W.L q 0 = cS W.L q := by
      unfold cU cS
      rfl
    have hb : bU W.L q 0 = bitS W.L q := by
      unfold bU bitS
      rw [Nat.sub_zero]
      congr 1
      funext e
      rw [Nat.zero_add]
    have hT : tB W.L B q = true := fits_leaf ha (fun p => by
      by_cases hp : p < 8
      · exact hfit p hp
      · exact fun x hx => absurd (gp_bd ok okb hm hx).2.2 hp)
    have hcm : cS W.L q ≤ mS W.L := cntN_le _ _
    have hfl : fld (tB W.L B) (cS W.L) F (2 ^ 0 * q) (2 ^ 0) = updB (tB W.L B) (cS W.L) F q := by
      rw [Nat.pow_zero, Nat.one_mul]
      show updB _ _ (fld _ _ F q 0) (q + 0) = _
      rfl
    have hcF : cF W.L F ≤ 17 := cF_le hm F
    have hup : updB (tB W.L B) (cS W.L) F q = if cS W.L q < cF W.L F then some q else F := by
      unfold updB cF
      rw [hT]
      cases F with
      | none => simp; omega
      | some b => simp
    unfold f_315
    rw [hF.1, hc, hb, hfl, hup]
    by_cases hlt : cS W.L q < cF W.L F
    · rw [if_pos (by rw [iN_lt (by omega) (by omega)]; exact hlt), if_neg (by decide), if_neg (by decide), if_pos hlt]
      refine TT_some ⟨⟨?_, ?_⟩, fun p hp => ?_, (fr.I (S := s29) (Or.inr ⟨rfl, Or.inl rfl⟩)).tr (fr.L (Or.inr ⟨rfl, Or.inr rfl⟩))⟩
      · show ab_upI P.1 21 12 _ 21 12 = _
        rw [uI_at, if_pos ⟨rfl, rfl⟩]; rfl
      · show ab_upL P.2.1 21 13 _ 21 13 = _
        rw [uL_at, if_pos ⟨rfl, rfl⟩]; rfl
      · exact pI_ne (P := P) (a := 21) (i := 12) (x := iN (cS W.L q)) (b := 29) (j := p) (by decide)
    · rw [if_neg (by rw [iN_lt (by omega) (by omega)]; exact hlt), if_neg hlt]
      exact TT_some ⟨hF, fun p hp => rfl, fr.rf⟩
  | succ u ih =>
    intro hu K q F P hK hS hNE hF hfit
    obtain ⟨K, rfl⟩ : ∃ z, K = z + 1 := ⟨K - 1, by omega⟩
    have hu1 : u < mS W.L := by omega
    have hcq : cU W.L q (u + 1) ≤ 16 := by
      have : cU W.L q (u + 1) ≤ mS W.L - (u + 1) := cntN_le _ _
      omega
    have hcF : cF W.L F ≤ 17 := cF_le hm F
    unfold f_315
    rw [hF.1]
    by_cases hlt : cU W.L q (u + 1) < cF W.L F
    · have hk := (kf_p hu1).1
      obtain ⟨a, a1, a2, a3⟩ := ok.1.on hk
      obtain ⟨b, b1, b2, b3⟩ := ok.1.by hk
      obtain ⟨k1, k2, k3, k4⟩ := hS.1 u hu1
      rw [a3] at k2
      rw [b3] at k3
      have gi := iN_gi (k := u) (n := 16) (by omega) (by omega)
      rw [if_pos (by rw [iN_lt (by omega) (by omega)]; exact hlt), if_neg (by rw [iN_lll (by omega) (by decide)]; exact (by omega : ¬ 16 < u + 1)), if_pos (by rw [iN_lll (by omega) (by decide)]; exact (by omega : 0 < u + 1))]
      simp only [Nat.reduceAdd, iN_pm, if_pos gi, iN_nat (show u < 2147483648 by omega), k2, k3]
      rw [fld_two]
      have hud0 : ∀ p, UD W.L (2 * q) u p = UD W.L q (u + 1) p := fun p => UD_0 (by omega)
      have hNE0 : NE W B (2 * q) u P := fun p hp => by rw [hud0]; exact hNE p hp
      -- all fit, once the two do
      have allf : ∀ q', (q' = 2 * q ∨ q' = 2 * q + 1) → fits W.L (gp W.L B B.1) q' u a → fits W.L (gp W.L B B.1) q' u b → ∀ p, p < 8 → fits W.L (gp W.L B B.1) q' u p := fun q' hq' fa fb p hp => by
        by_cases pa : p = a
        · rw [pa]; exact fa
        · by_cases pb : p = b
          · rw [pb]; exact fb
          · exact fits_same hu (hfit p hp) (by rw [a3, ne_eq, iN_eq (by omega) (by omega)]; exact fun e => pa e.symm) (by rw [b3, ne_eq, iN_eq (by omega) (by omega)]; exact fun e => pb e.symm) hq'
      -- the second half
      have second : ∀ (F1 : Option Nat) (P5 : ab_P), SJ W B P5 → FD W F1 P5 → (∀ p, p < 8 → P5.1 29 p = P.1 29 p) → fr s29 P P5 → TT (f_315_75 21 (fun y0 y1 y2 y3 => f_315 21 K y0 y1 y2 y3) (iN (cU W.L q (u + 1))) (bU W.L q (u + 1)) (iN u) P5) (fun P' => FD W (fld (tB W.L B) (cS W.L) F1 (2 ^ u * (2 * q + 1)) (2 ^ u)) P' ∧ (∀ p, p < 8 → P'.1 29 p = P.1 29 p) ∧ fr s29 P P') := fun F1 P5 hS5 hF5 h295 hf5 => by
        have s29' : ∀ b j : Nat, b = 29 → s29 b j := fun b j h => Or.inl h
        unfold f_315_75
        obtain ⟨P8, t1, t2, t3⟩ := c_take ok hm hS5 hu1 (1 : Int32)
        rw [t1, Option.bind_some]
        have hS8 := hS5.fr (t3.mono s29')
        obtain ⟨l1, l2, l3, l4⟩ := hS8.1 u hu1
        rw [a3] at l2
        rw [b3] at l3
        have hNE1 : NE W B (2 * q + 1) u P8 := fun p hp => by
          rw [t2 p hp, h295 p hp, hNE p hp, UD_1 hu, shr_kf ok hu1 p, Int32.one_mul, zN_sub]
          congr 1
          omega
        have hF8 : FD W F1 P8 := ⟨by rw [t3.1 21 12 (show ¬ 21 = 29 by decide)]; exact hF5.1, by rw [t3.2.1 21 13 (show ¬ 21 = 29 by decide)]; exact hF5.2⟩
        -- back again
        have back : ∀ (F2 : Option Nat) (P16 : ab_P), SJ W B P16 → FD W F2 P16 → (∀ p, p < 8 → P16.1 29 p = P8.1 29 p) → fr s29 P P16 → TT (Option.bind (f_345 21 (iN u) (-1 : Int32) P16) fun P17 => some P17) (fun P' => FD W F2 P' ∧ (∀ p, p < 8 → P'.1 29 p = P.1 29 p) ∧ fr s29 P P') := fun F2 P16 hS16 hF16 h16 hf16 => by
          obtain ⟨P17, v1, v2, v3⟩ := c_take ok hm hS16 hu1 (-1 : Int32)
          rw [v1, Option.bind_some]
          refine TT_some ⟨⟨by rw [v3.1 21 12 (show ¬ 21 = 29 by decide)]; exact hF16.1, by rw [v3.2.1 21 13 (show ¬ 21 = 29 by decide)]; exact hF16.2⟩, fun p hp => ?_, hf16.tr (v3.mono s29')⟩
          rw [v2 p hp, h16 p hp, t2 p hp, h295 p hp]
          exact i_tk _ _
        have hf8 : fr s29 P P8 := hf5.tr (t3.mono s29')
        rw [if_pos gi]
        simp only [Nat.reduceAdd, iN_nat (show u < 2147483648 by omega), l2, l3, l1]
        rcases c_fit ok okb hm hS8 (q := 2 * q + 1) (u := u) (p := a) (by omega) a2 (hNE1 a a2) with ⟨f1, f2⟩ | ⟨f1, f2⟩
        · rw [f1, Option.bind_some, if_neg (by decide), if_pos gi]
          rcases c_fit ok okb hm hS8 (q := 2 * q + 1) (u := u) (p := b) (by omega) b2 (hNE1 b b2) with ⟨g1, g2⟩ | ⟨g1, g2⟩
          · rw [g1, Option.bind_some, if_neg (by decide), if_pos gi, iN_succ, ← cU_1 hu, ← bU_1 hu]
            obtain ⟨P16, w1, w2, w3, w4⟩ := ih (by omega) K (2 * q + 1) F1 P8 (by omega) hS8 hNE1 hF8 (allf _ (Or.inr rfl) f2 g2)
            rw [w1, Option.bind_some]
            exact back _ P16 (hS8.fr w4) w2 w3 (hf8.tr w4)
          · rw [g1, Option.bind_some, if_pos rfl, fld_unfit ha (by omega) g2]
            exact back F1 P8 hS8 hF8 (fun p hp => rfl) hf8
        · rw [f1, Option.bind_some, if_pos rfl, fld_unfit ha (by omega) f2]
          exact back F1 P8 hS8 hF8 (fun p hp => rfl) hf8
      rcases c_fit ok okb hm hS (q := 2 * q) (u := u) (p := a) (by omega) a2 (hNE0 a a2) with ⟨f1, f2⟩ | ⟨f1, f2⟩
      · rw [f1, Option.bind_some, if_neg (by decide)]
        rcases c_fit ok okb hm hS (q := 2 * q) (u := u) (p := b) (by omega) b2 (hNE0 b b2) with ⟨g1, g2⟩ | ⟨g1, g2⟩
        · rw [g1, Option.bind_some, if_neg (by decide), ← cU_0 hu, ← bU_0 hu]
          obtain ⟨P5, w1, w2, w3, w4⟩ := ih (by omega) K (2 * q) F P (by omega) hS hNE0 hF (allf _ (Or.inl rfl) f2 g2)
          rw [w1, Option.bind_some, cU_0 hu, bU_0 hu]
          exact second _ P5 (hS.fr w4) w2 w3 w4
        · rw [g1, Option.bind_some, if_pos rfl, fld_unfit ha (by omega) g2]
          exact second F P hS hF (fun p hp => rfl) fr.rf
      · rw [f1, Option.bind_some, if_pos rfl, fld_unfit ha (by omega) f2]
        exact second F P hS hF (fun p hp => rfl) fr.rf
    · rw [if_neg (by rw [iN_lt (by omega) (by omega)]; exact hlt)]
      have hFs : ∃ b, F = some b := by
        cases F with
        | none => exact absurd (by show cU W.L q (u + 1) < 17; omega) hlt
        | some b => exact ⟨b, rfl⟩
      obtain ⟨b, rfl⟩ := hFs
      rw [fld_many hu (by have : ¬ cU W.L q (u + 1) < cS W.L b := hlt; omega)]
      exact TT_some ⟨hF, fun p hp => rfl, fr.rf⟩
theorem c_lies {K : Nat} (h : CW W P) (ok : OK W) (hB : CB B P) (okb : okB W.pe B) (hm : mS W.L ≤ 16) (hK : 20 ≤ K) (hN : 70000 ≤ N) : TT (f_259 21 43 K N P) (fun q => FD W (bLies W.L B) q ∧ fr scC P q) := by
  have h40 := h.c.m40
  have s12 : scC 21 12 := by unfold scC; omega
  have s13 : scC 21 13 := by unfold scC; omega
  unfold f_259
  refine TT_lt (TT_lt ?_)
  have f2 : fr scC P (ab_pL (ab_pI P 21 12 17) 21 13 0) := (fr.I s12).tr (fr.L s13)
  have hF0 : FD W none (ab_pL (ab_pI P 21 12 17) 21 13 0) := by
    refine ⟨?_, ?_⟩
    · show ab_upI P.1 21 12 17 21 12 = _
      rw [uI_at, if_pos ⟨rfl, rfl⟩]; rfl
    · show ab_upL P.2.1 21 13 0 21 13 = _
      rw [uL_at, if_pos ⟨rfl, rfl⟩]; rfl
  refine TT_bind (c_gather (h.fr f2) ok hm hN) (fun P3 h3 => ?_)
  have f3 := f2.tr (h3.2.mono sG_C)
  have hF3 : FD W none P3 := ⟨by rw [h3.2.1 21 12 (by unfold sG; omega)]; exact hF0.1, by rw [h3.2.2.1 21 13 (by unfold sG; omega)]; exact hF0.2⟩
  refine TT_b2 (c_needed (h.fr f3) ok hm (hB.fr f3) okb hN) (fun v P4 h4 => ?_)
  obtain ⟨h41, h42⟩ := h4
  dsimp only at h41 h42
  have f4 := f3.tr (h42.mono (fun b j e => sG_C b j (s289 e)))
  have hF4 : FD W none P4 := ⟨by rw [h42.1 21 12 (by decide)]; exact hF3.1, by rw [h42.2.1 21 13 (by decide)]; exact hF3.2⟩
  rcases h41 with ⟨v1, ha, hcn⟩ | ⟨v0, hna⟩
  · rw [v1, if_neg (by decide)]
    have hJ4 : CJ W W.L.2.1 P4 := by
      refine ⟨by rw [h42.1 21 7 (by decide)]; exact h3.1.1, fun e he => ?_⟩
      rw [h42.1 24 e (show ¬ (24 = 28 ∨ 24 = 29) by decide), h42.1 25 e (show ¬ (25 = 28 ∨ 25 = 29) by decide), h42.1 26 e (show ¬ (26 = 28 ∨ 26 = 29) by decide), h42.1 27 e (show ¬ (27 = 28 ∨ 27 = 29) by decide)]
      exact h3.1.2 e he
    refine TT_bind (c_bounds ok h40 hm hJ4 hN) (fun P6 h6 => ?_)
    have s6 : ∀ b j : Nat, (b = 30 ∨ b = 31) → scC b j := fun b j h => by unfold scC; omega
    have f6 := f4.tr (h6.2.mono s6)
    have hF6 : FD W none P6 := ⟨by rw [h6.2.1 21 12 (by decide)]; exact hF4.1, by rw [h6.2.2.1 21 13 (by decide)]; exact hF4.2⟩
    have hS6 : SJ W B P6 := by
      refine ⟨fun e he => ?_, fun p hp => by rw [h6.2.1 28 p (show ¬ (28 = 30 ∨ 28 = 31) by decide)]; exact (hcn p hp).1, h6.1⟩
      rw [h6.2.1 24 e (show ¬ (24 = 30 ∨ 24 = 31) by decide), h6.2.1 25 e (show ¬ (25 = 30 ∨ 25 = 31) by decide), h6.2.1 26 e (show ¬ (26 = 30 ∨ 26 = 31) by decide), h6.2.1 27 e (show ¬ (27 = 30 ∨ 27 = 31) by decide)]
      exact hJ4.2 e he
    have hNE6 : NE W B 0 (mS W.L) P6 := fun p hp => by
      rw [h6.2.1 29 p (show ¬ (29 = 30 ∨ 29 = 31) by decide), UD_top, Int.sub_zero]
      exact (hcn p hp).2
    have h7 : P6.1 21 7 = iN (mS W.L) := by rw [h6.2.1 21 7 (by decide)]; exact hJ4.1
    have hbl : ∀ u, u = mS W.L → bLies W.L B = fld (tB W.L B) (cS W.L) none (2 ^ u * 0) (2 ^ u) := fun u hu => by rw [hu, Nat.mul_zero]; rfl
    have key : ∀ c p n, p + c = 8 → c < n → (∀ r, r < p → fits W.L (gp W.L B B.1) 0 (mS W.L) r) → TT (f_259_31 21 43 K n (iN p) P6) (fun q => FD W (bLies W.L B) q ∧ fr scC P q) := by
      intro c
      induction c with
      | zero =>
        intro p n hp hn hfit
        obtain ⟨n, rfl⟩ : ∃ z, n = z + 1 := ⟨n - 1, by omega⟩
        have : p = 8 := by omega
        subst this
        have hc0 : cU W.L 0 (mS W.L) = 0 := by unfold cU; rw [Nat.sub_self]; rfl
        have hb0 : bU W.L 0 (mS W.L) = 0 := by unfold bU; rw [Nat.sub_self]; rfl
        unfold f_259_31
        rw [if_neg (by decide), h7]
        have hsk := c_seek ok h40 okb ha hm (mS W.L) (Nat.le_refl _) K 0 none P6 (by omega) hS6 hNE6 hF6 hfit
        rw [hc0, hb0] at hsk
        refine TT_bind hsk (fun P7 h7' => TT_some ⟨?_, f6.tr (h7'.2.2.mono s29_C)⟩)
        rw [hbl _ rfl]
        exact h7'.1
      | succ c ih =>
        intro p n hp hn hfit
        obtain ⟨n, rfl⟩ : ∃ z, n = z + 1 := ⟨n - 1, by omega⟩
        have hp8 : p < 8 := by omega
        unfold f_259_31
        rw [if_pos (by rw [iN_ltl (by omega) (by decide)]; exact hp8), h7]
        rcases c_fit ok okb hm hS6 (q := 0) (u := mS W.L) (p := p) (Nat.le_refl _) hp8 (hNE6 p hp8) with ⟨f1, f2⟩ | ⟨f1, f2⟩
        · rw [f1, Option.bind_some, if_neg (by decide), iN_succ]
          refine ih (p + 1) n (by omega) (by omega) (fun r hr => ?_)
          by_cases hrp : r = p
          · rw [hrp]; exact f2
          · exact hfit r (by omega)
        · rw [f1, Option.bind_some, if_pos rfl]
          refine TT_some ⟨?_, f6⟩
          rw [hbl _ rfl, fld_unfit ha (Nat.le_refl _) f2]
          exact hF6
    exact key 8 0 N (by omega) (by omega) (fun r hr => absurd hr (Nat.not_lt_zero _))
  · rw [v0, if_pos rfl]
    refine TT_some ⟨?_, f4⟩
    have : bLies W.L B = none := fld_tno (fun n => tB_no hna n) _ _ _
    rw [this]
    exact hF4
/-! the reference tries all sets -/
def FW8 (W : WO) (k : Nat) (P : ab_P) : Prop := ∀ e, e < cntN (stL W.L) k → P.1 568 e = iN (kfA W.L k e)
theorem lessZ_bd (ok : OK W) (hm : mS W.L ≤ 16) (p n : Nat) : -159984 ≤ lessZ W.L p n ∧ lessZ W.L p n ≤ 159984 := by
  have h1 := m16 hm
  have := sumZ_bdr (f := fun e => if n.testBit e then 0 else shZ W.L p (kf W.L e)) (c := 9999) (n := mS W.L) (fun e he => by
    have := shZ_bd (p := p) ok (kf_p he).1
    split <;> omega)
  unfold lessZ
  omega
theorem zN_line (a : Int) (z : Nat) : (zN a + iN z) - iN z = zN (a + ((z : Int) - z)) ∧ (zN a + iN z) - 0 = zN (a + ((z : Int) - 0)) ∧ (zN a + 0) - iN z = zN (a + (0 - (z : Int))) ∧ (zN a + 0) - 0 = zN (a + (0 - 0)) := by
  refine ⟨?_, ?_, ?_, ?_⟩
  · rw [← zN_nat, zN_add, zN_sub]; exact congrArg zN (by omega)
  · rw [← zN_nat, zN_add, ← zN_0, zN_sub]; exact congrArg zN (by omega)
  · rw [← zN_nat, ← zN_0, zN_add, zN_sub]; exact congrArg zN (by omega)
  · rw [← zN_0, zN_add, zN_sub]; exact congrArg zN (by omega)
theorem r_line {H : Int32 → Int32 → Int32 → Option Int32} {n i : Nat} (h : RW W P) (ok : OK W) (hm : mS W.L ≤ 16) (hn : n < 2 ^ mS W.L) (hB : RBk B P) (okb : okB W.pe B) (hF : FW8 W W.L.2.1 P) (hi : i < B.1) (hN : 70000 ≤ N) : f_166_16 P H N (iN n) (iN (mS W.L)) (iN i) 0 0 = if lessZ W.L (B.2.1 i) n = B.2.2 i then H (iN n) (iN (mS W.L)) (iN (i + 1)) else some 0 := by
  have h40 := h.r.m40
  have hb8 := okb.1
  obtain ⟨b1, b2, b3⟩ := okb.2 i hi
  obtain ⟨r1, r2⟩ := hB.2 i hi
  have h8 := ok.1.1
  have hn2 : n < 65536 := by
    have : 2 ^ mS W.L ≤ 2 ^ 16 := Nat.pow_le_pow_right (by decide) hm
    omega
  refine up (fun c e x => f_166_16 P H c (iN n) (iN (mS W.L)) (iN i) x (iN e)) (mS W.L) (fun e => zN (sumZ (fun e => if n.testBit e then 0 else shZ W.L (B.2.1 i) (kf W.L e)) e)) _ (fun c e he => ?_) (fun c => ?_) N (by omega)
  · obtain ⟨k1, k2⟩ := kf_p he
    have q8 : P.1 568 e = iN (kf W.L e) := hF e he
    have hz := (ok.1.sz k1).1
    have hz3 := (ok.1.sz k1).2.2
    conv => lhs; unfold f_166_16
    simp only [f_166_82, iN_lt (show e < 2147483648 by omega) (show mS W.L < 2147483648 by omega), he, shr_tb (show n < 2147483648 by omega) (show e < 31 by omega), iN_gT (show e < 16 by omega) (show 16 ≤ 2147483648 by decide), iN_gT (show i < 8 by omega) (show 8 ≤ 2147483648 by decide), iN_nat (show e < 2147483648 by omega), iN_nat (show i < 2147483648 by omega), q8, r_of0 h.r k1, r_of1 h.r k1, r_of2 h.r k1, Option.bind_some, r1, hz, iN_succ, sumZ_s, ↓reduceIte]
    by_cases ht : n.testBit e = true
    · rw [if_pos ht, if_pos ht, Int.add_zero]
    · rw [if_neg ht, if_neg ht, show shZ W.L (B.2.1 i) (kf W.L e) = (if W.L.1 1 (kf W.L e) = iN (B.2.1 i) then (szP W.L (kf W.L e) : Int) else 0) - (if W.L.1 0 (kf W.L e) = iN (B.2.1 i) then (szP W.L (kf W.L e) : Int) else 0) from rfl]
      obtain ⟨l1, l2, l3, l4⟩ := zN_line (sumZ (fun e => if n.testBit e then 0 else shZ W.L (B.2.1 i) (kf W.L e)) e) (szP W.L (kf W.L e))
      by_cases h1 : W.L.1 1 (kf W.L e) = iN (B.2.1 i) <;> by_cases h0 : W.L.1 0 (kf W.L e) = iN (B.2.1 i)
      · rw [if_pos h1, if_pos h0, if_pos h1, if_pos h0, ← l1]
      · rw [if_pos h1, if_neg h0, if_pos h1, if_neg h0, ← l2]
      · rw [if_neg h1, if_pos h0, if_neg h1, if_pos h0, ← l3]
      · rw [if_neg h1, if_neg h0, if_neg h1, if_neg h0, ← l4]
  · have hl := lessZ_bd ok hm (B.2.1 i) n
    conv => lhs; unfold f_166_16
    rw [if_neg (by rw [iN_lt (by omega) (by omega)]; omega), if_pos (iN_gi (by omega) (by omega)), iN_nat (by omega), r2]
    show (if zN (lessZ W.L (B.2.1 i) n) = zN (B.2.2 i) then _ else _) = _
    by_cases hc : lessZ W.L (B.2.1 i) n = B.2.2 i
    · rw [if_pos (by rw [hc]), if_pos hc, iN_succ]
    · rw [if_neg (by rw [zN_eq (by omega) (by omega)]; exact hc), if_neg hc]
theorem r_tells {n : Nat} (h : RW W P) (ok : OK W) (hm : mS W.L ≤ 16) (hn : n < 2 ^ mS W.L) (hB : RBk B P) (okb : okB W.pe B) (hF : FW8 W W.L.2.1 P) (hN : 70000 ≤ N) : f_166 N P (iN n) (iN (mS W.L)) = some (bI (tB W.L B n)) := by
  have hb8 := okb.1
  unfold f_166
  have key : ∀ c i m, i + c = B.1 → c < m → (∀ r, r < i → lessZ W.L (B.2.1 r) n = B.2.2 r) → f_166_2 N P m (iN n) (iN (mS W.L)) (iN i) = some (bI (tB W.L B n)) := by
    intro c
    induction c with
    | zero =>
      intro i m hi hm' hr
      obtain ⟨m, rfl⟩ : ∃ z, m = z + 1 := ⟨m - 1, by omega⟩
      have : i = B.1 := by omega
      subst this
      unfold f_166_2
      rw [hB.1, if_neg (by rw [iN_lt (by omega) (by omega)]; omega)]
      have : tB W.L B n = true := by
        unfold tB
        rw [allN_iff]
        exact fun r hr' => decide_eq_true (hr r hr')
      rw [this]; rfl
    | succ c ih =>
      intro i m hi hm' hr
      obtain ⟨m, rfl⟩ : ∃ z, m = z + 1 := ⟨m - 1, by omega⟩
      unfold f_166_2
      rw [hB.1, if_pos (by rw [iN_lt (by omega) (by omega)]; omega), r_line h ok hm hn hB okb hF (by omega) hN]
      by_cases hc : lessZ W.L (B.2.1 i) n = B.2.2 i
      · rw [if_pos hc]
        refine ih (i + 1) m (by omega) (by omega) (fun r hr' => ?_)
        by_cases hri : r = i
        · rw [hri]; exact hc
        · exact hr r (by omega)
      · rw [if_neg hc]
        have : tB W.L B n = false := by
          cases ht : tB W.L B n with
          | false => rfl
          | true =>
            unfold tB at ht
            rw [allN_iff] at ht
            exact absurd (of_decide_eq_true (ht i (by omega))) hc
        rw [this]; rfl
  exact key B.1 0 N (by omega) (by omega) (fun r hr => absurd hr (Nat.not_lt_zero _))
theorem r_ones16 (P : ab_P) {u : Nat} (hu : u < 65536) (hN : 70000 ≤ N) : f_158 N P (iN u) = some (iN (cntN (fun i => u.testBit i) 16)) := by
  unfold f_158
  refine up (fun n j x => f_158_4 P n (iN u) x (iN j)) 16 (fun j => iN (cntN (fun i => u.testBit i) j)) _ (fun n j hj => ?_) (fun n => ?_) N (by omega)
  · simp only [f_158_4, iN_ltl (show j < 2147483648 by omega) (show 16 < 2147483648 by decide), hj, iN_succ, ↓reduceIte]
    have hv : (iN u >>> (iN j &&& 31)) &&& (1 : Int32) = iN (if u.testBit j then 1 else 0) := by
      have h := shr_tb (s := u) (p := j) (by omega) (by omega)
      have h0 := shr_tb0 (s := u) (p := j) (by omega) (by omega)
      cases hb : u.testBit j with
      | true => rw [hb] at h; exact h.mpr rfl
      | false => rw [hb] at h0; exact h0.mpr rfl
    rw [hv, iN_add]
    rfl
  · simp only [f_158_4, iN_ltl (show 16 < 2147483648 by omega) (show 16 < 2147483648 by decide), Nat.lt_irrefl, ↓reduceIte]
theorem cS_16 {L : LG} (hm : mS L ≤ 16) {n : Nat} (hn : n < 2 ^ mS L) : cntN (fun i => n.testBit i) 16 = cS L n := by
  have := cntN_more (p := fun i => n.testBit i) (m := mS L) (fun k hk => Nat.testBit_lt_two_pow (Nat.lt_of_lt_of_le hn (Nat.pow_le_pow_right (by decide) hk))) (16 - mS L)
  rw [show mS L + (16 - mS L) = 16 by omega] at this
  exact this
def sLies (W : WO) (B : BK) (what : Int32) : Int64 := match bLies W.L B with
  | none => -1
  | some b => if what = 0 then (iN (cS W.L b)).toInt64 else bitS W.L b
theorem ite_or {α : Type} (b : Bool) (x y : α) : (if b = true then x else y) = x ∨ (if b = true then x else y) = y := by
  cases b
  · exact Or.inr rfl
  · exact Or.inl rfl
theorem fld_lt {T : Nat → Bool} {c : Nat → Nat} {b : Nat} : ∀ {d : Nat}, fld T c none 0 d = some b → b < d
  | 0, h => by cases h
  | d + 1, h => by
    have h : updB T c (fld T c none 0 d) (0 + d) = some b := h
    rcases ite_or (T (0 + d) && (match fld T c none 0 d with | none => true | some b => decide (c (0 + d) < c b))) (some (0 + d)) (fld T c none 0 d) with e | e
    · have : some (0 + d) = some b := e.symm.trans h
      cases this
      omega
    · have := fld_lt (e.symm.trans h)
      omega
theorem r_lies (h : RW W P) (ok : OK W) (hB : RBk B P) (okb : okB W.pe B) (hm : mS W.L ≤ 16) (what : Int32) (hN : 70000 ≤ N) : TT (f_51_64 N N what 0 (-1) 0 P) (fun q => q.1 = sLies W B what ∧ fr scR P q.2) := by
  have h40 := h.r.m40
  have hb8 := okb.1
  have s8 : ∀ b j : Nat, b = 568 → scR b j := fun b j h => by unfold scR; omega
  have hp16 : 2 ^ mS W.L ≤ 65536 := by
    have : 2 ^ mS W.L ≤ 2 ^ 16 := Nat.pow_le_pow_right (by decide) hm
    omega
  refine upT (fun n k (s : Int32 × ab_P) => f_51_64 N n what s.1 (-1) (iN k) s.2) W.L.2.1 (fun k s => s.1 = iN (cntN (stL W.L) k) ∧ FW8 W k s.2 ∧ fr scR P s.2) _ (fun n k s hk hi => ?_) (fun n s hi => ?_) N (0, P) ⟨rfl, fun e he => absurd he (Nat.not_lt_zero _), fr.rf⟩ (by omega)
  · obtain ⟨x, P1⟩ := s
    obtain ⟨e1, e2, e3⟩ := hi
    dsimp only at e1 e2 e3
    have g := h.fr ok e3
    show ∃ s', f_51_64 N (n + 1) what x (-1) (iN k) P1 = _ ∧ _
    simp only [f_51_64, r_more g.r hk, r_stand g.r (show k < 2147483648 by omega), bI_0, Option.bind_some, iN_succ, ↓reduceIte]
    cases hs : stL W.L k with
    | false =>
      rw [if_pos rfl]
      refine ⟨(x, P1), rfl, by rw [cntN_n hs]; exact e1, ?_, e3⟩
      unfold FW8
      rw [cntN_n hs, kfA_n hs]
      exact e2
    | true =>
      have hc : cntN (stL W.L) k < 16 := by
        have h1 := cntN_mono (p := stL W.L) (show k + 1 ≤ W.L.2.1 by omega)
        rw [cntN_y hs] at h1
        unfold mS at hm
        omega
      rw [if_neg (by decide), e1, if_pos (iN_gi hc (by omega)), iN_nat (by omega), iN_succ]
      refine ⟨(iN (cntN (stL W.L) k + 1), _), rfl, by rw [cntN_y hs], fun e he => ?_, e3.tr (fr.I (s8 568 _ rfl))⟩
      rw [cntN_y hs] at he
      rw [kfA_y hs]
      dsimp only
      rw [uI_at]
      by_cases hee : e = cntN (stL W.L) k
      · rw [if_pos ⟨rfl, hee⟩, if_pos hee]
      · rw [if_neg (fun e => hee e.2), if_neg hee]
        exact e2 e (by omega)
  · obtain ⟨x, P1⟩ := s
    obtain ⟨e1, e2, e3⟩ := hi
    dsimp only at e1 e2 e3
    have g := h.fr ok e3
    have gB := hB.fr hb8 e3
    show TT (f_51_64 N (n + 1) what x (-1) (iN W.L.2.1) P1) _
    unfold f_51_64
    rw [if_neg (r_end g.r), e1]
    show TT (f_51_112 N N what (iN (mS W.L)) (-1) 0 P1) _
    have hcl : ∀ d b, d ≤ 2 ^ mS W.L → fld (tB W.L B) (cS W.L) none 0 d = some b → b < 2 ^ mS W.L := fun d b hd hb => by
      have := fld_lt hb
      omega
    refine upT (fun n d (y : Int32) => f_51_112 N n what (iN (mS W.L)) y (iN d) P1) (2 ^ mS W.L) (fun d y => y = oN (fld (tB W.L B) (cS W.L) none 0 d)) _ (fun n d y hd hy => ?_) (fun n y hy => ?_) N (-1) rfl (by omega)
    · have hun : fld (tB W.L B) (cS W.L) none 0 (d + 1) = updB (tB W.L B) (cS W.L) (fld (tB W.L B) (cS W.L) none 0 d) d := by
        show updB _ _ _ (0 + d) = _
        rw [Nat.zero_add]
      subst hy
      show ∃ s', f_51_112 N (n + 1) what (iN (mS W.L)) (oN (fld (tB W.L B) (cS W.L) none 0 d)) (iN d) P1 = _ ∧ _
      simp only [f_51_112, f_51_137, iN_one (mS W.L) (by omega), iN_lt (show d < 2147483648 by omega) (show 2 ^ mS W.L < 2147483648 by omega), hd, r_tells g ok hm hd gB okb e2 hN, bI_0, Option.bind_some, iN_succ, ↓reduceIte]
      rw [hun]
      rcases hb : fld (tB W.L B) (cS W.L) none 0 d with _ | b
      · rw [if_pos (show oN none = -1 from rfl)]
        cases ht : tB W.L B d with
        | false => exact ⟨oN none, by rw [if_pos rfl], by unfold updB; rw [ht]; rfl⟩
        | true => exact ⟨iN d, by rw [if_neg (by decide)], by unfold updB; rw [ht]; rfl⟩
      · have hbl := hcl d b (by omega) hb
        rw [if_neg (show ¬ oN (some b) = -1 by rw [oN_some, iN_nm1 (by omega)]; exact id), oN_some, r_ones16 P1 (by omega) hN, r_ones16 P1 (by omega) hN, Option.bind_some, Option.bind_some, cS_16 hm hd, cS_16 hm hbl]
        have hc1 : cS W.L d ≤ mS W.L := cntN_le _ _
        have hc2 : cS W.L b ≤ mS W.L := cntN_le _ _
        by_cases hc : cS W.L d < cS W.L b
        · rw [if_pos (by rw [iN_lt (by omega) (by omega)]; exact hc)]
          cases ht : tB W.L B d with
          | false => exact ⟨iN b, by rw [if_pos rfl], by unfold updB; rw [ht]; rfl⟩
          | true => exact ⟨iN d, by rw [if_neg (by decide)], by unfold updB; rw [ht]; simp [hc, oN]⟩
        · rw [if_neg (by rw [iN_lt (by omega) (by omega)]; exact hc)]
          exact ⟨iN b, rfl, by unfold updB; simp [hc, oN]⟩
    · subst hy
      show TT (f_51_112 N (n + 1) what (iN (mS W.L)) (oN (bLies W.L B)) (iN (2 ^ mS W.L)) P1) _
      unfold f_51_112
      rw [iN_one (mS W.L) (by omega), if_neg (by rw [iN_lt (by omega) (by omega)]; omega)]
      unfold sLies
      rcases hb : bLies W.L B with _ | b
      · rw [if_pos (show oN none = -1 from rfl)]
        exact TT_some ⟨rfl, e3⟩
      · have hbl := hcl (2 ^ mS W.L) b (Nat.le_refl _) hb
        rw [if_neg (show ¬ oN (some b) = -1 by rw [oN_some, iN_nm1 (by omega)]; exact id), oN_some]
        refine TT_eq (a := (if what = 0 then (iN (cS W.L b)).toInt64 else bitS W.L b, P1)) ?_ ⟨rfl, e3⟩
        refine up (fun n e y => f_51_171 N n what (iN (mS W.L)) (iN b) y (iN e) P1) (mS W.L) (fun e => orF (fun e => if b.testBit e then (1 : Int64) <<< ((iN (kf W.L e)).toInt64 &&& 63) else 0) e) _ (fun n e he => ?_) (fun n => ?_) N (by omega)
        · have q8 : P1.1 568 e = iN (kf W.L e) := e2 e he
          conv => lhs; unfold f_51_171
          simp only [iN_lt (show e < 2147483648 by omega) (show mS W.L < 2147483648 by omega), he, shr_tb (show b < 2147483648 by omega) (show e < 31 by omega), iN_gT (show e < 16 by omega) (show 16 ≤ 2147483648 by decide), iN_nat (show e < 2147483648 by omega), q8, iN_succ, ↓reduceIte]
          by_cases ht : b.testBit e = true
          · rw [if_pos ht, show orF (fun e => if b.testBit e then (1 : Int64) <<< ((iN (kf W.L e)).toInt64 &&& 63) else 0) (e + 1) = orF (fun e => if b.testBit e then (1 : Int64) <<< ((iN (kf W.L e)).toInt64 &&& 63) else 0) e ||| (if b.testBit e then (1 : Int64) <<< ((iN (kf W.L e)).toInt64 &&& 63) else 0) from rfl, if_pos ht]
          · rw [if_neg ht, show orF (fun e => if b.testBit e then (1 : Int64) <<< ((iN (kf W.L e)).toInt64 &&& 63) else 0) (e + 1) = orF (fun e => if b.testBit e then (1 : Int64) <<< ((iN (kf W.L e)).toInt64 &&& 63) else 0) e ||| (if b.testBit e then (1 : Int64) <<< ((iN (kf W.L e)).toInt64 &&& 63) else 0) from rfl, if_neg ht]
        · conv => lhs; unfold f_51_171
          rw [if_neg (by rw [iN_lt (by omega) (by omega)]; omega), r_ones16 P1 (by omega) hN, Option.bind_some, cS_16 hm hbl]
          by_cases hw : what = 0
          · rw [if_pos hw, if_pos hw]
          · rw [if_neg hw, if_neg hw]; rfl
end SF
