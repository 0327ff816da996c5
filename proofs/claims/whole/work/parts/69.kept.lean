/-! history: the reference -/
def spt (t : Nat) : Nat × Nat := if t = 0 then (76, 3) else if t = 1 then (72, 30) else if t < 368 then (477, t - 2) else (480 + (t - 368) / 366, (t - 368) % 366)
theorem spt_0 : spt 0 = (76, 3) := rfl
theorem spt_1 : spt 1 = (72, 30) := rfl
theorem spt_n {k : Nat} (h : k < 366) : spt (2 + k) = (477, k) := by
  unfold spt
  rw [if_neg (by omega), if_neg (by omega), if_pos (by omega)]
  congr 1
  omega
theorem spt_r {r k : Nat} (h : k < 366) : spt (368 + 366 * r + k) = (479 + 1 + r, k) := by
  unfold spt
  rw [if_neg (by omega), if_neg (by omega), if_neg (by omega), show 368 + 366 * r + k - 368 = 366 * r + k by omega, Nat.mul_add_div (by decide), Nat.mul_add_mod, Nat.div_eq_of_lt h, Nat.mod_eq_of_lt h]
  rfl
theorem spt_b {t : Nat} (h : t < 7688) : (spt t = (76, 3)) ∨ (spt t = (72, 30)) ∨ (spt t).1 = 477 ∨ (480 ≤ (spt t).1 ∧ (spt t).1 < 500) := by
  unfold spt
  split
  · exact Or.inl rfl
  · split
    · exact Or.inr (Or.inl rfl)
    · split
      · exact Or.inr (Or.inr (Or.inl rfl))
      · refine Or.inr (Or.inr (Or.inr ⟨?_, ?_⟩))
        · show 480 ≤ 480 + (t - 368) / 366; omega
        · show 480 + (t - 368) / 366 < 500
          have : (t - 368) / 366 < 20 := Nat.div_lt_of_lt_mul (by omega)
          omega
theorem spt_inj {t u : Nat} (h : spt t = spt u) : t = u := by
  unfold spt at h
  have dm1 := Nat.div_add_mod (t - 368) 366
  have dm2 := Nat.div_add_mod (u - 368) 366
  split at h <;> split at h <;> (try split at h) <;> (try split at h) <;> (try split at h) <;> (try split at h) <;> (try simp only [Prod.mk.injEq] at h) <;> (try omega)
section KP
variable {P : ab_P} {N i1 : Nat} {a2 : Int32} {INV : Nat → ab_P → Prop}
theorem r_putsAll (hstep : ∀ t, t < 7688 → ∀ Q, INV t Q → ∃ v Q', f_280_7688 i1 (Q.1 (spt t).1 (spt t).2) a2 Q = some (v, Q') ∧ INV (t + 1) (ab_pI Q' (spt t).1 (spt t).2 v)) (h0 : INV 0 (ab_pI P 72 33 0)) (hN : 70000 ≤ N) : TT (f_195_7688 i1 N a2 P) (fun q => INV 7688 q) := by
  unfold f_195_7688
  refine TT_lt ?_
  obtain ⟨v0, Q0, e0, i0⟩ := hstep 0 (by decide) _ h0
  rw [spt_0] at e0 i0
  dsimp only at e0 i0
  rw [e0, b2_some]
  refine TT_lt ?_
  obtain ⟨v1, Q1, e1, i1'⟩ := hstep 1 (by decide) _ i0
  rw [spt_1] at e1 i1'
  dsimp only at e1 i1'
  rw [e1, b2_some]
  refine TT_lt ?_
  refine upT (fun n k (q : ab_P) => f_195_7688_39 i1 N n a2 (iN k) q) 366 (fun k q => INV (2 + k) q) _ (fun n k Q hk hi => ?_) (fun n Q hi => ?_) N _ i1' (by omega)
  · obtain ⟨v, Q', e, i⟩ := hstep (2 + k) (by omega) Q hi
    rw [spt_n hk] at e i
    dsimp only at e i
    show ∃ s', f_195_7688_39 i1 N (n + 1) a2 (iN k) Q = _ ∧ _
    simp only [f_195_7688_39, iN_ltl (show k < 2147483648 by omega) (show 366 < 2147483648 by decide), hk, iN_gT hk (show 366 ≤ 2147483648 by decide), iN_nat (show k < 2147483648 by omega), e, ab_b2, Option.bind_some, iN_succ, ab_lt, ↓reduceIte]
    exact ⟨_, rfl, i⟩
  · simp only [f_195_7688_39, iN_ltl (show 366 < 2147483648 by omega) (show 366 < 2147483648 by decide), Nat.lt_irrefl, ↓reduceIte]
    have key : ∀ c r n Q, r + c = 20 → c < n → INV (368 + 366 * r) Q → TT (f_195_7688_72 i1 N n a2 (iN r) Q) (fun q => INV 7688 q) := by
      intro c
      induction c with
      | zero =>
        intro r n Q hr hn hI
        obtain ⟨n, rfl⟩ : ∃ z, n = z + 1 := ⟨n - 1, by omega⟩
        have : r = 20 := by omega
        subst this
        simp only [f_195_7688_72, iN_ltl (show 20 < 2147483648 by omega) (show 20 < 2147483648 by decide), Nat.lt_irrefl, ↓reduceIte]
        exact TT_some hI
      | succ c ih =>
        intro r n Q hr hn hI
        obtain ⟨n, rfl⟩ : ∃ z, n = z + 1 := ⟨n - 1, by omega⟩
        have hr20 : r < 20 := by omega
        simp only [f_195_7688_72, iN_ltl (show r < 2147483648 by omega) (show 20 < 2147483648 by decide), hr20, ↓reduceIte]
        refine upT (fun n2 k (q : ab_P) => f_195_7688_81 i1 (fun y0 y1 y2 => f_195_7688_72 i1 N n y0 y1 y2) n2 a2 (iN r) (iN k) q) 366 (fun k q => INV (368 + 366 * r + k) q) _ (fun n2 k Q2 hk hi => ?_) (fun n2 Q2 hi => ?_) N Q hI (by omega)
        · obtain ⟨v, Q', e, i⟩ := hstep (368 + 366 * r + k) (by omega) Q2 hi
          rw [spt_r hk] at e i
          dsimp only at e i
          show ∃ s', f_195_7688_81 i1 _ (n2 + 1) a2 (iN r) (iN k) Q2 = _ ∧ _
          simp only [f_195_7688_81, iN_ltl (show k < 2147483648 by omega) (show 366 < 2147483648 by decide), hk, iN_gT hk (show 366 ≤ 2147483648 by decide), iN_gT hr20 (show 20 ≤ 2147483648 by decide), iN_nat (show k < 2147483648 by omega), iN_nat (show r < 2147483648 by omega), e, ab_b2, Option.bind_some, iN_succ, ab_lt, ↓reduceIte]
          exact ⟨_, rfl, i⟩
        · simp only [f_195_7688_81, iN_ltl (show 366 < 2147483648 by omega) (show 366 < 2147483648 by decide), Nat.lt_irrefl, iN_succ, ↓reduceIte]
          exact ih (r + 1) n Q2 (by omega) (by omega) (by rw [show 368 + 366 * (r + 1) = 368 + 366 * r + 366 by omega]; exact hi)
    exact key 20 0 N Q (by omega) (by omega) hi
theorem puts0 {Q : ab_P} {t : Nat} {v : Int32} (hi1 : i1 ≠ 72) (h : Q.1 72 33 = iN t) (ht : t < 7688) : f_280_7688 i1 v 0 Q = some (v, ab_pI (ab_pI Q i1 t v) 72 33 (iN (t + 1))) := by
  unfold f_280_7688
  rw [if_pos rfl, h, if_pos (iN_gi ht (by decide)), iN_nat (by omega)]
  have hy : (ab_pI Q i1 t v).1 72 33 = iN t := by rw [pI_ne (fun e => hi1 e.symm)]; exact h
  show (if ab_gi ((ab_pI (ab_pI Q i1 t v) 72 33 ((ab_pI Q i1 t v).1 72 33 + 1)).1 72 33 - 1) 7688 then some ((ab_pI (ab_pI Q i1 t v) 72 33 ((ab_pI Q i1 t v).1 72 33 + 1)).1 i1 ((ab_pI (ab_pI Q i1 t v) 72 33 ((ab_pI Q i1 t v).1 72 33 + 1)).1 72 33 - 1).toNatClampNeg, ab_pI (ab_pI Q i1 t v) 72 33 ((ab_pI Q i1 t v).1 72 33 + 1)) else none) = _
  rw [hy, iN_succ]
  have hx : (ab_pI (ab_pI Q i1 t v) 72 33 (iN (t + 1))).1 72 33 = iN (t + 1) := pI_eq
  rw [hx, iN_pm, if_pos (iN_gi ht (by decide)), iN_nat (by omega), show (ab_pI (ab_pI Q i1 t v) 72 33 (iN (t + 1))).1 i1 t = v by rw [pI_ne hi1, pI_eq]]
theorem puts1 {Q : ab_P} {t : Nat} {v : Int32} (hi1 : i1 ≠ 72) (h : Q.1 72 33 = iN t) (ht : t < 7688) : f_280_7688 i1 v 1 Q = some (Q.1 i1 t, ab_pI Q 72 33 (iN (t + 1))) := by
  unfold f_280_7688
  rw [if_neg (by decide), h, iN_succ]
  show (if ab_gi ((ab_pI Q 72 33 (iN (t + 1))).1 72 33 - 1) 7688 then some ((ab_pI Q 72 33 (iN (t + 1))).1 i1 ((ab_pI Q 72 33 (iN (t + 1))).1 72 33 - 1).toNatClampNeg, ab_pI Q 72 33 (iN (t + 1))) else none) = _
  have hx : (ab_pI Q 72 33 (iN (t + 1))).1 72 33 = iN (t + 1) := pI_eq
  rw [hx, iN_pm, if_pos (iN_gi ht (by decide)), iN_nat (by omega), show (ab_pI Q 72 33 (iN (t + 1))).1 i1 t = Q.1 i1 t from pI_ne hi1]
theorem r_save (hi1 : 501 ≤ i1) (hN : 70000 ≤ N) : TT (f_195_7688 i1 N 0 P) (fun q => (∀ t, t < 7688 → q.1 i1 t = P.1 (spt t).1 (spt t).2) ∧ fr (fun b j => b = i1 ∨ (b = 72 ∧ j = 33)) P q) := by
  refine (r_putsAll (INV := fun t Q => (∀ u, u < t → Q.1 i1 u = P.1 (spt u).1 (spt u).2) ∧ Q.1 72 33 = iN t ∧ fr (fun b j => b = i1 ∨ (b = 72 ∧ j = 33)) P Q) (fun t ht Q hi => ?_) ⟨fun u hu => absurd hu (Nat.not_lt_zero _), pI_eq, fr.I (Or.inr ⟨rfl, rfl⟩)⟩ hN).mono (fun q hq => ⟨hq.1, hq.2.2⟩)
  obtain ⟨h1, h2, h3⟩ := hi
  have hb := spt_b ht
  have hne : (spt t).1 ≠ i1 := by
    rcases hb with e | e | e | e
    · rw [e]; show 76 ≠ i1; omega
    · rw [e]; show 72 ≠ i1; omega
    · omega
    · omega
  have hne2 : ¬ ((spt t).1 = 72 ∧ (spt t).2 = 33) := by
    rcases hb with e | e | e | e
    · rw [e]; decide
    · rw [e]; decide
    · omega
    · omega
  rw [puts0 (show i1 ≠ 72 by omega) h2 ht]
  refine ⟨_, _, rfl, fun u hu => ?_, ?_, ?_⟩
  · rw [pI_ne (fun e => hne e.symm), pI_ne (by omega), pI_at]
    by_cases he : u = t
    · rw [if_pos ⟨rfl, he⟩, he, h3.1 _ _ (by intro e; rcases e with e | e; exact hne e; exact hne2 e)]
    · rw [if_neg (fun e => he e.2)]; exact h1 u (by omega)
  · rw [pI_at, if_neg (fun e => hne2 ⟨e.1.symm, e.2.symm⟩), pI_eq]
  · skip
    refine ⟨fun b j hbj => ?_, fun b j hbj => h3.2.1 b j hbj, h3.2.2⟩
    rw [pI_at]
    by_cases he : b = (spt t).1 ∧ j = (spt t).2
    · rw [if_pos he, he.1, he.2]
      exact h3.1 _ _ (by intro e; rcases e with e | e; exact hne e; exact hne2 e)
    · rw [if_neg he, pI_at, if_neg (fun e => hbj (Or.inr e)), pI_at, if_neg (fun e => hbj (Or.inl e.1))]
      exact h3.1 b j hbj
theorem r_load (hi1 : 501 ≤ i1) (hN : 70000 ≤ N) : TT (f_195_7688 i1 N 1 P) (fun q => (∀ t, t < 7688 → q.1 (spt t).1 (spt t).2 = P.1 i1 t) ∧ fr (fun b j => (b = 76 ∧ j = 3) ∨ (b = 72 ∧ j = 30) ∨ b = 477 ∨ (480 ≤ b ∧ b < 500) ∨ (b = 72 ∧ j = 33)) P q) := by
  refine (r_putsAll (INV := fun t Q => (∀ u, u < t → u < 7688 → Q.1 (spt u).1 (spt u).2 = P.1 i1 u) ∧ Q.1 72 33 = iN t ∧ fr (fun b j => (b = 76 ∧ j = 3) ∨ (b = 72 ∧ j = 30) ∨ b = 477 ∨ (480 ≤ b ∧ b < 500) ∨ (b = 72 ∧ j = 33)) P Q) (fun t ht Q hi => ?_) ⟨fun u hu => absurd hu (Nat.not_lt_zero _), pI_eq, fr.I (Or.inr (Or.inr (Or.inr (Or.inr ⟨rfl, rfl⟩))))⟩ hN).mono (fun q hq => ⟨fun t ht => hq.1 t ht ht, hq.2.2⟩)
  obtain ⟨h1, h2, h3⟩ := hi
  have hb := spt_b ht
  have hin : ((spt t).1 = 76 ∧ (spt t).2 = 3) ∨ ((spt t).1 = 72 ∧ (spt t).2 = 30) ∨ (spt t).1 = 477 ∨ (480 ≤ (spt t).1 ∧ (spt t).1 < 500) ∨ ((spt t).1 = 72 ∧ (spt t).2 = 33) := by
    rcases hb with e | e | e | e
    · rw [e]; exact Or.inl ⟨rfl, rfl⟩
    · rw [e]; exact Or.inr (Or.inl ⟨rfl, rfl⟩)
    · exact Or.inr (Or.inr (Or.inl e))
    · exact Or.inr (Or.inr (Or.inr (Or.inl e)))
  have hne2 : ∀ u, u < 7688 → ¬ ((spt u).1 = 72 ∧ (spt u).2 = 33) := fun u hu => by
    rcases spt_b hu with e | e | e | e
    · rw [e]; decide
    · rw [e]; decide
    · omega
    · omega
  rw [puts1 (show i1 ≠ 72 by omega) h2 ht]
  have hv : Q.1 i1 t = P.1 i1 t := h3.1 _ _ (by omega)
  rw [hv]
  refine ⟨_, _, rfl, fun u hu hu2 => ?_, ?_, (h3.tr (fr.I (Or.inr (Or.inr (Or.inr (Or.inr ⟨rfl, rfl⟩)))))).tr (fr.I hin)⟩
  · rw [pI_at]
    by_cases he : u = t
    · subst he
      rw [if_pos ⟨rfl, rfl⟩]
    · rw [if_neg (fun e => he (spt_inj (Prod.ext e.1 e.2))), pI_at, if_neg (hne2 u hu2)]
      exact h1 u (by omega) hu2
  · rw [pI_at, if_neg (fun e => hne2 t ht ⟨e.1.symm, e.2.symm⟩), pI_eq]
end KP
/-- a row told by a function -/
def RLf (r : Nat → Int32) (L : LG) : Prop := L.2.1 ≤ 40 ∧ r 360 = iN L.2.1 ∧ r 361 = L.2.2.1 ∧ (∀ j, 1 ≤ j → j < 5 → r (361 + j) = L.2.2.2 j) ∧ ∀ f, f < 9 → ∀ k, k < L.2.1 → r (9 * k + f) = L.1 f k
theorem RLf_ext {r r' : Nat → Int32} {L : LG} (h : RLf r L) (e : ∀ j, j < 366 → r' j = r j) : RLf r' L := by
  have h40 := h.1
  refine ⟨h.1, ?_, ?_, fun j h1 h2 => ?_, fun f hf k hk => ?_⟩
  · rw [e _ (by omega)]; exact h.2.1
  · rw [e _ (by omega)]; exact h.2.2.1
  · rw [e _ (by omega)]; exact h.2.2.2.1 j h1 h2
  · rw [e _ (by omega)]; exact h.2.2.2.2 f hf k hk
def RHI (H : HS) (P : ab_P) : Prop := P.1 72 30 = iN H.1.1 ∧ P.1 72 32 = iN H.2.1 ∧ (∀ j, j < H.1.1 → RLf (P.1 (480 + j)) (H.1.2 j)) ∧ ∀ m, m < H.2.1 → P.1 (501 + m) 0 = (H.2.2 m).1 ∧ P.1 (501 + m) 1 = iN (H.2.2 m).2.1 ∧ RLf (fun j => P.1 (501 + m) (2 + j)) (H.2.2 m).2.2.1 ∧ ∀ r, r < (H.2.2 m).2.1 → RLf (fun j => P.1 (501 + m) (368 + 366 * r + j)) ((H.2.2 m).2.2.2 r)
theorem RHI_keep {H : HS} {P P' : ab_P} (h : RHI H P) (ok : H.1.1 ≤ 20 ∧ H.2.1 ≤ 3) (e : ∀ b j, (b = 72 ∧ (j = 30 ∨ j = 32)) ∨ (480 ≤ b ∧ b < 504) → P'.1 b j = P.1 b j) : RHI H P' := by
  obtain ⟨h1, h2, h3, h4⟩ := h
  refine ⟨by rw [e _ _ (by omega)]; exact h1, by rw [e _ _ (by omega)]; exact h2, fun j hj => RLf_ext (h3 j hj) (fun k _ => e _ _ (by omega)), fun m hm => ?_⟩
  obtain ⟨a1, a2, a3, a4⟩ := h4 m hm
  exact ⟨by rw [e _ _ (by omega)]; exact a1, by rw [e _ _ (by omega)]; exact a2, RLf_ext a3 (fun k _ => e _ _ (by omega)), fun r hr => RLf_ext (a4 r hr) (fun k _ => e _ _ (by omega))⟩
section RH
variable {P : ab_P} {L : LG} {H : HS} {N pe : Nat}
theorem r_image (h : RHI H P) (ok : okH pe H) (hL : RL 477 L P) {bi : Int32} (hb : P.1 76 3 = bi) (hn : H.2.1 < 3) (hN : 70000 ≤ N) : TT (f_195_7688 (500 + 1 + H.2.1) N 0 P) (fun q => RHI (hImage H bi L) (ab_pI q 72 32 (iN (H.2.1 + 1))) ∧ fr (fun b j => b = 501 + H.2.1 ∨ (b = 72 ∧ j = 33)) P q) := by
  obtain ⟨h1, h2, h3, h4⟩ := h
  have h20 := ok.1
  have e501 : 500 + 1 + H.2.1 = 501 + H.2.1 := by omega
  rw [e501]
  refine (r_save (i1 := 501 + H.2.1) (by omega) hN).mono (fun q hq => ⟨⟨?_, pI_eq, fun j hj => ?_, fun m hm => ?_⟩, hq.2⟩)
  · rw [pI_nj (by decide), hq.2.1 _ _ (by omega)]; exact h1
  · have hj' : j < H.1.1 := hj
    exact RLf_ext (h3 j hj) (fun k _ => by rw [pI_ne (by omega), hq.2.1 _ _ (by omega)])
  · have hm' : m < H.2.1 + 1 := hm
    show _ = (if m = H.2.1 then (bi, H.1.1, L, H.1.2) else H.2.2 m : IM).1 ∧ _ = iN (if m = H.2.1 then (bi, H.1.1, L, H.1.2) else H.2.2 m : IM).2.1 ∧ RLf _ (if m = H.2.1 then (bi, H.1.1, L, H.1.2) else H.2.2 m : IM).2.2.1 ∧ ∀ r, r < (if m = H.2.1 then (bi, H.1.1, L, H.1.2) else H.2.2 m : IM).2.1 → RLf _ ((if m = H.2.1 then (bi, H.1.1, L, H.1.2) else H.2.2 m : IM).2.2.2 r)
    by_cases he : m = H.2.1
    · rw [if_pos he, he]
      refine ⟨?_, ?_, RLf_ext hL (fun k hk => ?_), fun r hr => RLf_ext (h3 r hr) (fun k hk => ?_)⟩
      · rw [pI_ne (by omega), hq.1 0 (by decide)]; exact hb
      · rw [pI_ne (by omega), hq.1 1 (by decide)]; exact h1
      · rw [pI_ne (by omega), hq.1 (2 + k) (by omega), spt_n hk]
      · have hr' : r < H.1.1 := hr
        rw [pI_ne (by omega), hq.1 (368 + 366 * r + k) (by omega), spt_r hk]
    · rw [if_neg he]
      obtain ⟨a1, a2, a3, a4⟩ := h4 m (by omega)
      have kp : ∀ j, (ab_pI q 72 32 (iN (H.2.1 + 1))).1 (501 + m) j = P.1 (501 + m) j := fun j => by rw [pI_ne (by omega), hq.2.1 _ _ (by omega)]
      exact ⟨by rw [kp]; exact a1, by rw [kp]; exact a2, RLf_ext a3 (fun k _ => kp _), fun r hr => RLf_ext (a4 r hr) (fun k _ => kp _)⟩
theorem r_restore (h : RHI H P) (ok : okH pe H) (hn : 0 < H.2.1) (hN : 70000 ≤ N) : TT (f_195_7688 (500 + 1 + (H.2.1 - 1)) N 1 (ab_pI P 72 32 (iN (H.2.1 - 1)))) (fun q => RHI (hBack H) q ∧ RL 477 (H.2.2 (H.2.1 - 1)).2.2.1 q ∧ q.1 76 3 = (H.2.2 (H.2.1 - 1)).1 ∧ fr (fun b j => (b = 76 ∧ j = 3) ∨ (b = 72 ∧ (j = 30 ∨ j = 32)) ∨ b = 477 ∨ (480 ≤ b ∧ b < 500) ∨ (b = 72 ∧ j = 33)) P q) := by
  obtain ⟨h1, h2, h3, h4⟩ := h
  have h3' := ok.2.1
  obtain ⟨a1, a2, a3, a4⟩ := h4 (H.2.1 - 1) (by omega)
  have d20 := (ok.2.2.2 (H.2.1 - 1) (by omega)).1
  have e501 : 500 + 1 + (H.2.1 - 1) = 501 + (H.2.1 - 1) := by omega
  rw [e501]
  refine (r_load (i1 := 501 + (H.2.1 - 1)) (by omega) hN).mono (fun q hq => ?_)
  have kp : ∀ t, t < 7688 → q.1 (spt t).1 (spt t).2 = P.1 (501 + (H.2.1 - 1)) t := fun t ht => by rw [hq.1 t ht, pI_ne (by omega)]
  refine ⟨⟨?_, ?_, fun j hj => ?_, fun m hm => ?_⟩, ?_, ?_, ?_⟩
  · have := kp 1 (by decide)
    rw [spt_1] at this
    exact this.trans a2
  · rw [hq.2.1 72 32 (by omega), pI_eq]; rfl
  · refine RLf_ext (a4 j hj) (fun k hk => ?_)
    have hj' : j < (H.2.2 (H.2.1 - 1)).2.1 := hj
    have := kp (368 + 366 * j + k) (by omega)
    rw [spt_r hk] at this
    rw [show 480 + j = 479 + 1 + j by omega]
    exact this
  · have hm' : m < H.2.1 - 1 := hm
    obtain ⟨b1, b2, b3, b4⟩ := h4 m (by omega)
    have kq : ∀ j, q.1 (501 + m) j = P.1 (501 + m) j := fun j => by rw [hq.2.1 _ _ (by omega), pI_ne (by omega)]
    exact ⟨by rw [kq]; exact b1, by rw [kq]; exact b2, RLf_ext b3 (fun k _ => kq _), fun r hr => RLf_ext (b4 r hr) (fun k _ => kq _)⟩
  · refine RLf_ext a3 (fun k hk => ?_)
    have := kp (2 + k) (by omega)
    rw [spt_n hk] at this
    exact this
  · have := kp 0 (by decide)
    rw [spt_0] at this
    exact this.trans a1
  · exact (fr.I (Or.inr (Or.inl ⟨rfl, Or.inr rfl⟩))).tr (hq.2.mono (fun b j e => by omega))
end RH
