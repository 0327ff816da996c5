/-! paying: what the component finds, what the reference finds -/
def okP (L : LG) (a b : Int32) (k : Nat) : Bool := stL L k && decide (L.1 1 k = a) && !decide (L.1 0 k = b)
def szP (L : LG) (k : Nat) : Nat := (L.1 2 k).toNatClampNeg
theorem WF.sz {pe : Nat} {L : LG} {k : Nat} (h : WF pe L) (hk : k < L.2.1) : L.1 2 k = iN (szP L k) ∧ 1 ≤ szP L k ∧ szP L k ≤ 9999 := by
  obtain ⟨z, z1, z2, z3⟩ := (h.2 k hk).2.2.1
  unfold szP
  rw [z3, iN_nat (by omega)]
  exact ⟨rfl, z1, z2⟩
def pFW (L : LG) (a b : Int32) (d s : Nat) : Option (Nat × Nat) := FW (okP L a b) (szP L) L.2.1 d s
def sPay (L : LG) (a b : Int32) (n : Nat) : Nat := match pFW L a b L.2.1 n with
  | none => 0
  | some (_, x) => x
theorem pFW_s {L : LG} {a b : Int32} {d s : Nat} : pFW L a b (d + 1) s = if okP L a b (L.2.1 - (d + 1)) = true ∧ szP L (L.2.1 - (d + 1)) ≤ s then cmb (L.2.1 - (d + 1)) (pFW L a b d (s - szP L (L.2.1 - (d + 1)))) (pFW L a b d s) else pFW L a b d s := rfl
theorem pFW_bd {L : LG} {a b : Int32} {d s : Nat} (hm : L.2.1 ≤ 40) (hd : d ≤ L.2.1) {c x : Nat} (h : pFW L a b d s = some (c, x)) : c ≤ 40 ∧ x + 2 ^ (L.2.1 - d) ≤ 1099511627776 := by
  have h1 := FW_bd hd h
  have : 2 ^ L.2.1 ≤ 2 ^ 40 := Nat.pow_le_pow_right (by decide) hm
  have h2 := Nat.two_pow_pos (L.2.1 - d)
  omega
section PAY
variable {W : WO} {P : ab_P} {N n0 k : Nat} {a b : Int32}
theorem c_fill (hn : n0 < 1000) (hN : 70000 ≤ N) : TT (f_299_1000 N 0 (iN n0 + 1) (-1) P) (fun q => (∀ s, s ≤ n0 → q.2.1 51 s = -1) ∧ fr (fun b _ => b = 51) P q) := by
  unfold f_299_1000 f_308
  rw [iN_succ, if_neg (by rw [iN_neg (by omega)]; exact id), if_neg (by decide), if_neg (by rw [iN_lll (by omega) (by decide)]; exact (by omega : ¬ 1000 < n0 + 1)), Option.bind_some]
  refine upT (fun n k (s : ab_P) => f_299_1000_10 n (iN (n0 + 1)) (-1) (iN k) s) (n0 + 1) (fun k q => (∀ s, s < k → q.2.1 51 s = -1) ∧ fr (fun b _ => b = 51) P q) _ (fun n k P1 hk hi => ?_) (fun n P1 hi => ?_) N P ⟨fun s hs => absurd hs (Nat.not_lt_zero _), fr.rf⟩ (by omega)
  · obtain ⟨e1, e2⟩ := hi
    show ∃ s', f_299_1000_10 (n + 1) (iN (n0 + 1)) (-1) (iN k) P1 = _ ∧ _
    simp only [f_299_1000_10, iN_lt (show k < 2147483648 by omega) (show n0 + 1 < 2147483648 by omega), hk, iN_gT (show k < 1000 by omega) (show 1000 ≤ 2147483648 by decide), iN_nat (show k < 2147483648 by omega), iN_succ, ab_lt, ↓reduceIte]
    refine ⟨_, rfl, fun s hs => ?_, e2.tr (fr.L rfl)⟩
    show ab_upL P1.2.1 51 _ _ 51 s = _
    rw [uL_at]
    split
    · rfl
    · exact e1 s (by omega)
  · obtain ⟨e1, e2⟩ := hi
    simp only [f_299_1000_10, iN_lt (show n0 + 1 < 2147483648 by omega) (show n0 + 1 < 2147483648 by omega), Nat.lt_irrefl, ↓reduceIte]
    exact TT_some ⟨fun s hs => e1 s (by omega), e2⟩
theorem s51 : ∀ b j : Nat, b = 51 → scC b j := fun b j h => by unfold scC; omega
theorem c_fewestF (h : CW W P) (ok : OK W) (h1 : 1 ≤ n0) (hn : n0 < 1000) (hN : 70000 ≤ N) : TT (f_244 N a b (iN n0) P) (fun q => q.1 = jN (sPay W.L a b n0) ∧ fr (fun b _ => b = 51) P q.2) := by
  have h40 := h.c.m40
  unfold f_244
  rw [if_neg (by rw [iN_ltl (by omega) (by decide)]; exact (by omega : ¬ n0 < 1)), if_pos (by rw [iN_ltl (by omega) (by decide)]; exact hn)]
  refine TT_bind (c_fill hn hN) (fun P1 hf => TT_lt ?_)
  have hf2 : fr (fun b _ => b = 51) P (ab_pL P1 51 0 0) := hf.2.tr (fr.L rfl)
  have hm : (ab_pL P1 51 0 0).1 43 2 = iN W.L.2.1 := (h.fr (hf2.mono s51)).c.made
  rw [hm]
  refine upT (fun n d (s : ab_P) => f_244_48 N n a b (iN n0) (iN (W.L.2.1 - d) - 1) s) W.L.2.1 (fun d q => (∀ s, s ≤ n0 → q.2.1 51 s = enc (pFW W.L a b d s)) ∧ fr (fun b _ => b = 51) P q) _ (fun n d P2 hd hi => ?_) (fun n P2 hi => ?_) N (ab_pL P1 51 0 0) ⟨fun s hs => ?_, hf2⟩ (by omega)
  · obtain ⟨e1, e2⟩ := hi
    have g := h.fr (e2.mono s51)
    have hk : W.L.2.1 - (d + 1) < W.L.2.1 := by omega
    have hx : iN (W.L.2.1 - d) - 1 = iN (W.L.2.1 - (d + 1)) := by
      rw [iN_lit 1, iN_sub (by omega), Nat.sub_sub]
    have hx2 : iN (W.L.2.1 - (d + 1)) + (-1) = iN (W.L.2.1 - (d + 1)) - 1 := i_m1 _
    obtain ⟨z1, z2, z3⟩ := ok.1.sz hk
    show ∃ s', f_244_48 N (n + 1) a b (iN n0) (iN (W.L.2.1 - d) - 1) P2 = _ ∧ _
    rw [hx]
    simp only [f_244_48, iN_neg (show W.L.2.1 - (d + 1) < 2147483648 by omega), c_stand g.c (show W.L.2.1 - (d + 1) < 2147483648 by omega), c_get0 g.c hk, c_get1 g.c hk, c_get2 g.c hk, bI_0, Option.bind_some, hx2, ↓reduceIte]
    have stay : okP W.L a b (W.L.2.1 - (d + 1)) = false → (∀ s, s ≤ n0 → P2.2.1 51 s = enc (pFW W.L a b (d + 1) s)) := fun ho s hs => by
      rw [pFW_s, ho, if_neg (by simp)]
      exact e1 s hs
    by_cases hs : stL W.L (W.L.2.1 - (d + 1)) = false
    · rw [if_pos hs]
      exact ⟨_, rfl, stay (by simp [okP, hs]), e2⟩
    · rw [if_neg hs]
      have hs : stL W.L (W.L.2.1 - (d + 1)) = true := by simpa using hs
      by_cases ha : W.L.1 1 (W.L.2.1 - (d + 1)) = a
      · rw [if_pos ha]
        by_cases hb : W.L.1 0 (W.L.2.1 - (d + 1)) = b
        · rw [if_pos hb]
          exact ⟨_, rfl, stay (by simp [okP, hb]), e2⟩
        · rw [if_neg hb, z1]
          obtain ⟨P3, k1, k2, k3⟩ := c_choice (G := pFW W.L a b d) (P := P2) (k := W.L.2.1 - (d + 1)) (z := szP W.L (W.L.2.1 - (d + 1))) hn z2 z3 (by omega) (fun s hs c x e => by
            have e0 := pFW_bd h40 (by omega) e
            have e3 := pow_step (m := W.L.2.1) (d := d) (by omega)
            have e4 := Nat.two_pow_pos (W.L.2.1 - (d + 1))
            omega) e1 hN
          rw [k1, Option.bind_some]
          refine ⟨P3, rfl, fun s hs => ?_, e2.tr k3⟩
          rw [k2 s hs, pFW_s]
          have ho : okP W.L a b (W.L.2.1 - (d + 1)) = true := by simp [okP, *]
          rw [ho]
          simp
      · rw [if_neg ha]
        exact ⟨_, rfl, stay (by simp [okP, ha]), e2⟩
  · obtain ⟨e1, e2⟩ := hi
    simp only [f_244_48, Nat.sub_self, show iN 0 - 1 < 0 by decide, ↓reduceIte, iN_gT (show n0 < 1000 by omega) (show 1000 ≤ 2147483648 by decide), iN_nat (show n0 < 2147483648 by omega), e1 n0 (Nat.le_refl _)]
    unfold sPay
    rcases hA : pFW W.L a b W.L.2.1 n0 with _ | ⟨c, x⟩
    · rw [if_pos enc_none]
      exact TT_some ⟨rfl, e2⟩
    · have hb := pFW_bd h40 (Nat.le_refl _) hA
      have hp := Nat.two_pow_pos (W.L.2.1 - W.L.2.1)
      rw [if_neg (by
        show ¬ lg_cmp (jN _) 0 < 0
        rw [lcmp_neg (by omega)]
        exact id)]
      exact TT_some ⟨enc_and (by omega), e2⟩
  · show ab_upL P1.2.1 51 _ _ 51 s = enc (if s = 0 then some (0, 0) else none)
    rw [uL_at]
    by_cases h0 : s = 0
    · rw [if_pos ⟨rfl, h0⟩, if_pos h0]; rfl
    · rw [if_neg (fun e => h0 e.2), if_neg h0, hf.1 s hs]; rfl
theorem c_fewest (h : CW W P) (ok : OK W) (h1 : 1 ≤ n0) (hn : n0 < 1000) (hN : 70000 ≤ N) : TT (f_244 N a b (iN n0) P) (fun q => q.1 = jN (sPay W.L a b n0) ∧ fr scC P q.2) :=
  (c_fewestF h ok h1 hn hN).mono (fun _ e => ⟨e.1, e.2.mono s51⟩)
/-! the reference -/
def sFw (b : Nat) (_ : Nat) : Prop := 504 ≤ b ∧ b ≤ 545
theorem sFw_R : ∀ b j, sFw b j → scR b j := fun b j h => by
  unfold sFw at h
  unfold scR
  omega
theorem r_may (h : RL 477 W.L P) (hk : k < 2147483648) : f_245_366 477 P (iN k) a b = some (bI (okP W.L a b k)) := by
  have h40 := h.m40
  unfold f_245_366
  simp only [r_stand h hk, Option.bind_some, bI_0]
  by_cases hs : stL W.L k = false
  · rw [if_pos hs]; simp [okP, hs, bI]
  · rw [if_neg hs]
    have hs : stL W.L k = true := by simpa using hs
    have hl := stL_lt hs
    rw [r_of1 h hl, Option.bind_some]
    by_cases ha : W.L.1 1 k = a
    · rw [if_pos ha, r_of0 h hl, Option.bind_some]
      by_cases hb : W.L.1 0 k = b <;> simp [okP, hs, ha, hb, bI]
    · rw [if_neg ha]; simp [okP, ha, bI]
def encR (o : Option (Nat × Nat)) : Int32 := match o with
  | none => -1
  | some (c, _) => iN c
def RF (L : LG) (a b : Int32) (n0 d : Nat) (P : ab_P) : Prop := ∀ k, L.2.1 - d ≤ k → k ≤ L.2.1 → ∀ s, s ≤ n0 → P.1 (504 + 1 + k) s = encR (pFW L a b (L.2.1 - k) s)
theorem r_row {Q : Int64 × ab_P → Prop} {H : Int32 → Int32 → Int32 → Int32 → Int32 → ab_P → Option (Int64 × ab_P)} {d : Nat} (h : RW W P) (ok : OK W) (hn : n0 < 1000) (hd : d < W.L.2.1) (hF : RF W.L a b n0 d P) (hN : 70000 ≤ N) (hH : ∀ P', RF W.L a b n0 (d + 1) P' → fr sFw P P' → TT (H a b (iN n0) (iN W.L.2.1) (iN (W.L.2.1 - (d + 1)) - 1) P') Q) : TT (f_152_366_57 477 H N a b (iN n0) (iN W.L.2.1) (iN (W.L.2.1 - (d + 1))) 0 P) Q := by
  have h40 := h.r.m40
  have hk : W.L.2.1 - (d + 1) < W.L.2.1 := by omega
  refine upT (fun n s (q : ab_P) => f_152_366_57 477 H n a b (iN n0) (iN W.L.2.1) (iN (W.L.2.1 - (d + 1))) (iN s) q) (n0 + 1) (fun s q => RF W.L a b n0 d q ∧ (∀ t, t < s → q.1 (504 + 1 + (W.L.2.1 - (d + 1))) t = encR (pFW W.L a b (d + 1) t)) ∧ fr sFw P q) _ (fun n s P1 hs hi => ?_) (fun n P1 hi => ?_) N P ⟨hF, fun t ht => absurd ht (Nat.not_lt_zero _), fr.rf⟩ (by omega)
  · obtain ⟨e1, e2, e3⟩ := hi
    have g := h.fr ok (e3.mono sFw_R)
    obtain ⟨z1, z2, z3⟩ := ok.1.sz hk
    have hk1 : iN (W.L.2.1 - (d + 1)) + 1 = iN (W.L.2.1 - d) := by
      rw [iN_succ]; congr 1; omega
    have hsk : P1.1 (504 + 1 + (W.L.2.1 - d)) s = encR (pFW W.L a b d s) := by
      rw [e1 _ (by omega) (by omega) s (by omega)]
      congr 2; omega
    have wr : ∀ v, v = encR (pFW W.L a b (d + 1) s) → RF W.L a b n0 d (ab_pI P1 (504 + 1 + (W.L.2.1 - (d + 1))) s v) ∧ (∀ t, t < s + 1 → (ab_pI P1 (504 + 1 + (W.L.2.1 - (d + 1))) s v).1 (504 + 1 + (W.L.2.1 - (d + 1))) t = encR (pFW W.L a b (d + 1) t)) ∧ fr sFw P (ab_pI P1 (504 + 1 + (W.L.2.1 - (d + 1))) s v) := fun v hv => by
      refine ⟨fun k' h1 h2 s' h3 => ?_, fun t ht => ?_, e3.tr (fr.I (by unfold sFw; omega))⟩
      · rw [pI_ne (by omega)]
        exact e1 k' h1 h2 s' h3
      · rw [pI_at]
        split
        · rename_i hh; rw [hh.2]; exact hv
        · exact e2 t (by omega)
    show ∃ s', f_152_366_57 477 H (n + 1) a b (iN n0) (iN W.L.2.1) (iN (W.L.2.1 - (d + 1))) (iN s) P1 = _ ∧ _
    simp only [f_152_366_57, f_152_366_125, iN_lt (show n0 < 2147483648 by omega) (show s < 2147483648 by omega), show ¬ n0 < s by omega, hk1, iN_gT (show W.L.2.1 - d < 41 by omega) (show 41 ≤ 2147483648 by decide), iN_gT (show W.L.2.1 - (d + 1) < 41 by omega) (show 41 ≤ 2147483648 by decide), iN_gT (show s < 1000 by omega) (show 1000 ≤ 2147483648 by decide), iN_nat (show W.L.2.1 - d < 2147483648 by omega), iN_nat (show W.L.2.1 - (d + 1) < 2147483648 by omega), iN_nat (show s < 2147483648 by omega), r_may g.r (show W.L.2.1 - (d + 1) < 2147483648 by omega), r_of2 g.r hk, hsk, bI_0, Option.bind_some, iN_succ, ab_lt, ↓reduceIte, z1, iN_lt (show s < 2147483648 by omega) (show szP W.L (W.L.2.1 - (d + 1)) < 2147483648 by omega)]
    by_cases ho : okP W.L a b (W.L.2.1 - (d + 1)) = false
    · rw [if_pos ho]
      refine ⟨_, rfl, wr _ ?_⟩
      rw [pFW_s, ho, if_neg (by simp)]
    · rw [if_neg ho]
      have ho : okP W.L a b (W.L.2.1 - (d + 1)) = true := by simpa using ho
      by_cases hz : s < szP W.L (W.L.2.1 - (d + 1))
      · rw [if_pos hz]
        refine ⟨_, rfl, wr _ ?_⟩
        rw [pFW_s, if_neg (by omega)]
      · rw [if_neg hz]
        have hsub : iN s - iN (szP W.L (W.L.2.1 - (d + 1))) = iN (s - szP W.L (W.L.2.1 - (d + 1))) := iN_sub (by omega)
        have htk : P1.1 (504 + 1 + (W.L.2.1 - d)) (s - szP W.L (W.L.2.1 - (d + 1))) = encR (pFW W.L a b d (s - szP W.L (W.L.2.1 - (d + 1)))) := by
          rw [e1 _ (by omega) (by omega) _ (by omega)]
          congr 2; omega
        simp only [hsub, iN_gT (show s - szP W.L (W.L.2.1 - (d + 1)) < 1000 by omega) (show 1000 ≤ 2147483648 by decide), iN_nat (show s - szP W.L (W.L.2.1 - (d + 1)) < 2147483648 by omega), htk, ↓reduceIte]
        have hu : pFW W.L a b (d + 1) s = cmb (W.L.2.1 - (d + 1)) (pFW W.L a b d (s - szP W.L (W.L.2.1 - (d + 1)))) (pFW W.L a b d s) := by
          rw [pFW_s, if_pos ⟨ho, by omega⟩]
        rcases hA : pFW W.L a b d (s - szP W.L (W.L.2.1 - (d + 1))) with _ | ⟨c, x⟩
        · rw [if_pos (by rfl)]
          refine ⟨_, rfl, wr _ ?_⟩
          rw [hu, hA]; rfl
        · have hb := pFW_bd h40 (by omega) hA
          rw [if_neg (by show ¬ iN c = -1; rw [iN_nm1 (by omega)]; exact id)]
          rcases hB : pFW W.L a b d s with _ | ⟨c', x'⟩
          · rw [if_pos (by rfl)]
            refine ⟨_, rfl, wr _ ?_⟩
            rw [hu, hA, hB]
            show iN c + 1 = iN (c + 1)
            rw [iN_succ]
          · have hb' := pFW_bd h40 (by omega) hB
            rw [if_neg (by show ¬ iN c' = -1; rw [iN_nm1 (by omega)]; exact id)]
            show ∃ s', (if iN c + 1 < iN c' then _ else _) = _ ∧ _
            by_cases hc : c + 1 < c'
            · rw [if_pos (by rw [iN_succ, iN_lt (by omega) (by omega)]; exact hc)]
              refine ⟨_, rfl, wr _ ?_⟩
              rw [hu, hA, hB]
              show iN c + 1 = encR (if c + 1 ≤ c' then _ else _)
              rw [if_pos (by omega), iN_succ]; rfl
            · rw [if_neg (by rw [iN_succ, iN_lt (by omega) (by omega)]; exact hc)]
              refine ⟨_, rfl, wr _ ?_⟩
              rw [hu, hA, hB]
              show iN c' = encR (if c + 1 ≤ c' then _ else _)
              by_cases hc2 : c + 1 ≤ c'
              · rw [if_pos hc2]
                show iN c' = iN (c + 1)
                congr 1; omega
              · rw [if_neg hc2]; rfl
  · obtain ⟨e1, e2, e3⟩ := hi
    simp only [f_152_366_57, iN_lt (show n0 < 2147483648 by omega) (show n0 + 1 < 2147483648 by omega), show n0 < n0 + 1 by omega, ↓reduceIte, i_m1]
    refine hH P1 (fun k' h1 h2 s hs => ?_) e3
    by_cases hk' : k' = W.L.2.1 - (d + 1)
    · subst hk'
      rw [e2 s (by omega)]
      congr 2; omega
    · exact e1 k' (by omega) h2 s hs
/-- which claims the last d take, for s -/
def bitsF (o : Option (Nat × Nat)) : Nat := match o with
  | none => 0
  | some (_, x) => x
theorem r_greedy (h : RW W P) (ok : OK W) (hn : n0 < 1000) (hF : RF W.L a b n0 W.L.2.1 P) (hN : 70000 ≤ N) : TT (f_152_366_194 477 N a b (iN n0) (iN W.L.2.1) 0 (iN n0) 0 P) (fun q => q.1 = jN (sPay W.L a b n0) ∧ fr sFw P q.2) := by
  have h40 := h.r.m40
  rcases hZ : pFW W.L a b W.L.2.1 n0 with _ | ⟨cZ, xZ⟩
  · -- it can't be paid
    obtain ⟨n, rfl⟩ : ∃ n, N = n + 1 := ⟨N - 1, by omega⟩
    unfold f_152_366_194 sPay
    rw [hZ]
    by_cases hm : 0 < W.L.2.1
    · have r0 : P.1 505 n0 = encR none := by
        have := hF 0 (by omega) (by omega) n0 (Nat.le_refl _)
        rw [Nat.sub_zero, hZ] at this
        exact this
      rw [if_pos (by rw [show (0 : Int32) = iN 0 from rfl, iN_lt (by omega) (by omega)]; exact hm), if_pos (iN_gi (by omega) (by omega)), if_pos (show P.1 505 (iN n0).toNatClampNeg = -1 by rw [iN_nat (by omega), r0]; rfl)]
      exact TT_some ⟨rfl, fr.rf⟩
    · rw [if_neg (by rw [show (0 : Int32) = iN 0 from rfl, iN_lt (by omega) (by omega)]; exact hm)]
      exact TT_some ⟨rfl, fr.rf⟩
  · have hsp : sPay W.L a b n0 = xZ := by unfold sPay; rw [hZ]
    rw [hsp]
    have hbZ := pFW_bd h40 (Nat.le_refl _) hZ
    refine upT (fun n k (s : Nat × Nat) => f_152_366_194 477 n a b (iN n0) (iN W.L.2.1) (jN s.1) (iN s.2) (iN k) P) W.L.2.1 (fun k s => s.1 < 2 ^ k ∧ s.2 ≤ n0 ∧ ∃ c x, pFW W.L a b (W.L.2.1 - k) s.2 = some (c, x) ∧ s.1 + x = xZ) _ (fun n k s hk hi => ?_) (fun n s hi => ?_) N (0, n0) ⟨by show (0 : Nat) < 1; decide, Nat.le_refl _, cZ, xZ, hZ, by omega⟩ (by omega)
    · obtain ⟨acc, left⟩ := s
      obtain ⟨i1, i2, c, x, i3, i4⟩ := hi
      dsimp only at i1 i2 i3 i4
      have hd : W.L.2.1 - k = (W.L.2.1 - (k + 1)) + 1 := by omega
      have hkk : W.L.2.1 - ((W.L.2.1 - (k + 1)) + 1) = k := by omega
      obtain ⟨z1, z2, z3⟩ := ok.1.sz hk
      have hbc := pFW_bd h40 (by omega) i3
      have hpk : 2 ^ k < 9223372036854775808 := by
        have : 2 ^ k < 2 ^ 40 := Nat.pow_lt_pow_right (by decide) (by omega)
        omega
      have hp1 : 2 ^ (k + 1) = 2 ^ k + 2 ^ k := by rw [Nat.pow_succ]; omega
      have hp0 := Nat.two_pow_pos k
      have r0 : ¬ P.1 505 n0 = -1 := by
        have := hF 0 (by omega) (by omega) n0 (Nat.le_refl _)
        rw [Nat.sub_zero, hZ] at this
        rw [show P.1 505 n0 = encR (some (cZ, xZ)) from this]
        show ¬ iN cZ = -1
        rw [iN_nm1 (by omega)]
        exact id
      have rk : P.1 (504 + 1 + k) left = iN c := by
        rw [hF k (by omega) (by omega) left i2, i3]; rfl
      have hstay : (pFW W.L a b (W.L.2.1 - k) left = pFW W.L a b (W.L.2.1 - (k + 1)) left) → ((acc, left).1 < 2 ^ (k + 1) ∧ (acc, left).2 ≤ n0 ∧ ∃ c x, pFW W.L a b (W.L.2.1 - (k + 1)) (acc, left).2 = some (c, x) ∧ (acc, left).1 + x = xZ) := fun e => ⟨by show acc < _; omega, i2, c, x, by rw [← e]; exact i3, i4⟩
      show ∃ s', f_152_366_194 477 (n + 1) a b (iN n0) (iN W.L.2.1) (jN acc) (iN left) (iN k) P = _ ∧ _
      simp only [f_152_366_194, iN_lt (show k < 2147483648 by omega) (show W.L.2.1 < 2147483648 by omega), hk, iN_gT (show n0 < 1000 by omega) (show 1000 ≤ 2147483648 by decide), iN_nat (show n0 < 2147483648 by omega), r0, r_may h.r (show k < 2147483648 by omega), bI_0, r_of2 h.r hk, Option.bind_some, z1, iN_lt (show left < 2147483648 by omega) (show szP W.L k < 2147483648 by omega), iN_succ, ↓reduceIte]
      have hu := pFW_s (L := W.L) (a := a) (b := b) (d := W.L.2.1 - (k + 1)) (s := left)
      rw [← hd, show W.L.2.1 - (W.L.2.1 - k) = k by omega] at hu
      by_cases ho : okP W.L a b k = false
      · rw [if_pos ho]
        exact ⟨(acc, left), rfl, hstay (by rw [hu, if_neg (by simp [ho])])⟩
      · rw [if_neg ho]
        have ho : okP W.L a b k = true := by simpa using ho
        by_cases hz : left < szP W.L k
        · rw [if_pos hz]
          exact ⟨(acc, left), rfl, hstay (by rw [hu, if_neg (by omega)])⟩
        · rw [if_neg hz]
          rw [if_pos (⟨ho, by omega⟩ : _ ∧ _)] at hu
          have hsub : iN left - iN (szP W.L k) = iN (left - szP W.L k) := iN_sub (by omega)
          have rr : P.1 (504 + 1 + (k + 1)) (left - szP W.L k) = encR (pFW W.L a b (W.L.2.1 - (k + 1)) (left - szP W.L k)) := hF (k + 1) (by omega) (by omega) _ (by omega)
          simp only [hsub, iN_gT (show left - szP W.L k < 1000 by omega) (show 1000 ≤ 2147483648 by decide), iN_gT (show k + 1 < 41 by omega) (show 41 ≤ 2147483648 by decide), iN_gT (show k < 41 by omega) (show 41 ≤ 2147483648 by decide), iN_gT (show left < 1000 by omega) (show 1000 ≤ 2147483648 by decide), iN_nat (show k + 1 < 2147483648 by omega), iN_nat (show k < 2147483648 by omega), iN_nat (show left < 2147483648 by omega), iN_nat (show left - szP W.L k < 2147483648 by omega), rr, rk, ↓reduceIte]
          rcases hA : pFW W.L a b (W.L.2.1 - (k + 1)) (left - szP W.L k) with _ | ⟨c1, x1⟩
          · rw [if_pos (by rfl)]
            exact ⟨(acc, left), rfl, hstay (by rw [hu, hA]; rfl)⟩
          · have hb1 := pFW_bd h40 (by omega) hA
            have hp2 := Nat.two_pow_pos (W.L.2.1 - (W.L.2.1 - (k + 1)))
            rw [if_neg (by show ¬ iN c1 = -1; rw [iN_nm1 (by omega)]; exact id)]
            show ∃ s', (if iN c1 + 1 = iN c then _ else _) = _ ∧ _
            rw [hu, hA] at i3
            by_cases hc : c1 + 1 = c
            · rw [if_pos (by rw [iN_succ, hc])]
              have hx : x = x1 + 2 ^ k := by
                unfold cmb at i3
                dsimp only at i3
                split at i3
                · cases i3; rfl
                · split at i3
                  · cases i3; rfl
                  · cases i3; omega
              rw [jN_one k (by omega), jN_or, or_pow i1]
              exact ⟨(acc + 2 ^ k, left - szP W.L k), rfl, by show acc + 2 ^ k < _; omega, by show left - _ ≤ _; omega, c1, x1, hA, by show acc + 2 ^ k + x1 = _; omega⟩
            · rw [if_neg (by rw [iN_succ, iN_eq (by omega) (by omega)]; exact hc)]
              refine ⟨(acc, left), rfl, hstay ?_⟩
              rw [hu, hA]
              rcases cmb_cases k (some (c1, x1)) (pFW W.L a b (W.L.2.1 - (k + 1)) left) with e | ⟨c2, x2, e1, e2⟩
              · exact e
              · cases e1
                rw [e2] at i3
                cases i3
                exact absurd rfl hc
    · obtain ⟨acc, left⟩ := s
      obtain ⟨i1, i2, c, x, i3, i4⟩ := hi
      dsimp only at i1 i2 i3 i4
      simp only [f_152_366_194, iN_lt (show W.L.2.1 < 2147483648 by omega) (show W.L.2.1 < 2147483648 by omega), Nat.lt_irrefl, ↓reduceIte]
      rw [Nat.sub_self] at i3
      have hx : x = 0 := by
        unfold pFW FW at i3
        split at i3
        · cases i3; rfl
        · cases i3
      exact TT_some ⟨by show jN acc = _; congr 1; omega, fr.rf⟩
theorem r_fewestF (h : RW W P) (ok : OK W) (hn : n0 < 1000) (hN : 70000 ≤ N) : TT (f_152_366 477 N a b (iN n0) P) (fun q => q.1 = jN (sPay W.L a b n0) ∧ fr sFw P q.2) := by
  have h40 := h.r.m40
  unfold f_152_366
  rw [h.r.made]
  -- the last row
  refine upT (fun n s (q : ab_P) => f_152_366_10 477 N n a b (iN n0) (iN W.L.2.1) (iN s) q) (n0 + 1) (fun s q => (∀ t, t < s → q.1 (504 + 1 + W.L.2.1) t = encR (pFW W.L a b 0 t)) ∧ fr sFw P q) _ (fun n s P1 hs hi => ?_) (fun n P1 hi => ?_) N P ⟨fun t ht => absurd ht (Nat.not_lt_zero _), fr.rf⟩ (by omega)
  · obtain ⟨e1, e2⟩ := hi
    show ∃ s', f_152_366_10 477 N (n + 1) a b (iN n0) (iN W.L.2.1) (iN s) P1 = _ ∧ _
    simp only [f_152_366_10, iN_lt (show n0 < 2147483648 by omega) (show s < 2147483648 by omega), show ¬ n0 < s by omega, iN_gT (show W.L.2.1 < 41 by omega) (show 41 ≤ 2147483648 by decide), iN_gT (show s < 1000 by omega) (show 1000 ≤ 2147483648 by decide), iN_nat (show W.L.2.1 < 2147483648 by omega), iN_nat (show s < 2147483648 by omega), iN_eql (show s < 2147483648 by omega) (show 0 < 2147483648 by decide), iN_succ, ab_lt, ↓reduceIte]
    have wr : ∀ v, v = encR (pFW W.L a b 0 s) → (∀ t, t < s + 1 → (ab_pI P1 (504 + 1 + W.L.2.1) s v).1 (504 + 1 + W.L.2.1) t = encR (pFW W.L a b 0 t)) ∧ fr sFw P (ab_pI P1 (504 + 1 + W.L.2.1) s v) := fun v hv => by
      refine ⟨fun t ht => ?_, e2.tr (fr.I (by unfold sFw; omega))⟩
      rw [pI_at]
      split
      · rename_i hh; rw [hh.2]; exact hv
      · exact e1 t (by omega)
    by_cases h0 : s = 0
    · rw [if_pos h0]
      refine ⟨_, rfl, wr _ ?_⟩
      subst h0; rfl
    · rw [if_neg h0]
      refine ⟨_, rfl, wr _ ?_⟩
      show _ = encR (if s = 0 then _ else _)
      rw [if_neg h0]; rfl
  · obtain ⟨e1, e2⟩ := hi
    simp only [f_152_366_10, iN_lt (show n0 < 2147483648 by omega) (show n0 + 1 < 2147483648 by omega), show n0 < n0 + 1 by omega, ↓reduceIte]
    -- row after row
    have hs0 : RF W.L a b n0 0 P1 := fun k' h1 h2 s hs => by
      have : k' = W.L.2.1 := by omega
      subst this
      rw [e1 s (by omega), Nat.sub_self]
    have key : ∀ c d n P2, d + c = W.L.2.1 → c < n → RF W.L a b n0 d P2 → fr sFw P P2 → TT (f_152_366_49 477 N n a b (iN n0) (iN W.L.2.1) (iN (W.L.2.1 - d) - 1) P2) (fun q => q.1 = jN (sPay W.L a b n0) ∧ fr sFw P q.2) := by
      intro c
      induction c with
      | zero =>
        intro d n P2 hd hn2 hF hf
        obtain ⟨n, rfl⟩ : ∃ z, n = z + 1 := ⟨n - 1, by omega⟩
        have : d = W.L.2.1 := by omega
        subst this
        unfold f_152_366_49
        rw [Nat.sub_self, if_pos (by decide)]
        exact (r_greedy (h.fr ok (hf.mono sFw_R)) ok hn hF hN).mono (fun q hq => ⟨hq.1, hf.tr hq.2⟩)
      | succ c ih =>
        intro d n P2 hd hn2 hF hf
        obtain ⟨n, rfl⟩ : ∃ z, n = z + 1 := ⟨n - 1, by omega⟩
        have hx : iN (W.L.2.1 - d) - 1 = iN (W.L.2.1 - (d + 1)) := by
          rw [iN_lit 1, iN_sub (by omega), Nat.sub_sub]
        unfold f_152_366_49
        rw [hx, if_neg (by rw [iN_neg (by omega)]; exact id)]
        exact r_row (h.fr ok (hf.mono sFw_R)) ok hn (by omega) hF hN (fun P' h1 h2 => ih (d + 1) n P' (by omega) (by omega) h1 (hf.tr h2))
    have := key W.L.2.1 0 N P1 (by omega) (by omega) hs0 e2
    rw [Nat.sub_zero] at this
    exact this
theorem r_fewest (h : RW W P) (ok : OK W) (hn : n0 < 1000) (hN : 70000 ≤ N) : TT (f_152_366 477 N a b (iN n0) P) (fun q => q.1 = jN (sPay W.L a b n0) ∧ fr scR P q.2) :=
  (r_fewestF h ok hn hN).mono (fun _ e => ⟨e.1, e.2.mono sFw_R⟩)
end PAY
