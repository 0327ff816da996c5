/-! calls: a text is brought -/
def bYt (x : Int32) : Nat := x.toBitVec.toNat % 256
theorem bYt_lt (x : Int32) : bYt x < 256 := Nat.mod_lt _ (by decide)
theorem bYt_and (x : Int32) : iN (bYt x) = x &&& (255 : Int32) := by
  apply Int32.toBitVec_inj.mp
  rw [Int32.toBitVec_and]
  apply BitVec.eq_of_toNat_eq
  rw [BitVec.toNat_and]
  show (iN (bYt x)).toBitVec.toNat = x.toBitVec.toNat &&& (2 ^ 8 - 1)
  rw [Nat.and_two_pow_sub_one_eq_mod]
  unfold iN bYt
  show (BitVec.ofInt 32 (x.toBitVec.toNat % 256 : Nat)).toNat = _
  rw [BitVec.toNat_ofInt]
  have := Nat.mod_lt x.toBitVec.toNat (show 256 > 0 by decide)
  omega
theorem low8 (y : Int32) : y.toInt8.toInt32 &&& (255 : Int32) = y &&& (255 : Int32) := by
  apply Int32.toBitVec_inj.mp
  rw [Int32.toBitVec_and, Int32.toBitVec_and, Int8.toBitVec_toInt32, Int32.toBitVec_toInt8]
  apply BitVec.eq_of_getElem_eq
  intro i hi
  by_cases h8 : i < 8
  · simp [BitVec.getElem_signExtend, h8, hi]
  · have : (255#32)[i]'hi = false := by
      rw [← BitVec.getLsbD_eq_getElem]
      show Nat.testBit 255 i = false
      exact Nat.testBit_lt_two_pow (Nat.lt_of_lt_of_le (by decide : 255 < 2 ^ 8) (Nat.pow_le_pow_right (by decide) (by omega)))
    simp [this]
theorem nar8 (y : Int32) : vp_nar .byte (y.toInt8.toInt32) &&& (255 : Int32) = y &&& (255 : Int32) := by
  show (y.toInt8.toInt32).toInt8.toInt32 &&& (255 : Int32) = _
  rw [low8, low8]
/-! the text so far, and where it ends -/
abbrev FT : Type := (Nat → Nat) × Nat
def pt (s : FT) (x : Int32) : FT := (fun j => if j = s.2 then bYt x else s.1 j, s.2 + 1)
def wd (s : FT) (x : Int32) : FT := pt (pt (pt (pt s (x >>> ((24 : Int32) &&& 31))) (x >>> ((16 : Int32) &&& 31))) (x >>> ((8 : Int32) &&& 31))) (x >>> ((0 : Int32) &&& 31))
def FCo (s : FT) (P : ab_P) : Prop := P.1 1 1 = iN s.2 ∧ ∀ j, j < 600 → P.1 2 j &&& (255 : Int32) = iN (s.1 j)
def FRo (s : FT) (P : ab_P) : Prop := P.1 72 1 = iN s.2 ∧ ∀ j, j < 600 → P.1 73 j = iN (s.1 j)
def sFC (b j : Nat) : Prop := (b = 1 ∧ j = 1) ∨ b = 2
def sFR (b j : Nat) : Prop := (b = 72 ∧ j = 1) ∨ b = 73
theorem pt_lt {s : FT} {x : Int32} (h : ∀ j, s.1 j < 256) : ∀ j, (pt s x).1 j < 256 := fun j => by
  show (if j = s.2 then bYt x else s.1 j) < 256
  split
  · exact bYt_lt x
  · exact h j
theorem wd_lt {s : FT} {x : Int32} (h : ∀ j, s.1 j < 256) : ∀ j, (wd s x).1 j < 256 := pt_lt (pt_lt (pt_lt (pt_lt h)))
section FE
variable {g g' : GS} {P : ab_P} {N K n : Nat} {s : FT} {x : Int32}
theorem c_put1 {Q : ab_P → Prop} {c : Int32} (hc : ¬ c < 0) (h : FCo s P) (h6 : s.2 < 600) (hh : ∀ P', FCo (pt s (x >>> (c &&& 31))) P' → fr sFC P P' → TT (f_110_3 n x (c + (-8)) P') Q) : TT (f_110_3 (n + 1) x c P) Q := by
  unfold f_110_3
  rw [if_neg hc, h.1, if_neg (by rw [iN_neg (by omega)]; exact id), if_pos (by rw [iN_ltl (by omega) (by decide)]; exact h6), if_pos (iN_gi h6 (by decide)), iN_nat (by omega)]
  refine TT_lt (TT_lt ?_)
  have e1 : (ab_pI P 2 s.2 (vp_nar .byte ((x >>> (c &&& 31))).toInt8.toInt32)).1 1 1 = iN s.2 := by rw [pI_ne (by decide)]; exact h.1
  rw [e1, iN_succ]
  refine hh _ ⟨pI_eq, fun j hj => ?_⟩ ((fr.I (by unfold sFC; omega)).tr (fr.I (by unfold sFC; omega)))
  rw [pI_ne (by decide), pI_at]
  show _ = iN (if j = s.2 then bYt (x >>> (c &&& 31)) else s.1 j)
  by_cases e : j = s.2
  · rw [if_pos ⟨rfl, e⟩, if_pos e, nar8, bYt_and]
  · rw [if_neg (fun e2 => e e2.2), if_neg e]
    exact h.2 j hj
theorem c_word (h : FCo s P) (h6 : s.2 + 4 ≤ 600) (hN : 70000 ≤ N) : TT (f_110 N x P) (fun q => FCo (wd s x) q ∧ fr sFC P q) := by
  obtain ⟨M, rfl⟩ : ∃ z, N = z + 5 := ⟨N - 5, by omega⟩
  unfold f_110
  refine c_put1 (n := M + 4) (by decide) h (by omega) (fun P1 h1 g1 => ?_)
  rw [show (24 : Int32) + (-8) = 16 from by decide]
  refine c_put1 (n := M + 3) (by decide) h1 (by show s.2 + 1 < 600; omega) (fun P2 h2 g2 => ?_)
  rw [show (16 : Int32) + (-8) = 8 from by decide]
  refine c_put1 (n := M + 2) (by decide) h2 (by show s.2 + 1 + 1 < 600; omega) (fun P3 h3 g3 => ?_)
  rw [show (8 : Int32) + (-8) = 0 from by decide]
  refine c_put1 (n := M + 1) (by decide) h3 (by show s.2 + 1 + 1 + 1 < 600; omega) (fun P4 h4 g4 => ?_)
  unfold f_110_3
  rw [if_pos (by decide)]
  exact TT_some ⟨h4, ((g1.tr g2).tr g3).tr g4⟩
def sel (x1 x2 x3 x4 x5 : Int32) (k : Nat) : Int32 := if k < 4 then x1 else if k < 8 then x2 else if k < 12 then x3 else if k < 16 then x4 else x5
theorem r_put1 {Q : Int32 × ab_P → Prop} {x1 x2 x3 x4 x5 : Int32} {k : Nat} (hk : k < 20) (h : FRo s P) (h6 : s.2 < 600) (hh : ∀ P', FRo (pt s (sel x1 x2 x3 x4 x5 k >>> (((24 : Int32) - ((8 : Int32) * (iN k - iN k / (4 : Int32) * (4 : Int32)))) &&& 31))) P' → fr sFR P P' → TT (f_4_23 n x1 x2 x3 x4 x5 (iN (k + 1)) P') Q) : TT (f_4_23 (n + 1) x1 x2 x3 x4 x5 (iN k) P) Q := by
  have go : ∀ y : Int32, (∀ P', FRo (pt s (y >>> (((24 : Int32) - ((8 : Int32) * (iN k - iN k / (4 : Int32) * (4 : Int32)))) &&& 31))) P' → fr sFR P P' → TT (f_4_23 n x1 x2 x3 x4 x5 (iN (k + 1)) P') Q) → TT (if ab_gi (P.1 72 1) 600 then
      ab_lt (ab_pI P 73 ((P.1 72 1)).toNatClampNeg ((y >>> (((24 : Int32) - ((8 : Int32) * (iN k - iN k / (4 : Int32) * (4 : Int32)))) &&& 31)) &&& (255 : Int32))) fun P3 =>
      ab_lt (ab_pI P3 72 1 ((P3.1 72 1) + (1 : Int32))) fun P4 =>
      f_4_23 n x1 x2 x3 x4 x5 (iN k + 1) P4
      else none) Q := fun y hy => by
    rw [h.1, if_pos (iN_gi h6 (by decide)), iN_nat (by omega)]
    refine TT_lt (TT_lt ?_)
    have e1 : (ab_pI P 73 s.2 ((y >>> (((24 : Int32) - ((8 : Int32) * (iN k - iN k / (4 : Int32) * (4 : Int32)))) &&& 31)) &&& (255 : Int32))).1 72 1 = iN s.2 := by rw [pI_ne (by decide)]; exact h.1
    rw [e1, iN_succ, iN_succ]
    refine hy _ ⟨pI_eq, fun j hj => ?_⟩ ((fr.I (by unfold sFR; omega)).tr (fr.I (by unfold sFR; omega)))
    rw [pI_ne (by decide), pI_at]
    show _ = iN (if j = s.2 then bYt (y >>> (((24 : Int32) - ((8 : Int32) * (iN k - iN k / (4 : Int32) * (4 : Int32)))) &&& 31)) else s.1 j)
    by_cases e : j = s.2
    · rw [if_pos ⟨rfl, e⟩, if_pos e, bYt_and]
    · rw [if_neg (fun e2 => e e2.2), if_neg e]
      exact h.2 j hj
  unfold f_4_23
  unfold sel at hh
  rw [if_pos (by rw [iN_ltl (by omega) (by decide)]; exact hk)]
  by_cases k4 : k < 4
  · rw [if_pos (by rw [iN_ltl (by omega) (by decide)]; exact k4)]
    rw [if_pos k4] at hh
    exact go _ hh
  · rw [if_neg (by rw [iN_ltl (by omega) (by decide)]; exact k4)]
    rw [if_neg k4] at hh
    by_cases k8 : k < 8
    · rw [if_pos (by rw [iN_ltl (by omega) (by decide)]; exact k8)]
      rw [if_pos k8] at hh
      exact go _ hh
    · rw [if_neg (by rw [iN_ltl (by omega) (by decide)]; exact k8)]
      rw [if_neg k8] at hh
      by_cases k12 : k < 12
      · rw [if_pos (by rw [iN_ltl (by omega) (by decide)]; exact k12)]
        rw [if_pos k12] at hh
        exact go _ hh
      · rw [if_neg (by rw [iN_ltl (by omega) (by decide)]; exact k12)]
        rw [if_neg k12] at hh
        by_cases k16 : k < 16
        · rw [if_pos (by rw [iN_ltl (by omega) (by decide)]; exact k16)]
          rw [if_pos k16] at hh
          exact go _ hh
        · rw [if_neg (by rw [iN_ltl (by omega) (by decide)]; exact k16)]
          rw [if_neg k16] at hh
          exact go _ hh
theorem r_word {Q : Int32 × ab_P → Prop} {x1 x2 x3 x4 x5 : Int32} {i : Nat} (hi : i < 5) (h : FRo s P) (h6 : s.2 + 4 ≤ 600) (hh : ∀ P', FRo (wd s (sel x1 x2 x3 x4 x5 (4 * i))) P' → fr sFR P P' → TT (f_4_23 n x1 x2 x3 x4 x5 (iN (4 * i + 4)) P') Q) : TT (f_4_23 (n + 4) x1 x2 x3 x4 x5 (iN (4 * i)) P) Q := by
  have sh : ∀ i, i < 5 → ((24 : Int32) - ((8 : Int32) * (iN (4 * i) - iN (4 * i) / (4 : Int32) * (4 : Int32)))) = 24 ∧ ((24 : Int32) - ((8 : Int32) * (iN (4 * i + 1) - iN (4 * i + 1) / (4 : Int32) * (4 : Int32)))) = 16 ∧ ((24 : Int32) - ((8 : Int32) * (iN (4 * i + 2) - iN (4 * i + 2) / (4 : Int32) * (4 : Int32)))) = 8 ∧ ((24 : Int32) - ((8 : Int32) * (iN (4 * i + 3) - iN (4 * i + 3) / (4 : Int32) * (4 : Int32)))) = 0 := by decide
  have se : ∀ t, t < 4 → sel x1 x2 x3 x4 x5 (4 * i + t) = sel x1 x2 x3 x4 x5 (4 * i) := fun t ht => by
    unfold sel
    rcases (show i = 0 ∨ i = 1 ∨ i = 2 ∨ i = 3 ∨ i = 4 by omega) with rfl | rfl | rfl | rfl | rfl <;> rcases (show t = 0 ∨ t = 1 ∨ t = 2 ∨ t = 3 by omega) with rfl | rfl | rfl | rfl <;> rfl
  obtain ⟨s0, s1, s2, s3⟩ := sh i hi
  refine r_put1 (n := n + 3) (k := 4 * i) (by omega) h (by omega) (fun P1 h1 g1 => ?_)
  rw [s0] at h1
  refine r_put1 (n := n + 2) (k := 4 * i + 1) (by omega) h1 (by show s.2 + 1 < 600; omega) (fun P2 h2 g2 => ?_)
  rw [s1, se 1 (by decide)] at h2
  refine r_put1 (n := n + 1) (k := 4 * i + 2) (by omega) h2 (by show s.2 + 1 + 1 < 600; omega) (fun P3 h3 g3 => ?_)
  rw [s2, se 2 (by decide)] at h3
  refine r_put1 (n := n) (k := 4 * i + 3) (by omega) h3 (by show s.2 + 1 + 1 + 1 < 600; omega) (fun P4 h4 g4 => ?_)
  rw [s3, se 3 (by decide)] at h4
  exact hh P4 h4 (((g1.tr g2).tr g3).tr g4)
def gFed (g : GS) (s : FT) : GS := (s.1, s.2, g.2.2)
theorem gFed_ok (ok : GOK g) (h : ∀ j, s.1 j < 256) (h6 : s.2 ≤ 600) : GOK (gFed g s) := ⟨h, h6, ok.2.2⟩
theorem CREL.fed {P' : ab_P} (h : CREL g P) (hs : FCo s P') (f : fr sFC P P') : CREL (gFed g s) P' := by
  obtain ⟨h1, h2, h3, h4, h5, h6, h7, h8⟩ := h
  have e : ∀ b j, ¬ sFC b j → P'.1 b j = P.1 b j := f.1
  exact ⟨hs.1, hs.2, (e 1 6 (by unfold sFC; omega)).trans h3, CW_keep h4 (fun b j hb => e b j (by unfold kpW at hb; unfold sFC; omega)), h5.low f.2.2 (fun b j hb => e b j (by unfold sFC; omega)), h6.keep (fun b j hb => e b j (by unfold sFC; omega)), (e 52 6 (by unfold sFC; omega)).trans h7, fun j hj => (e 71 j (by unfold sFC; omega)).trans (h8 j hj)⟩
theorem RREL.fed {P' : ab_P} (h : RREL g P) (ok : GOK g) (hs : FRo s P') (f : fr sFR P P') : RREL (gFed g s) P' := by
  obtain ⟨h1, h2, h3, h4, h5, h6, h7, h8⟩ := h
  obtain ⟨o1, o2, o3, o4, o5⟩ := ok
  have e : ∀ b j, ¬ sFR b j → P'.1 b j = P.1 b j := f.1
  exact ⟨hs.1, hs.2, (e 72 3 (by unfold sFR; omega)).trans h3, RW_keep h4 o3.2.1 (fun b j hb => e b j (by unfold kqW at hb; unfold sFR; omega)), RHI_keep h5 ⟨o4.1, o4.2.1⟩ (fun b j hb => e b j (by unfold sFR; omega)), h6.keep o5.1 (fun b j hb => e b j (by unfold sFR; omega)), (e 72 31 (by unfold sFR; omega)).trans h7, fun j hj => (e 74 j (by unfold sFR; omega)).trans (h8 j hj)⟩
theorem k_feed (h : CREL g P) (ok : GOK g) (a b c d e : Int32) (hN : 70000 ≤ N) : CallD g P (f_3 N a b c d e P) (f_4 N a b c d e) := by
  have hF := ok.2.1
  unfold CallD f_3 f_4
  have hadd : iN g.F + (20 : Int32) = iN (g.F + 20) := by rw [show (20 : Int32) = iN 20 from rfl, iN_add]
  by_cases h6 : 600 < g.F + 20
  · have h6' : (600 : Int32) < iN (g.F + 20) := by
      rw [show (600 : Int32) = iN 600 from rfl, iN_lt (by decide) (by omega)]
      exact h6
    refine ⟨-1, g, ok, ?_, fun P1 h1 => ?_⟩
    · unfold f_109
      rw [h.1, hadd, if_pos h6', Option.bind_some, if_pos rfl]
      exact TT_some ⟨rfl, h, frI.rf, rmC.of rfl⟩
    · obtain ⟨t1, t2, t3⟩ := r_t0 h1 ok
      refine TT_lt ?_
      rw [t1.1, hadd, if_pos h6']
      exact TT_some ⟨rfl, t1, t3⟩
  · have h6' : ¬ (600 : Int32) < iN (g.F + 20) := by
      rw [show (600 : Int32) = iN 600 from rfl, iN_lt (by decide) (by omega)]
      exact h6
    refine ⟨iN (g.F + 20), gFed g (wd (wd (wd (wd (wd (g.B, g.F) a) b) c) d) e), gFed_ok ok (wd_lt (wd_lt (wd_lt (wd_lt (wd_lt ok.1))))) (by show g.F + 20 ≤ 600; omega), ?_, fun P1 h1 => ?_⟩
    · unfold f_109
      rw [h.1, hadd, if_neg h6', Option.bind_some, if_neg (by decide)]
      refine TT_bind (c_word (s := (g.B, g.F)) ⟨h.1, h.2.1⟩ (by show g.F + 4 ≤ 600; omega) hN) (fun P2 h2 => ?_)
      refine TT_bind (c_word h2.1 (by show g.F + 8 ≤ 600; omega) hN) (fun P3 h3 => ?_)
      refine TT_bind (c_word h3.1 (by show g.F + 12 ≤ 600; omega) hN) (fun P4 h4 => ?_)
      refine TT_bind (c_word h4.1 (by show g.F + 16 ≤ 600; omega) hN) (fun P5 h5 => ?_)
      refine TT_bind (c_word h5.1 (by show g.F + 20 ≤ 600; omega) hN) (fun P6 h6 => ?_)
      have f := (((h2.2.tr h3.2).tr h4.2).tr h5.2).tr h6.2
      exact TT_some ⟨h6.1.1, h.fed h6.1 f, f.I2.mono (fun b j hb => by unfold sFC at hb; unfold sCC; omega), rmC.of f.2.2⟩
    · obtain ⟨t1, t2, t3⟩ := r_t0 h1 ok
      refine TT_lt ?_
      rw [t1.1, hadd, if_neg h6']
      obtain ⟨M, rfl⟩ : ∃ z, N = z + 1 + 4 + 4 + 4 + 4 + 4 := ⟨N - 21, by omega⟩
      refine r_word (i := 0) (s := (g.B, g.F)) (by decide) ⟨t1.1, t1.2.1⟩ (by show g.F + 4 ≤ 600; omega) (fun P2 h2 g2 => ?_)
      refine r_word (i := 1) (by decide) h2 (by show g.F + 8 ≤ 600; omega) (fun P3 h3 g3 => ?_)
      refine r_word (i := 2) (by decide) h3 (by show g.F + 12 ≤ 600; omega) (fun P4 h4 g4 => ?_)
      refine r_word (i := 3) (by decide) h4 (by show g.F + 16 ≤ 600; omega) (fun P5 h5 g5 => ?_)
      refine r_word (i := 4) (by decide) h5 (by show g.F + 20 ≤ 600; omega) (fun P6 h6 g6 => ?_)
      have f := (((g2.tr g3).tr g4).tr g5).tr g6
      unfold f_4_23
      rw [if_neg (by decide)]
      exact TT_some ⟨h6.1, t1.fed ok h6 f, t3.tr (f.mono (fun b j hb => by unfold sFR at hb; unfold sRR; omega))⟩
end FE
