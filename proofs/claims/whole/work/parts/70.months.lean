/-! months to come -/
def drw (x : Int32) : Int32 := (x >>> ((16 : Int32) &&& 31)) &&& (32767 : Int32)
theorem drw_u (x : Int32) : ((x.toUInt32 >>> (((16 : Int32)).toUInt32 &&& Int32.toUInt32 31)).toInt32 &&& (32767 : Int32)) = drw x := by
  unfold drw
  apply Int32.toBitVec_inj.mp
  rw [Int32.toBitVec_and, Int32.toBitVec_and, Int32.toBitVec_shiftRight]
  show ((x.toBitVec >>> (16#32)) &&& 32767#32) = _
  apply BitVec.eq_of_getLsbD_eq
  intro i hi
  rw [BitVec.getLsbD_and, BitVec.getLsbD_and, show ((16 : Int32) &&& 31).toBitVec.smod 32 = 16#32 by decide, BitVec.sshiftRight', BitVec.getLsbD_sshiftRight, BitVec.ushiftRight_eq', BitVec.getLsbD_ushiftRight]
  show (x.toBitVec.getLsbD (16 + i) && (32767#32).getLsbD i) = (_ && (32767#32).getLsbD i)
  by_cases h : i < 15
  · have h1 : ¬ 32 ≤ i := by omega
    have h2 : 16 + i < 32 := by omega
    simp [h1, h2]
  · have : (32767#32).getLsbD i = false := by
      rw [BitVec.getLsbD_ofNat]
      have : Nat.testBit 32767 i = false := Nat.testBit_lt_two_pow (Nat.lt_of_lt_of_le (by decide : 32767 < 2 ^ 15) (Nat.pow_le_pow_right (by decide) (by omega)))
      rw [this, Bool.and_false]
    rw [this, Bool.and_false, Bool.and_false]
theorem drw_N (x : Int32) : ∃ d, d < 32768 ∧ drw x = iN d := by
  refine ⟨(drw x).toBitVec.toNat, ?_, ?_⟩
  · unfold drw
    rw [Int32.toBitVec_and, BitVec.toNat_and]
    have : (x >>> ((16 : Int32) &&& 31)).toBitVec.toNat &&& (32767 : Int32).toBitVec.toNat ≤ (32767 : Int32).toBitVec.toNat := Nat.and_le_right
    have h : (32767 : Int32).toBitVec.toNat = 32767 := by decide
    omega
  · apply Int32.toBitVec_inj.mp
    unfold iN
    rw [Int32.toBitVec_ofNat']
    simp
def drN (x : Int32) : Nat := (drw x).toNatClampNeg
theorem drN_p (x : Int32) : drw x = iN (drN x) ∧ drN x < 32768 := by
  obtain ⟨d, h1, h2⟩ := drw_N x
  unfold drN
  rw [h2, iN_nat (by omega)]
  exact ⟨rfl, h1⟩
theorem iN_mod {d m : Nat} (hd : d < 2147483648) (hm : m < 2147483648) (h0 : 0 < m) : iN d - iN d / iN m * iN m = iN (d % m) := by
  rw [iN_div hd hm h0, iN_mul, iN_sub (Nat.div_mul_le_self d m)]
  congr 1
  have := Nat.div_add_mod d m
  rw [Nat.mul_comm] at this
  omega
abbrev MO : Type := LG × Int32 × Int32
def mDraw (lc : Int32 → Int32) (M : MO) : MO := (M.1, lc M.2.1, M.2.2)
/-- one slaps, or doesn't -/
def mOne (lc : Int32 → Int32) (pe : Nat) (q : Int32) (p : Nat) (M : MO) : MO :=
  if iN (drN (lc M.2.1) % 16) < q ∧ 1 < pe then
    (sAdd M.1 (iN p) (iN ((p + 1 + drN (lc (lc M.2.1)) % (pe - 1)) % pe)) (iN (1 + drN (lc (lc (lc M.2.1))) % 9)) 1, lc (lc (lc M.2.1)), M.2.2)
  else (M.1, lc M.2.1, M.2.2)
def mAll (lc : Int32 → Int32) (pe : Nat) (q : Int32) (M : MO) : Nat → MO
  | 0 => M
  | p + 1 => mOne lc pe q p (mAll lc pe q M p)
def gBest (L : LG) : Option Nat := fb (stL L) (fun a b => decide (L.1 2 b < L.1 2 a)) L.2.1
def mSaint (M : MO) : MO := match gBest M.1 with
  | none => M
  | some b => (sGone M.1 b 2, M.2.1, M.2.2 + M.1.1 2 b)
def mEnd (lc : Int32 → Int32) (z : Int32) (M : MO) : MO := if iN (drN (lc M.2.1) % 16) < z then mSaint (mDraw lc M) else mDraw lc M
def mDays (lc : Int32 → Int32) (pe : Nat) (q z : Int32) (M : MO) : Nat → MO
  | 0 => M
  | n + 1 => mEnd lc z (mAll lc pe q (lDay (mDays lc pe q z M n).1 1, (mDays lc pe q z M n).2) pe)
theorem mOne_OK {lc : Int32 → Int32} {pe : Nat} {q : Int32} {p : Nat} {M : MO} (h : WF pe M.1) (hp : p < pe) : WF pe (mOne lc pe q p M).1 := by
  unfold mOne
  split
  · exact WF_add h ⟨p, hp, rfl⟩ ⟨_, Nat.mod_lt _ (by omega), rfl⟩ ⟨_, by omega, by have := Nat.mod_lt (drN (lc (lc (lc M.2.1)))) (show 0 < 9 by decide); omega, rfl⟩ (Or.inr rfl)
  · exact h
theorem mAll_OK {lc : Int32 → Int32} {pe : Nat} {q : Int32} {M : MO} (h : WF pe M.1) : ∀ n, n ≤ pe → WF pe (mAll lc pe q M n).1
  | 0, _ => h
  | n + 1, hn => mOne_OK (mAll_OK h n (by omega)) (by omega)
theorem mSaint_OK {pe : Nat} {M : MO} (h : WF pe M.1) : WF pe (mSaint M).1 := by
  unfold mSaint
  split
  · exact h
  · exact WF_gone h
theorem mEnd_OK {lc : Int32 → Int32} {pe : Nat} {z : Int32} {M : MO} (h : WF pe M.1) : WF pe (mEnd lc z M).1 := by
  unfold mEnd
  split
  · exact mSaint_OK (M := mDraw lc M) h
  · exact h
theorem mDays_OK {lc : Int32 → Int32} {pe : Nat} {q z : Int32} {M : MO} (h : WF pe M.1) : ∀ n, WF pe (mDays lc pe q z M n).1
  | 0 => h
  | n + 1 => mEnd_OK (mAll_OK (M := (lDay (mDays lc pe q z M n).1 1, (mDays lc pe q z M n).2)) (mDays_OK h n) _ (Nat.le_refl _))
/-- the component's places -/
def sMo (b : Nat) (_ : Nat) : Prop := 61 ≤ b ∧ b ≤ 64
theorem sMo_C : ∀ b j, sMo b j → scC b j := fun b j h => by
  unfold sMo at h
  unfold scC
  omega
theorem sI62 : ∀ b j, sI 62 b j → sMo b j := fun b j h => by
  unfold sI at h
  unfold sMo
  omega
def CM (M : MO) (P : ab_P) : Prop := CL 62 M.1 P ∧ P.1 61 3 = M.2.1 ∧ P.1 61 4 = M.2.2
def sMr (b j : Nat) : Prop := b = 478 ∨ (b = 72 ∧ (j = 43 ∨ j = 44))
theorem sMr_R : ∀ b j, sMr b j → scR b j := fun b j h => by
  unfold sMr at h
  unfold scR
  omega
def RMo (M : MO) (P : ab_P) : Prop := RL 478 M.1 P ∧ P.1 72 43 = M.2.1 ∧ P.1 72 44 = M.2.2
section MM
variable {W : WO} {P : ab_P} {N pe : Nat} {M : MO} {q z : Int32} {lc : Int32 → Int32}
theorem CM.set3 {x : Int32} (h : CM M P) : CM (M.1, x, M.2.2) (ab_pI P 61 3 x) := ⟨CL_keep h.1 (pI_ne (by decide)) (pI_ne (by decide)) (fun j => pI_ne (by decide)) (fun j => pI_ne (by decide)), pI_eq, by rw [pI_nj (by decide)]; exact h.2.2⟩
theorem c_draw {m : Nat} (hl : ∀ x : Int32, x * (1103515245 : Int32) + (12345 : Int32) = lc x) (h : CM M P) (hm : 0 < m) (hm2 : m < 100) : TT (f_316 (iN m) P) (fun q => q.1 = iN (drN (lc M.2.1) % m) ∧ CM (mDraw lc M) q.2 ∧ fr sMo P q.2) := by
  unfold f_316
  refine TT_lt ?_
  rw [h.2.1, hl]
  have e : (ab_pI P 61 3 (lc M.2.1)).1 61 3 = lc M.2.1 := pI_eq
  rw [e, drw_u, (drN_p _).1, if_pos (by rw [iN_lll (by omega) (by decide)]; exact hm), if_pos (by rw [show (0 : Int32) = iN 0 from rfl, iN_eq (by omega) (by decide)]; omega)]
  have := (drN_p (lc M.2.1)).2
  exact TT_some ⟨iN_mod (by omega) (by omega) hm, h.set3, fr.I (by unfold sMo; omega)⟩
theorem CM.add {on ho sz tr : Int32} (h : CM M P) : TT (f_285 62 on ho sz tr P) (fun q => CM (sAdd M.1 on ho sz tr, M.2) q.2 ∧ fr sMo P q.2) :=
  (c_add h.1 on ho sz tr).mono (fun q hq => ⟨⟨hq.2.1, by rw [hq.2.2.1 61 3 (by unfold sI; omega)]; exact h.2.1, by rw [hq.2.2.1 61 4 (by unfold sI; omega)]; exact h.2.2⟩, hq.2.2.mono sI62⟩)
theorem c_one {p : Nat} (hl : ∀ x : Int32, x * (1103515245 : Int32) + (12345 : Int32) = lc x) (h : CM M P) (hpe : P.1 3 5 = iN pe) (h8 : pe ≤ 8) (hp : p < pe) : TT (ab_b2 (f_316 (16 : Int32) P) fun v9 P8 => if v9 < q then (if (1 : Int32) < (P8.1 3 5) then Option.bind (f_317 (iN p) P8) fun P10 => some P10 else some P8) else some P8) (fun Q => CM (mOne lc pe q p M) Q ∧ fr sMo P Q) := by
  refine TT_b2 (c_draw hl (m := 16) h (by decide) (by decide)) (fun v P1 hv => ?_)
  obtain ⟨h1, h2, h3⟩ := hv
  dsimp only at h1 h2 h3
  have hpe1 : P1.1 3 5 = iN pe := by rw [h3.1 3 5 (by unfold sMo; omega)]; exact hpe
  rw [h1, hpe1]
  unfold mOne
  by_cases hq : iN (drN (lc M.2.1) % 16) < q
  · by_cases h1p : 1 < pe
    · rw [if_pos hq, if_pos (show (1 : Int32) < iN pe by rw [iN_lll (by omega) (by decide)]; exact h1p), if_pos ⟨hq, h1p⟩]
      unfold f_317
      rw [hpe1, iN_lit 1, iN_sub (by omega)]
      refine TT_bind (Q1 := fun Q => CM (sAdd M.1 (iN p) (iN ((p + 1 + drN (lc (lc M.2.1)) % (pe - 1)) % pe)) (iN (1 + drN (lc (lc (lc M.2.1))) % 9)) 1, lc (lc (lc M.2.1)), M.2.2) Q ∧ fr sMo P Q) ?_ (fun Q hQ => TT_some hQ)
      refine TT_b2 (c_draw hl (m := pe - 1) h2 (by omega) (by omega)) (fun v2 P2 hv2 => ?_)
      obtain ⟨a1, a2, a3⟩ := hv2
      dsimp only at a1 a2 a3
      refine TT_b2 (c_draw hl (m := 9) a2 (by decide) (by decide)) (fun v3 P3 hv3 => ?_)
      obtain ⟨b1, b2, b3⟩ := hv3
      dsimp only at b1 b2 b3
      have hpe3 : P3.1 3 5 = iN pe := by rw [b3.1 3 5 (by unfold sMo; omega), a3.1 3 5 (by unfold sMo; omega)]; exact hpe1
      have f3 := (h3.tr a3).tr b3
      rw [hpe3, a1, b1]
      show TT (if iN p + (iN (drN (lc (lc M.2.1)) % (pe - 1)) + iN 1) < iN pe then _ else _) _
      have hs2 : drN (lc (lc M.2.1)) % (pe - 1) < pe - 1 := Nat.mod_lt _ (by omega)
      have hs9 : drN (lc (lc (lc M.2.1))) % 9 < 9 := Nat.mod_lt _ (by decide)
      rw [show (mDraw lc M).2.1 = lc M.2.1 from rfl, show (mDraw lc (mDraw lc M)).2.1 = lc (lc M.2.1) from rfl, show iN (drN (lc (lc M.2.1)) % (pe - 1)) + iN 1 = iN (drN (lc (lc M.2.1)) % (pe - 1) + 1) from iN_add _ _, show iN p + iN (drN (lc (lc M.2.1)) % (pe - 1) + 1) = iN (p + (drN (lc (lc M.2.1)) % (pe - 1) + 1)) from iN_add _ _]
      have e9 : iN (drN (lc (lc (lc M.2.1))) % 9) + iN 1 = iN (1 + drN (lc (lc (lc M.2.1))) % 9) := by rw [iN_add, Nat.add_comm]
      rw [e9]
      by_cases hlt : p + (drN (lc (lc M.2.1)) % (pe - 1) + 1) < pe
      · rw [if_pos (by rw [iN_lt (by omega) (by omega)]; exact hlt)]
        have em : (p + 1 + drN (lc (lc M.2.1)) % (pe - 1)) % pe = p + (drN (lc (lc M.2.1)) % (pe - 1) + 1) := by
          rw [Nat.mod_eq_of_lt (by omega)]; omega
        rw [em]
        exact TT_b2 (b2.add (on := iN p) (ho := iN (p + (drN (lc (lc M.2.1)) % (pe - 1) + 1))) (sz := iN (1 + drN (lc (lc (lc M.2.1))) % 9)) (tr := iN 1)) (fun v4 P4 hv4 => TT_some ⟨hv4.1, f3.tr hv4.2⟩)
      · rw [if_neg (by rw [iN_lt (by omega) (by omega)]; exact hlt), iN_sub (by omega)]
        have em : (p + 1 + drN (lc (lc M.2.1)) % (pe - 1)) % pe = p + (drN (lc (lc M.2.1)) % (pe - 1) + 1) - pe := by
          rw [Nat.mod_eq_sub_mod (by omega), Nat.mod_eq_of_lt (by omega)]; omega
        rw [em]
        exact TT_b2 (b2.add (on := iN p) (ho := iN (p + (drN (lc (lc M.2.1)) % (pe - 1) + 1) - pe)) (sz := iN (1 + drN (lc (lc (lc M.2.1))) % 9)) (tr := iN 1)) (fun v4 P4 hv4 => TT_some ⟨hv4.1, f3.tr hv4.2⟩)
    · rw [if_pos hq, if_neg (show ¬ (1 : Int32) < iN pe by rw [iN_lll (by omega) (by decide)]; exact h1p), if_neg (fun e => h1p e.2)]
      exact TT_some ⟨h2, h3⟩
  · rw [if_neg hq, if_neg (fun e => hq e.1)]
    exact TT_some ⟨h2, h3⟩
end MM
