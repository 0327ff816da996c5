/-! which claims are false: what it comes to -/
abbrev BK : Type := Nat × (Nat → Nat) × (Nat → Int)
def CB (B : BK) (P : ab_P) : Prop := P.1 21 2 = iN B.1 ∧ ∀ i, i < B.1 → P.1 22 i = iN (B.2.1 i) ∧ P.1 23 i = zN (B.2.2 i)
def RBk (B : BK) (P : ab_P) : Prop := P.1 72 29 = iN B.1 ∧ ∀ i, i < B.1 → P.1 (426 + 1 + i) 0 = iN (B.2.1 i) ∧ P.1 (426 + 1 + i) 1 = zN (B.2.2 i)
def okB (pe : Nat) (B : BK) : Prop := B.1 ≤ 8 ∧ ∀ i, i < B.1 → B.2.1 i < pe ∧ -9999 ≤ B.2.2 i ∧ B.2.2 i ≤ 9999
theorem CB.fr {B : BK} {P P' : ab_P} (h : CB B P) (f : fr scC P P') : CB B P' := by
  refine ⟨?_, fun i hi => ⟨?_, ?_⟩⟩
  · rw [f.1 _ _ (by unfold scC; omega)]; exact h.1
  · rw [f.1 _ _ (by unfold scC; omega)]; exact (h.2 i hi).1
  · rw [f.1 _ _ (by unfold scC; omega)]; exact (h.2 i hi).2
theorem RBk.fr {B : BK} {P P' : ab_P} (h : RBk B P) (hB : B.1 ≤ 8) (f : fr scR P P') : RBk B P' := by
  refine ⟨?_, fun i hi => ⟨?_, ?_⟩⟩
  · rw [f.1 _ _ (by unfold scR; omega)]; exact h.1
  · rw [f.1 _ _ (by unfold scR; omega)]; exact (h.2 i hi).1
  · rw [f.1 _ _ (by unfold scR; omega)]; exact (h.2 i hi).2
/-- those that stand, one after the other -/
def kfA (L : LG) : Nat → Nat → Nat
  | 0 => fun _ => 0
  | k + 1 => if stL L k then (fun e => if e = cntN (stL L) k then k else kfA L k e) else kfA L k
def mS (L : LG) : Nat := cntN (stL L) L.2.1
def kf (L : LG) (e : Nat) : Nat := kfA L L.2.1 e
theorem cntN_y {p : Nat → Bool} {k : Nat} (h : p k = true) : cntN p (k + 1) = cntN p k + 1 := by
  show cntN p k + (if p k then 1 else 0) = _
  rw [h]; rfl
theorem cntN_n {p : Nat → Bool} {k : Nat} (h : p k = false) : cntN p (k + 1) = cntN p k := by
  show cntN p k + (if p k then 1 else 0) = _
  rw [h]; rfl
theorem kfA_y {L : LG} {k : Nat} (h : stL L k = true) : kfA L (k + 1) = fun e => if e = cntN (stL L) k then k else kfA L k e := by
  show (if stL L k then _ else _) = _
  rw [h]; rfl
theorem kfA_n {L : LG} {k : Nat} (h : stL L k = false) : kfA L (k + 1) = kfA L k := by
  show (if stL L k then _ else _) = _
  rw [h]; rfl
theorem kfA_p {L : LG} : ∀ {k e : Nat}, e < cntN (stL L) k → kfA L k e < k ∧ stL L (kfA L k e) = true
  | 0, e, h => absurd h (Nat.not_lt_zero _)
  | k + 1, e, h => by
    cases hs : stL L k with
    | false =>
      rw [cntN_n hs] at h
      rw [kfA_n hs]
      have := kfA_p h
      exact ⟨by omega, this.2⟩
    | true =>
      rw [cntN_y hs] at h
      rw [kfA_y hs]
      dsimp only
      by_cases he : e = cntN (stL L) k
      · rw [if_pos he]; exact ⟨by omega, hs⟩
      · rw [if_neg he]
        have := kfA_p (L := L) (k := k) (e := e) (by omega)
        exact ⟨by omega, this.2⟩
theorem kf_p {L : LG} {e : Nat} (h : e < mS L) : kf L e < L.2.1 ∧ stL L (kf L e) = true := kfA_p h
theorem kfA_sum {L : LG} (f : Nat → Int) : ∀ k, sumZ (fun e => f (kfA L k e)) (cntN (stL L) k) = sumZ (fun j => if stL L j then f j else 0) k
  | 0 => rfl
  | k + 1 => by
    cases hs : stL L k with
    | false =>
      rw [cntN_n hs, kfA_n hs, kfA_sum f k, sumZ_s, hs]
      simp
    | true =>
      rw [cntN_y hs, kfA_y hs, sumZ_s, sumZ_s, hs, ← kfA_sum f k]
      simp only [if_true]
      congr 1
      exact sumZ_congr (fun e he => by rw [if_neg (by omega)])
def shZ (L : LG) (p k : Nat) : Int := (if L.1 1 k = iN p then (szP L k : Int) else 0) - (if L.1 0 k = iN p then (szP L k : Int) else 0)
theorem shr_Z {pe : Nat} {L : LG} (h : WF pe L) {k : Nat} (hk : k < L.2.1) (p : Nat) : shr L (iN p) k = zN (shZ L p k) := by
  unfold shr shZ
  rw [(h.sz hk).1, ← zN_sub]
  congr 1
  · split <;> rfl
  · split <;> rfl
/-- all that one is worth -/
def aZ (L : LG) (p : Nat) : Int := sumZ (fun e => shZ L p (kf L e)) (mS L)
theorem worth_Z {pe : Nat} {L : LG} (h : WF pe L) (p : Nat) : sWorth L (iN p) false = zN (aZ L p) := by
  unfold aZ mS kf
  rw [kfA_sum (fun j => shZ L p j), ← sumZ_N]
  unfold sWorth
  refine sumI_congr (fun k hk => ?_)
  cases hs : stL L k with
  | false => rfl
  | true =>
    simp only [Bool.not_false, Bool.true_or, Bool.and_true, if_true]
    exact shr_Z h hk p
theorem standing_N (L : LG) : sStanding L = iN (mS L) := by
  unfold sStanding mS
  rw [← cntN_sum]
  refine sumI_congr (fun k _ => ?_)
  unfold cnt
  rw [Bool.and_true]
theorem mS_le {L : LG} : mS L ≤ L.2.1 := cntN_le _ _
def allN (f : Nat → Bool) : Nat → Bool
  | 0 => true
  | n + 1 => allN f n && f n
theorem allN_iff {f : Nat → Bool} : ∀ {n : Nat}, allN f n = true ↔ ∀ i, i < n → f i = true
  | 0 => by simp [allN]
  | n + 1 => by
    unfold allN
    rw [Bool.and_eq_true, allN_iff]
    constructor
    · rintro ⟨h1, h2⟩ i hi
      by_cases he : i = n
      · rw [he]; exact h2
      · exact h1 i (by omega)
    · intro h
      exact ⟨fun i hi => h i (by omega), h n (by omega)⟩
/-- the worth of one, were the claims of a set false -/
def lessZ (L : LG) (p n : Nat) : Int := sumZ (fun e => if n.testBit e then 0 else shZ L p (kf L e)) (mS L)
def tB (L : LG) (B : BK) (n : Nat) : Bool := allN (fun i => decide (lessZ L (B.2.1 i) n = B.2.2 i)) B.1
/-- the first of the smallest sets -/
def cS (L : LG) (n : Nat) : Nat := cntN (fun e => n.testBit e) (mS L)
def bLies (L : LG) (B : BK) : Option Nat := fld (tB L B) (cS L) none 0 (2 ^ mS L)
def bitS (L : LG) (n : Nat) : Int64 := orF (fun e => if n.testBit e then (1 : Int64) <<< ((iN (kf L e)).toInt64 &&& 63) else 0) (mS L)
/-! what is asked of a set: sums of what it takes away -/
def RD (L : LG) (n u p : Nat) : Int := sumZ (fun e => if n.testBit e then shZ L p (kf L e) else 0) u
theorem less_RD (L : LG) (p n : Nat) : aZ L p = lessZ L p n + RD L n (mS L) p := by
  unfold aZ lessZ RD
  refine sumZ_add (fun e _ => ?_)
  cases n.testBit e <;> simp
def UD (L : LG) (q u p : Nat) : Int := sumZ (fun e => if q.testBit e then shZ L p (kf L (u + e)) else 0) (mS L - u)
theorem RD_UD {L : LG} {n u p : Nat} (hu : u ≤ mS L) : RD L n (mS L) p = RD L n u p + UD L (n / 2 ^ u) u p := by
  unfold RD UD
  have h := sumZ_split (fun e => if n.testBit e then shZ L p (kf L e) else 0) u (mS L - u)
  rw [show u + (mS L - u) = mS L by omega] at h
  rw [h]
  congr 1
  exact sumZ_congr (fun e _ => by rw [tb_div])
theorem UD_0 {L : LG} {q u p : Nat} (hu : u + 1 ≤ mS L) : UD L (2 * q) u p = UD L q (u + 1) p := by
  unfold UD
  rw [show mS L - u = (mS L - (u + 1)) + 1 by omega, sumZ_shift, tb_2q0]
  simp only [Bool.false_eq_true, if_false]
  rw [Int.zero_add]
  exact sumZ_congr (fun e _ => by rw [tb_2q]; congr 3; omega)
theorem UD_1 {L : LG} {q u p : Nat} (hu : u + 1 ≤ mS L) : UD L (2 * q + 1) u p = UD L q (u + 1) p + shZ L p (kf L u) := by
  unfold UD
  rw [show mS L - u = (mS L - (u + 1)) + 1 by omega, sumZ_shift, tb_2q10]
  simp only [if_true]
  rw [Int.add_comm]
  congr 1
  exact sumZ_congr (fun e _ => by rw [tb_2q1]; congr 3; omega)
theorem UD_top {L : LG} {q p : Nat} : UD L q (mS L) p = 0 := by
  unfold UD
  rw [Nat.sub_self]
  rfl
/-- how many, and which, are taken of those decided -/
def cU (L : LG) (q u : Nat) : Nat := cntN (fun e => q.testBit e) (mS L - u)
def bU (L : LG) (q u : Nat) : Int64 := orF (fun e => if q.testBit e then (1 : Int64) <<< ((iN (kf L (u + e))).toInt64 &&& 63) else 0) (mS L - u)
theorem cU_0 {L : LG} {q u : Nat} (hu : u + 1 ≤ mS L) : cU L (2 * q) u = cU L q (u + 1) := by
  unfold cU
  rw [show mS L - u = (mS L - (u + 1)) + 1 by omega, cntN_shift, tb_2q0]
  simp only [Bool.false_eq_true, if_false]
  rw [Nat.zero_add]
  congr 1
  funext e
  exact tb_2q q e
theorem cU_1 {L : LG} {q u : Nat} (hu : u + 1 ≤ mS L) : cU L (2 * q + 1) u = cU L q (u + 1) + 1 := by
  unfold cU
  rw [show mS L - u = (mS L - (u + 1)) + 1 by omega, cntN_shift, tb_2q10]
  simp only [if_true]
  rw [Nat.add_comm]
  congr 2
  funext e
  exact tb_2q1 q e
theorem bU_0 {L : LG} {q u : Nat} (hu : u + 1 ≤ mS L) : bU L (2 * q) u = bU L q (u + 1) := by
  unfold bU
  rw [show mS L - u = (mS L - (u + 1)) + 1 by omega, orF_shift, tb_2q0]
  simp only [Bool.false_eq_true, if_false]
  rw [Int64.zero_or]
  congr 1
  funext e
  rw [tb_2q, show u + (e + 1) = u + 1 + e by omega]
theorem bU_1 {L : LG} {q u : Nat} (hu : u + 1 ≤ mS L) : bU L (2 * q + 1) u = bU L q (u + 1) ||| (1 : Int64) <<< ((iN (kf L u)).toInt64 &&& 63) := by
  unfold bU
  rw [show mS L - u = (mS L - (u + 1)) + 1 by omega, orF_shift, tb_2q10]
  simp only [if_true, Nat.add_zero]
  rw [Int64.or_comm]
  congr 2
  funext e
  rw [tb_2q1, show u + (e + 1) = u + 1 + e by omega]
theorem cS_ge {L : LG} {n u : Nat} (hu : u ≤ mS L) : cU L (n / 2 ^ u) u ≤ cS L n := by
  unfold cU cS
  have h := cntN_split (fun e => n.testBit e) u (mS L - u)
  rw [show u + (mS L - u) = mS L by omega] at h
  rw [h]
  have : (fun e => (n / 2 ^ u).testBit e) = (fun e => n.testBit (u + e)) := funext (fun e => tb_div n u e)
  rw [this]
  omega
/-- what a line leaves to be found -/
def gp (L : LG) (B : BK) : Nat → Nat → Option Int
  | 0, _ => none
  | i + 1, p => if B.2.1 i = p then some (aZ L p - B.2.2 i) else gp L B i p
def agree (B : BK) (n : Nat) : Prop := ∀ i j, i < n → j < n → B.2.1 i = B.2.1 j → B.2.2 i = B.2.2 j
theorem gp_at {L : LG} {B : BK} : ∀ {n i : Nat}, agree B n → i < n → gp L B n (B.2.1 i) = some (aZ L (B.2.1 i) - B.2.2 i)
  | 0, i, _, h => absurd h (Nat.not_lt_zero _)
  | n + 1, i, ha, h => by
    show (if B.2.1 n = B.2.1 i then some (aZ L (B.2.1 i) - B.2.2 n) else gp L B n (B.2.1 i)) = _
    by_cases hp : B.2.1 n = B.2.1 i
    · rw [if_pos hp, ha n i (by omega) h hp]
    · rw [if_neg hp]
      refine gp_at (fun a b h1 h2 => ha a b (by omega) (by omega)) ?_
      by_cases he : i = n
      · rw [he] at hp; exact absurd rfl hp
      · omega
theorem gp_some {L : LG} {B : BK} {p : Nat} {g : Int} : ∀ {n : Nat}, gp L B n p = some g → ∃ i, i < n ∧ B.2.1 i = p ∧ g = aZ L p - B.2.2 i
  | 0, h => by cases h
  | n + 1, h => by
    unfold gp at h
    split at h
    · rename_i hp
      cases h
      exact ⟨n, by omega, hp, rfl⟩
    · obtain ⟨i, h1, h2, h3⟩ := gp_some h
      exact ⟨i, by omega, h2, h3⟩
theorem tB_iff {L : LG} {B : BK} (ha : agree B B.1) (n : Nat) : tB L B n = true ↔ ∀ p g, gp L B B.1 p = some g → RD L n (mS L) p = g := by
  unfold tB
  rw [allN_iff]
  constructor
  · intro h p g hg
    obtain ⟨i, h1, h2, h3⟩ := gp_some hg
    have := of_decide_eq_true (h i h1)
    have := less_RD L (B.2.1 i) n
    rw [h2] at *
    omega
  · intro h i hi
    have h1 := h _ _ (gp_at (L := L) ha hi)
    have := less_RD L (B.2.1 i) n
    apply decide_eq_true
    omega
theorem tB_no {L : LG} {B : BK} (ha : ¬ agree B B.1) (n : Nat) : tB L B n = false := by
  cases h : tB L B n with
  | false => rfl
  | true =>
    exfalso
    apply ha
    unfold tB at h
    rw [allN_iff] at h
    intro i j hi hj hp
    have h1 := of_decide_eq_true (h i hi)
    have h2 := of_decide_eq_true (h j hj)
    rw [hp] at h1
    omega
/-! bounds -/
def loZ (L : LG) (u p : Nat) : Int := -(sumZ (fun e => if L.1 0 (kf L e) = iN p then (szP L (kf L e) : Int) else 0) u)
def hiZ (L : LG) (u p : Nat) : Int := sumZ (fun e => if L.1 1 (kf L e) = iN p then (szP L (kf L e) : Int) else 0) u
theorem sumZ_neg (f : Nat → Int) : ∀ n, -(sumZ f n) = sumZ (fun e => -(f e)) n
  | 0 => rfl
  | n + 1 => by
    have := sumZ_neg f n
    rw [sumZ_s, sumZ_s]
    omega
theorem RD_bd (L : LG) (n u p : Nat) : loZ L u p ≤ RD L n u p ∧ RD L n u p ≤ hiZ L u p := by
  constructor
  · unfold loZ RD
    rw [sumZ_neg]
    refine sumZ_le (fun e _ => ?_)
    unfold shZ
    cases n.testBit e <;> (simp only [if_true, Bool.false_eq_true, if_false]; split <;> (try split) <;> omega)
  · unfold hiZ RD
    refine sumZ_le (fun e _ => ?_)
    unfold shZ
    cases n.testBit e <;> (simp only [if_true, Bool.false_eq_true, if_false]; split <;> (try split) <;> omega)
/-- can what is asked still be met -/
def fits (L : LG) (g : Nat → Option Int) (q u p : Nat) : Prop := ∀ x, g p = some x → loZ L u p ≤ x - UD L q u p ∧ x - UD L q u p ≤ hiZ L u p
theorem fits_T {L : LG} {B : BK} (ha : agree B B.1) {n u : Nat} (hu : u ≤ mS L) (hT : tB L B n = true) (p : Nat) : fits L (gp L B B.1) (n / 2 ^ u) u p := fun x hx => by
  have h1 := (tB_iff ha n).mp hT p x hx
  have h2 := RD_UD (L := L) (n := n) (p := p) hu
  have h3 := RD_bd L n u p
  constructor <;> omega
theorem fits_leaf {L : LG} {B : BK} (ha : agree B B.1) {n : Nat} (h : ∀ p, fits L (gp L B B.1) n 0 p) : tB L B n = true := by
  rw [tB_iff ha]
  intro p g hg
  have h1 := h p g hg
  have h2 := RD_UD (L := L) (n := n) (p := p) (Nat.zero_le _)
  rw [Nat.pow_zero, Nat.div_one] at h2
  have h3 : RD L n 0 p = 0 := rfl
  have h4 : loZ L 0 p = 0 := rfl
  have h5 : hiZ L 0 p = 0 := rfl
  omega
theorem fits_same {L : LG} {g : Nat → Option Int} {q q' u p : Nat} (hu : u + 1 ≤ mS L) (h : fits L g q (u + 1) p) (h0 : L.1 0 (kf L u) ≠ iN p) (h1 : L.1 1 (kf L u) ≠ iN p) (hq : q' = 2 * q ∨ q' = 2 * q + 1) : fits L g q' u p := fun x hx => by
  have a := h x hx
  have hs : shZ L p (kf L u) = 0 := by
    unfold shZ
    rw [if_neg h0, if_neg h1]
    omega
  have hl : loZ L (u + 1) p = loZ L u p := by
    unfold loZ
    rw [sumZ_s, if_neg h0]
    omega
  have hh : hiZ L (u + 1) p = hiZ L u p := by
    unfold hiZ
    rw [sumZ_s, if_neg h1]
    omega
  have hud : UD L q' u p = UD L q (u + 1) p := by
    rcases hq with rfl | rfl
    · exact UD_0 hu
    · rw [UD_1 hu, hs]; omega
  rw [hud]
  omega
/-! the sets below a node -/
theorem node_of {q u n : Nat} (h1 : 2 ^ u * q ≤ n) (h2 : n < 2 ^ u * q + 2 ^ u) : n / 2 ^ u = q := by
  have hp := Nat.two_pow_pos u
  refine Nat.div_eq_of_lt_le ?_ ?_
  · rw [Nat.mul_comm]; exact h1
  · rw [Nat.add_mul, Nat.one_mul, Nat.mul_comm]; exact h2
theorem fld_two {L : LG} {B : BK} {F : Option Nat} {q u : Nat} : fld (tB L B) (cS L) F (2 ^ (u + 1) * q) (2 ^ (u + 1)) = fld (tB L B) (cS L) (fld (tB L B) (cS L) F (2 ^ u * (2 * q)) (2 ^ u)) (2 ^ u * (2 * q + 1)) (2 ^ u) := by
  rw [show (2 : Nat) ^ (u + 1) = 2 ^ u + 2 ^ u by rw [Nat.pow_succ]; omega, fld_add]
  rw [show (2 ^ u + 2 ^ u) * q = 2 ^ u * (2 * q) by rw [← Nat.mul_assoc, Nat.mul_comm (2 ^ u) 2, Nat.two_mul], show 2 ^ u * (2 * q) + 2 ^ u = 2 ^ u * (2 * q + 1) by rw [Nat.mul_add, Nat.mul_one]]
/-- nothing below can be better -/
theorem fld_many {L : LG} {B : BK} {b q u : Nat} (hu : u ≤ mS L) (h : cS L b ≤ cU L q u) : fld (tB L B) (cS L) (some b) (2 ^ u * q) (2 ^ u) = some b := fld_no _ _ (fun n h1 h2 => by
  have e := node_of h1 h2
  have := cS_ge (L := L) (n := n) hu
  rw [e] at this
  unfold updB
  dsimp only
  simp only [show decide (cS L n < cS L b) = false from decide_eq_false (by omega), Bool.and_false, Bool.false_eq_true, if_false])
theorem fld_unfit {L : LG} {B : BK} {F : Option Nat} {q u p : Nat} (ha : agree B B.1) (hu : u ≤ mS L) (h : ¬ fits L (gp L B B.1) q u p) : fld (tB L B) (cS L) F (2 ^ u * q) (2 ^ u) = F := fld_no _ _ (fun n h1 h2 => by
  have e := node_of h1 h2
  unfold updB
  cases hT : tB L B n with
  | false => rfl
  | true =>
    have := fits_T ha hu hT p
    rw [e] at this
    exact absurd this h)
theorem fld_tno {T : Nat → Bool} {c : Nat → Nat} (h : ∀ n, T n = false) (F : Option Nat) (a d : Nat) : fld T c F a d = F := fld_no _ _ (fun n _ _ => by
  unfold updB
  rw [h n]; rfl)
