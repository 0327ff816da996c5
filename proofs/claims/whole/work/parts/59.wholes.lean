/-! whole numbers as ints; sums of them -/
def zN (z : Int) : Int32 := Int32.ofInt z
theorem zN_add (a b : Int) : zN a + zN b = zN (a + b) := by
  unfold zN
  exact (Int32.ofInt_add a b).symm
theorem zN_sub (a b : Int) : zN a - zN b = zN (a - b) := by
  unfold zN
  exact (Int32.ofInt_sub a b).symm
theorem zN_neg (a : Int) : -zN a = zN (-a) := by
  unfold zN
  exact (Int32.ofInt_neg a).symm
theorem zN_nat (k : Nat) : zN k = iN k := rfl
theorem zN_0 : zN 0 = 0 := rfl
theorem zN_toInt {a : Int} (h1 : -2147483648 ≤ a) (h2 : a < 2147483648) : (zN a).toInt = a := by
  unfold zN
  exact Int32.toInt_ofInt_of_le (by simpa using h1) (by simpa using h2)
theorem zN_lt {a b : Int} (h1 : -2147483648 ≤ a ∧ a < 2147483648) (h2 : -2147483648 ≤ b ∧ b < 2147483648) : (zN a < zN b) = (a < b) := by
  rw [Int32.lt_iff_toInt_lt, zN_toInt h1.1 h1.2, zN_toInt h2.1 h2.2]
theorem zN_eq {a b : Int} (h1 : -2147483648 ≤ a ∧ a < 2147483648) (h2 : -2147483648 ≤ b ∧ b < 2147483648) : (zN a = zN b) = (a = b) := by
  apply propext
  constructor
  · intro h
    have := congrArg Int32.toInt h
    rwa [zN_toInt h1.1 h1.2, zN_toInt h2.1 h2.2] at this
  · intro h; rw [h]
def sumZ (f : Nat → Int) : Nat → Int
  | 0 => 0
  | n + 1 => sumZ f n + f n
theorem sumZ_s (f : Nat → Int) (n : Nat) : sumZ f (n + 1) = sumZ f n + f n := rfl
theorem sumZ_congr {f g : Nat → Int} : ∀ {n : Nat}, (∀ k, k < n → f k = g k) → sumZ f n = sumZ g n
  | 0, _ => rfl
  | n + 1, h => by rw [sumZ_s, sumZ_s, sumZ_congr (fun k hk => h k (by omega)), h n (by omega)]
theorem sumZ_shift (f : Nat → Int) : ∀ n, sumZ f (n + 1) = f 0 + sumZ (fun e => f (e + 1)) n
  | 0 => by simp [sumZ]
  | n + 1 => by
    rw [sumZ_s, sumZ_shift f n, sumZ_s]
    omega
theorem sumZ_split (f : Nat → Int) (u : Nat) : ∀ c, sumZ f (u + c) = sumZ f u + sumZ (fun e => f (u + e)) c
  | 0 => by simp [sumZ]
  | c + 1 => by
    rw [← Nat.add_assoc, sumZ_s, sumZ_split f u c, sumZ_s]
    omega
theorem sumZ_add {f g h : Nat → Int} : ∀ {n : Nat}, (∀ k, k < n → f k = g k + h k) → sumZ f n = sumZ g n + sumZ h n
  | 0, _ => by simp [sumZ]
  | n + 1, e => by
    have := sumZ_add (fun k hk => e k (by omega : k < n + 1)) (n := n)
    have := e n (by omega)
    rw [sumZ_s, sumZ_s, sumZ_s]
    omega
theorem sumZ_N (f : Nat → Int) : ∀ n, sumI (fun k => zN (f k)) n = zN (sumZ f n)
  | 0 => rfl
  | n + 1 => by rw [sumI_s, sumZ_N f n, zN_add]; rfl
theorem sumZ_le {f g : Nat → Int} : ∀ {n : Nat}, (∀ k, k < n → f k ≤ g k) → sumZ f n ≤ sumZ g n
  | 0, _ => Int.le_refl _
  | n + 1, h => by
    have := sumZ_le (fun k hk => h k (by omega : k < n + 1)) (n := n)
    have := h n (by omega)
    rw [sumZ_s, sumZ_s]
    omega
theorem sumZ_bd {f : Nat → Int} {c : Int} (h : ∀ k, -c ≤ f k ∧ f k ≤ c) (h0 : 0 ≤ c) : ∀ n : Nat, -(c * n) ≤ sumZ f n ∧ sumZ f n ≤ c * n
  | 0 => by simp [sumZ]
  | n + 1 => by
    have h1 := sumZ_bd h h0 n
    have h2 := h n
    rw [sumZ_s]
    have : c * ((n + 1 : Nat) : Int) = c * n + c := by
      rw [Int.natCast_add, Int.mul_add]
      simp
    omega
theorem cntN_shift (p : Nat → Bool) : ∀ n, cntN p (n + 1) = (if p 0 then 1 else 0) + cntN (fun e => p (e + 1)) n
  | 0 => by simp [cntN]
  | n + 1 => by
    rw [show cntN p (n + 1 + 1) = cntN p (n + 1) + (if p (n + 1) then 1 else 0) from rfl, cntN_shift p n, show cntN (fun e => p (e + 1)) (n + 1) = cntN (fun e => p (e + 1)) n + (if p (n + 1) then 1 else 0) from rfl]
    omega
theorem cntN_split (p : Nat → Bool) (u : Nat) : ∀ c, cntN p (u + c) = cntN p u + cntN (fun e => p (u + e)) c
  | 0 => rfl
  | c + 1 => by
    rw [← Nat.add_assoc, show cntN p (u + c + 1) = cntN p (u + c) + (if p (u + c) then 1 else 0) from rfl, cntN_split p u c, show cntN (fun e => p (u + e)) (c + 1) = cntN (fun e => p (u + e)) c + (if p (u + c) then 1 else 0) from rfl]
    omega
def orF (f : Nat → Int64) : Nat → Int64
  | 0 => 0
  | n + 1 => orF f n ||| f n
theorem orF_shift (f : Nat → Int64) : ∀ n, orF f (n + 1) = f 0 ||| orF (fun e => f (e + 1)) n
  | 0 => by simp [orF]
  | n + 1 => by
    rw [show orF f (n + 1 + 1) = orF f (n + 1) ||| f (n + 1) from rfl, orF_shift f n, show orF (fun e => f (e + 1)) (n + 1) = orF (fun e => f (e + 1)) n ||| f (n + 1) from rfl, Int64.or_assoc]
/-! the first best of all sets -/
section BS
variable (T : Nat → Bool) (c : Nat → Nat)
def updB (F : Option Nat) (n : Nat) : Option Nat := if T n && (match F with | none => true | some b => decide (c n < c b)) then some n else F
def fld (F : Option Nat) (a : Nat) : Nat → Option Nat
  | 0 => F
  | d + 1 => updB T c (fld F a d) (a + d)
theorem fld_add (F : Option Nat) (a d : Nat) : ∀ e, fld T c F a (d + e) = fld T c (fld T c F a d) (a + d) e
  | 0 => rfl
  | e + 1 => by
    rw [← Nat.add_assoc]
    show updB T c (fld T c F a (d + e)) (a + (d + e)) = updB T c (fld T c (fld T c F a d) (a + d) e) (a + d + e)
    rw [fld_add F a d e, Nat.add_assoc]
theorem fld_no {F : Option Nat} {a : Nat} : ∀ {d : Nat}, (∀ n, a ≤ n → n < a + d → updB T c F n = F) → fld T c F a d = F
  | 0, _ => rfl
  | d + 1, h => by
    show updB T c (fld T c F a d) (a + d) = F
    rw [fld_no (fun n h1 h2 => h n h1 (by omega)), h (a + d) (by omega) (by omega)]
end BS
theorem tb_half (n : Nat) (j : Nat) : (n / 2).testBit j = n.testBit (j + 1) := (Nat.testBit_succ n j).symm
theorem tb_div (n u j : Nat) : (n / 2 ^ u).testBit j = n.testBit (u + j) := by
  rw [Nat.testBit_div_two_pow]
  congr 1
  omega
theorem tb_2q (q j : Nat) : (2 * q).testBit (j + 1) = q.testBit j := by
  rw [Nat.testBit_succ]
  congr 1
  omega
theorem tb_2q1 (q j : Nat) : (2 * q + 1).testBit (j + 1) = q.testBit j := by
  rw [Nat.testBit_succ]
  congr 1
  omega
theorem tb_2q0 (q : Nat) : (2 * q).testBit 0 = false := by
  rw [Nat.testBit_zero]
  apply decide_eq_false
  omega
theorem tb_2q10 (q : Nat) : (2 * q + 1).testBit 0 = true := by
  rw [Nat.testBit_zero]
  apply decide_eq_true
  omega
