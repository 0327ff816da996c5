/-! small numbers as ints; loops upwards; runs that end with something -/
def iN (k : Nat) : Int32 := Int32.ofNat k
theorem iN_0 : iN 0 = 0 := rfl
theorem iN_lit (n : Nat) : (OfNat.ofNat n : Int32) = iN n := rfl
theorem iN_toInt {k : Nat} (h : k < 2147483648) : (iN k).toInt = k := by
  unfold iN
  exact Int32.toInt_ofNat_of_lt (by simpa using h)
theorem iN_nat {k : Nat} (h : k < 2147483648) : (iN k).toNatClampNeg = k := by
  rw [i_nat, iN_toInt h]
  omega
theorem iN_add (a b : Nat) : iN a + iN b = iN (a + b) := by
  unfold iN
  exact (Int32.ofNat_add a b).symm
theorem iN_mul (a b : Nat) : iN a * iN b = iN (a * b) := by
  unfold iN
  exact (Int32.ofNat_mul a b).symm
theorem iN_succ (k : Nat) : iN k + 1 = iN (k + 1) := iN_add k 1
theorem iN_sub {a b : Nat} (h : b ≤ a) : iN a - iN b = iN (a - b) := by
  have h1 : iN (a - b) + iN b = iN a := by rw [iN_add]; congr 1; omega
  rw [← h1]
  grind
theorem iN_pred {k : Nat} (h : 0 < k) : iN k + (-1) = iN (k - 1) := by
  have := iN_sub (a := k) (b := 1) h
  rw [← this]
  show iN k + (-1) = iN k - 1
  grind
theorem iN_lt {a b : Nat} (ha : a < 2147483648) (hb : b < 2147483648) : (iN a < iN b) = (a < b) := by
  rw [Int32.lt_iff_toInt_lt, iN_toInt ha, iN_toInt hb]
  exact propext ⟨fun h => by omega, fun h => by omega⟩
theorem iN_le {a b : Nat} (ha : a < 2147483648) (hb : b < 2147483648) : (iN a ≤ iN b) = (a ≤ b) := by
  rw [Int32.le_iff_toInt_le, iN_toInt ha, iN_toInt hb]
  exact propext ⟨fun h => by omega, fun h => by omega⟩
theorem iN_ltl {a n : Nat} (ha : a < 2147483648) (hb : n < 2147483648) : (iN a < (OfNat.ofNat n : Int32)) = (a < n) := iN_lt ha hb
theorem iN_lll {a n : Nat} (ha : a < 2147483648) (hb : n < 2147483648) : ((OfNat.ofNat n : Int32) < iN a) = (n < a) := iN_lt hb ha
theorem iN_neg {a : Nat} (ha : a < 2147483648) : (iN a < 0) = False := by
  rw [show (0 : Int32) = iN 0 from rfl, iN_lt ha (by decide)]
  simp
theorem iN_eq {a b : Nat} (ha : a < 2147483648) (hb : b < 2147483648) : (iN a = iN b) = (a = b) := by
  apply propext
  constructor
  · intro h
    have := congrArg Int32.toInt h
    rw [iN_toInt ha, iN_toInt hb] at this
    omega
  · intro h
    rw [h]
theorem iN_eql {a n : Nat} (ha : a < 2147483648) (hb : n < 2147483648) : (iN a = (OfNat.ofNat n : Int32)) = (a = n) := iN_eq ha hb
theorem iN_gi {k n : Nat} (h : k < n) (hn : n ≤ 2147483648) : ab_gi (iN k) n := by
  rw [gi_iff, iN_toInt (by omega)]
  omega
theorem iN_gT {k n : Nat} (h : k < n) (hn : n ≤ 2147483648) : ab_gi (iN k) n = True := eq_true (iN_gi h hn)
theorem iN_of {x : Int32} {m : Nat} (h0 : ¬ x < 0) (hm : m < 2147483648) (h : x < iN m) : ∃ k, k < m ∧ x = iN k := by
  have h1 : 0 ≤ x.toInt := by
    have := Int32.le_iff_toInt_le.mp (Int32.not_lt.mp h0)
    simpa using this
  have h2 := Int32.lt_iff_toInt_lt.mp h
  rw [iN_toInt hm] at h2
  refine ⟨x.toInt.toNat, by omega, Int32.toInt_inj.mp ?_⟩
  rw [iN_toInt (by omega)]
  omega
theorem iN_m1 : (-1 : Int32) = -iN 1 := rfl
theorem iN_nm1 {k : Nat} (h : k < 2147483648) : (iN k = -1) = False := by
  apply propext
  constructor
  · intro e
    have h9 := congrArg Int32.toInt e
    rw [iN_toInt h] at h9
    have : (-1 : Int32).toInt = -1 := by decide
    omega
  · exact fun h => h.elim
/-- a truth value as the machine has it -/
def bI (b : Bool) : Int32 := if b then 1 else 0
theorem bI_0 (b : Bool) : (bI b = 0) = (b = false) := by cases b <;> decide
theorem bI_1 (b : Bool) : (bI b = 1) = (b = true) := by cases b <;> decide
theorem bI_nar (b : Bool) : vp_nar .boolean (bI b) = bI b := by cases b <;> decide
/-- sums over the first ones -/
def sumI (f : Nat → Int32) : Nat → Int32
  | 0 => 0
  | n + 1 => sumI f n + f n
theorem sumI_s (f : Nat → Int32) (n : Nat) : sumI f (n + 1) = sumI f n + f n := rfl
theorem sumI_z (f : Nat → Int32) : sumI f 0 = 0 := rfl
theorem sumI_congr {f g : Nat → Int32} : ∀ {n : Nat}, (∀ k, k < n → f k = g k) → sumI f n = sumI g n
  | 0, _ => rfl
  | n + 1, h => by rw [sumI_s, sumI_s, sumI_congr (fun k hk => h k (by omega)), h n (by omega)]
/-! loops -/
theorem up {σ β : Type} (F : Nat → Nat → σ → Option β) (m : Nat) (s : Nat → σ) (r : Option β) (hs : ∀ n k, k < m → F (n + 1) k (s k) = F n (k + 1) (s (k + 1))) (he : ∀ n, F (n + 1) m (s m) = r) : ∀ n, m < n → F n 0 (s 0) = r := by
  have key : ∀ c k n, k + c = m → c < n → F n k (s k) = r := by
    intro c
    induction c with
    | zero =>
      intro k n hk hn
      obtain ⟨n, rfl⟩ : ∃ z, n = z + 1 := ⟨n - 1, by omega⟩
      have : k = m := by omega
      subst this
      exact he n
    | succ c ih =>
      intro k n hk hn
      obtain ⟨n, rfl⟩ : ∃ z, n = z + 1 := ⟨n - 1, by omega⟩
      rw [hs n k (by omega)]
      exact ih (k + 1) n (by omega) (by omega)
  intro n hn
  exact key m 0 n (by omega) hn
/-- the run ends with something of which Q holds -/
def TT {α : Type} (o : Option α) (Q : α → Prop) : Prop := ∃ a, o = some a ∧ Q a
section TT
variable {α β ρ : Type} {Q : β → Prop}
theorem TT.mono {Q1 Q2 : α → Prop} {o : Option α} (h : TT o Q1) (k : ∀ a, Q1 a → Q2 a) : TT o Q2 := by
  obtain ⟨a, h1, h2⟩ := h
  exact ⟨a, h1, k a h2⟩
theorem TT_some {a : β} (h : Q a) : TT (some a) Q := ⟨a, rfl, h⟩
theorem TT_bind {Q1 : α → Prop} {g : Option α} {K : α → Option β} (h : TT g Q1) (k : ∀ a, Q1 a → TT (K a) Q) : TT (Option.bind g K) Q := by
  obtain ⟨a, rfl, h2⟩ := h
  exact k a h2
theorem TT_b2 {Q1 : ρ × ab_P → Prop} {g : Option (ρ × ab_P)} {K : ρ → ab_P → Option β} (h : TT g Q1) (k : ∀ v P, Q1 (v, P) → TT (K v P) Q) : TT (ab_b2 g K) Q := by
  obtain ⟨a, rfl, h2⟩ := h
  exact k a.1 a.2 h2
theorem TT_lt {a : α} {f : α → Option β} (h : TT (f a) Q) : TT (ab_lt a f) Q := h
theorem TT_if {c : Prop} [Decidable c] {o1 o2 : Option β} (h1 : c → TT o1 Q) (h2 : ¬ c → TT o2 Q) : TT (if c then o1 else o2) Q := by
  by_cases hc : c
  · rw [if_pos hc]; exact h1 hc
  · rw [if_neg hc]; exact h2 hc
theorem TT_gd {c : Prop} [Decidable c] {o : Option β} (hc : c) (h1 : TT o Q) : TT (if c then o else none) Q := by
  rw [if_pos hc]; exact h1
theorem TT_eq {o : Option β} {a : β} (h : o = some a) (hq : Q a) : TT o Q := ⟨a, h, hq⟩
end TT
/-- a loop upwards whose state is told by I -/
theorem upT {σ β : Type} (F : Nat → Nat → σ → Option β) (m : Nat) (I : Nat → σ → Prop) (Q : β → Prop) (hs : ∀ n k s, k < m → I k s → ∃ s', F (n + 1) k s = F n (k + 1) s' ∧ I (k + 1) s') (he : ∀ n s, I m s → TT (F (n + 1) m s) Q) : ∀ n s, I 0 s → m < n → TT (F n 0 s) Q := by
  have key : ∀ c k n s, k + c = m → c < n → I k s → TT (F n k s) Q := by
    intro c
    induction c with
    | zero =>
      intro k n s hk hn hi
      obtain ⟨n, rfl⟩ : ∃ z, n = z + 1 := ⟨n - 1, by omega⟩
      have : k = m := by omega
      subst this
      exact he n s hi
    | succ c ih =>
      intro k n s hk hn hi
      obtain ⟨n, rfl⟩ : ∃ z, n = z + 1 := ⟨n - 1, by omega⟩
      obtain ⟨s', e, hi'⟩ := hs n k s (by omega) hi
      rw [e]
      exact ih (k + 1) n s' (by omega) (by omega) hi'
  intro n s hi hn
  exact key m 0 n s (by omega) hn hi
/-! what is read behind a write -/
theorem uI_at (f : Nat → Nat → Int32) (a i : Nat) (x : Int32) (b j : Nat) : ab_upI f a i x b j = if b = a ∧ j = i then x else f b j := by
  unfold ab_upI upd
  by_cases h : b = a
  · subst h
    by_cases h2 : j = i
    · subst h2; simp
    · simp [h2]
  · simp [h]
theorem uI_ne {f : Nat → Nat → Int32} {a i : Nat} {x : Int32} {b : Nat} (h : b ≠ a) : ab_upI f a i x b = f b := by
  unfold ab_upI
  rw [if_neg h]
theorem uL_at (f : Nat → Nat → Int64) (a i : Nat) (x : Int64) (b j : Nat) : ab_upL f a i x b j = if b = a ∧ j = i then x else f b j := by
  unfold ab_upL vp_updL
  by_cases h : b = a
  · subst h
    by_cases h2 : j = i
    · subst h2; simp
    · simp [h2]
  · simp [h]
theorem uL_ne {f : Nat → Nat → Int64} {a i : Nat} {x : Int64} {b : Nat} (h : b ≠ a) : ab_upL f a i x b = f b := by
  unfold ab_upL
  rw [if_neg h]
theorem rI_at (f : Nat → Nat → Int32) (a : Nat) (g : Nat → Int32) (b j : Nat) : ab_rowI f a g b j = if b = a then g j else f b j := by
  unfold ab_rowI
  by_cases h : b = a <;> simp [h]
theorem rI_ne {f : Nat → Nat → Int32} {a : Nat} {g : Nat → Int32} {b : Nat} (h : b ≠ a) : ab_rowI f a g b = f b := by
  unfold ab_rowI
  rw [if_neg h]
/-- nothing has changed but at the places of S -/
def fr (S : Nat → Nat → Prop) (P P' : ab_P) : Prop := (∀ b j, ¬ S b j → P'.1 b j = P.1 b j) ∧ (∀ b j, ¬ S b j → P'.2.1 b j = P.2.1 b j) ∧ P'.2.2 = P.2.2
theorem fr.rf {S : Nat → Nat → Prop} {P : ab_P} : fr S P P := ⟨fun _ _ _ => rfl, fun _ _ _ => rfl, rfl⟩
theorem fr.tr {S : Nat → Nat → Prop} {P P1 P2 : ab_P} (a : fr S P P1) (b : fr S P1 P2) : fr S P P2 := ⟨fun q j h => (b.1 q j h).trans (a.1 q j h), fun q j h => (b.2.1 q j h).trans (a.2.1 q j h), b.2.2.trans a.2.2⟩
theorem fr.mono {S S' : Nat → Nat → Prop} {P P' : ab_P} (a : fr S P P') (h : ∀ b j, S b j → S' b j) : fr S' P P' := ⟨fun q j g => a.1 q j (fun z => g (h q j z)), fun q j g => a.2.1 q j (fun z => g (h q j z)), a.2.2⟩
theorem fr.I {S : Nat → Nat → Prop} {P : ab_P} {a i : Nat} {x : Int32} (h : S a i) : fr S P (ab_pI P a i x) := ⟨fun b j hb => by
  show ab_upI P.1 a i x b j = _
  rw [uI_at, if_neg (fun e => hb (by rw [e.1, e.2]; exact h))], fun _ _ _ => rfl, rfl⟩
theorem fr.L {S : Nat → Nat → Prop} {P : ab_P} {a i : Nat} {x : Int64} (h : S a i) : fr S P (ab_pL P a i x) := ⟨fun _ _ _ => rfl, fun b j hb => by
  show ab_upL P.2.1 a i x b j = _
  rw [uL_at, if_neg (fun e => hb (by rw [e.1, e.2]; exact h))], rfl⟩
theorem fr.C {S : Nat → Nat → Prop} {P : ab_P} {a : Nat} {row : Nat → Int32} {x y z : Nat} (h : ∀ j, S a j) : fr S P (ab_pC P a row x y z) := ⟨fun b j hb => by
  show ab_rowI P.1 a _ b j = _
  rw [rI_at, if_neg (fun e => hb (by rw [e]; exact h j))], fun _ _ _ => rfl, rfl⟩
