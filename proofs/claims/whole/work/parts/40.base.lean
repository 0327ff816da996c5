/-! what is read after a write; small ints -/
theorem pI_at (P : ab_P) (a i : Nat) (x : Int32) (b j : Nat) : (ab_pI P a i x).1 b j = if b = a ∧ j = i then x else P.1 b j := by
  show ab_upI P.1 a i x b j = _
  unfold ab_upI upd
  by_cases h : b = a
  · subst h
    by_cases h2 : j = i
    · subst h2; simp
    · simp [h2]
  · simp [h]
theorem pI_L (P : ab_P) (a i : Nat) (x : Int32) : (ab_pI P a i x).2 = P.2 := rfl
theorem pL_I (P : ab_P) (a i : Nat) (x : Int64) : (ab_pL P a i x).1 = P.1 := rfl
theorem pL_R (P : ab_P) (a i : Nat) (x : Int64) : (ab_pL P a i x).2.2 = P.2.2 := rfl
theorem pL_at (P : ab_P) (a i : Nat) (x : Int64) (b j : Nat) : (ab_pL P a i x).2.1 b j = if b = a ∧ j = i then x else P.2.1 b j := by
  show ab_upL P.2.1 a i x b j = _
  unfold ab_upL vp_updL
  by_cases h : b = a
  · subst h
    by_cases h2 : j = i
    · subst h2; simp
    · simp [h2]
  · simp [h]
theorem i_add {a b : Int32} (h1 : -2147483648 ≤ a.toInt + b.toInt) (h2 : a.toInt + b.toInt < 2147483648) : (a + b).toInt = a.toInt + b.toInt := by
  rw [Int32.toInt_add]
  exact Int.bmod_eq_of_le (by simpa using h1) (by simpa using h2)
theorem i_sub {a b : Int32} (h1 : -2147483648 ≤ a.toInt - b.toInt) (h2 : a.toInt - b.toInt < 2147483648) : (a - b).toInt = a.toInt - b.toInt := by
  rw [Int32.toInt_sub]
  exact Int.bmod_eq_of_le (by simpa using h1) (by simpa using h2)
theorem i_mul {a b : Int32} (h1 : -2147483648 ≤ a.toInt * b.toInt) (h2 : a.toInt * b.toInt < 2147483648) : (a * b).toInt = a.toInt * b.toInt := by
  rw [Int32.toInt_mul]
  exact Int.bmod_eq_of_le (by simpa using h1) (by simpa using h2)
theorem gi_iff {i : Int32} {n : Nat} : ab_gi i n ↔ 0 ≤ i.toInt ∧ i.toInt < n := vp_in_iff
theorem i_nat (i : Int32) : i.toNatClampNeg = i.toInt.toNat := rfl
theorem b2_some {ρ α : Type} (v : ρ) (P : ab_P) (K : ρ → ab_P → Option α) : ab_b2 (some (v, P)) K = K v P := rfl
theorem x2_some {ρ α β : Type} (v : ρ) (P : ab_P) (K : ρ → ab_P → Option ((α ⊕ Fin 3) × β)) (hb : ab_P → β) : ab_x2 (some (.inl v, P)) K hb = K v P := rfl
theorem x2_thr {ρ α β : Type} (E : Fin 3) (P : ab_P) (K : ρ → ab_P → Option ((α ⊕ Fin 3) × β)) (hb : ab_P → β) : ab_x2 (some (.inr E, P)) K hb = some (.inr E, hb P) := rfl
theorem lt_eq {α β : Type} (a : α) (f : α → β) : ab_lt a f = f a := rfl
