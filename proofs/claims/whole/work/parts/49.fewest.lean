/-! the fewest claims that pay a sum -/
def cmb (k : Nat) (t sk : Option (Nat × Nat)) : Option (Nat × Nat) := match t with
  | none => sk
  | some (c, b) => match sk with
    | none => some (c + 1, b + 2 ^ k)
    | some (c', b') => if c + 1 ≤ c' then some (c + 1, b + 2 ^ k) else some (c', b')
/-- of the last d of m: how few, and which -/
def FW (ok : Nat → Bool) (sz : Nat → Nat) (m : Nat) : Nat → Nat → Option (Nat × Nat)
  | 0, s => if s = 0 then some (0, 0) else none
  | d + 1, s => if ok (m - (d + 1)) = true ∧ sz (m - (d + 1)) ≤ s then cmb (m - (d + 1)) (FW ok sz m d (s - sz (m - (d + 1)))) (FW ok sz m d s) else FW ok sz m d s
theorem pow_step {m d : Nat} (h : d + 1 ≤ m) : 2 ^ (m - d) = 2 ^ (m - (d + 1)) + 2 ^ (m - (d + 1)) := by
  have : m - d = (m - (d + 1)) + 1 := by omega
  rw [this, Nat.pow_succ]
  omega
theorem cmb_cases (k : Nat) (t sk : Option (Nat × Nat)) : cmb k t sk = sk ∨ ∃ c b, t = some (c, b) ∧ cmb k t sk = some (c + 1, b + 2 ^ k) := by
  unfold cmb
  rcases t with _ | ⟨c, b⟩
  · exact Or.inl rfl
  · rcases sk with _ | ⟨c', b'⟩
    · exact Or.inr ⟨c, b, rfl, rfl⟩
    · dsimp only
      split
      · exact Or.inr ⟨c, b, rfl, rfl⟩
      · exact Or.inl rfl
theorem FW_bd {ok : Nat → Bool} {sz : Nat → Nat} {m : Nat} : ∀ {d s c b : Nat}, d ≤ m → FW ok sz m d s = some (c, b) → c ≤ d ∧ b + 2 ^ (m - d) ≤ 2 ^ m
  | 0, s, c, b, _, h => by
    unfold FW at h
    split at h
    · cases h
      exact ⟨Nat.le_refl _, by simp⟩
    · cases h
  | d + 1, s, c, b, hd, h => by
    have hp := pow_step hd
    have h0 := Nat.two_pow_pos (m - (d + 1))
    have old : ∀ {c b : Nat}, FW ok sz m d s = some (c, b) → c ≤ d + 1 ∧ b + 2 ^ (m - (d + 1)) ≤ 2 ^ m := fun e => by
      have := FW_bd (by omega) e
      omega
    unfold FW at h
    split at h
    · rcases cmb_cases (m - (d + 1)) (FW ok sz m d (s - sz (m - (d + 1)))) (FW ok sz m d s) with e | ⟨c1, b1, e1, e2⟩
      · rw [e] at h
        exact old h
      · rw [e2] at h
        cases h
        have := FW_bd (by omega) e1
        omega
    · exact old h
def enc (o : Option (Nat × Nat)) : Int64 := match o with
  | none => -1
  | some (c, b) => jN (c * 1099511627776 + b)
def bd (k : Nat) (o : Option (Nat × Nat)) : Prop := ∀ c b, o = some (c, b) → c ≤ 40 ∧ b + 2 ^ k < 1099511627776
theorem enc_shr {c b : Nat} (hc : c ≤ 41) (hb : b < 1099511627776) : jN (c * 1099511627776 + b) >>> (((40 : Int32)).toInt64 &&& 63) = jN c := by
  rw [show (((40 : Int32)).toInt64 &&& 63) = jN 40 by decide, jN_shr (by omega) (by decide), Nat.shiftRight_eq_div_pow]
  congr 1
  omega
theorem enc_and {c b : Nat} (hb : b < 1099511627776) : jN (c * 1099511627776 + b) &&& (1099511627775 : Int64) = jN b := by
  rw [show (1099511627775 : Int64) = jN (2 ^ 40 - 1) from rfl, jN_and, Nat.and_two_pow_sub_one_eq_mod]
  congr 1
  omega
theorem enc_none : lg_cmp (enc none) 0 < 0 := by decide
section FW1
variable {L : LG} {P : ab_P} {N n0 z k : Nat}
theorem c_choice {G : Nat → Option (Nat × Nat)} (hn : n0 < 1000) (hz : 1 ≤ z) (hz2 : z ≤ 9999) (hk : k < 40) (hG : ∀ s, s ≤ n0 → bd k (G s)) (hP : ∀ s, s ≤ n0 → P.2.1 51 s = enc (G s)) (hN : 70000 ≤ N) : TT (f_300 N (iN k) (iN z) (iN n0) P) (fun q => (∀ s, s ≤ n0 → q.2.1 51 s = enc (if z ≤ s then cmb k (G (s - z)) (G s) else G s)) ∧ fr (fun b _ => b = 51) P q) := by
  unfold f_300
  rw [jN_one k (by omega), show (1099511627776 : Int64) = jN 1099511627776 from rfl, jN_add]
  have hk0 := Nat.two_pow_pos k
  have hpk : 2 ^ k < 1099511627776 := by
    have : 2 ^ k < 2 ^ 40 := Nat.pow_lt_pow_right (by decide) hk
    omega
  refine upT (fun n j (s : ab_P) => f_300_12 n (iN z) (jN (1099511627776 + 2 ^ k)) (iN (n0 - j)) s) (n0 + 1 - z) (fun j q => (∀ s, s ≤ n0 → q.2.1 51 s = enc (if z ≤ s ∧ n0 - j < s then cmb k (G (s - z)) (G s) else G s)) ∧ fr (fun b _ => b = 51) P q) _ (fun n j P1 hj hi => ?_) (fun n P1 hi => ?_) N P ⟨fun s hs => by rw [if_neg (by omega)]; exact hP s hs, fr.rf⟩ (by omega)
  · obtain ⟨e1, e2⟩ := hi
    have hx : n0 - j < 1000 := by omega
    have hs0 : iN (n0 - j) - iN z = iN (n0 - j - z) := iN_sub (by omega)
    have hg1 := iN_gT (k := n0 - j) (n := 1000) hx (by decide)
    have hg2 := iN_gT (k := n0 - j - z) (n := 1000) (by omega) (by decide)
    have r1 : P1.2.1 51 (n0 - j - z) = enc (G (n0 - j - z)) := by rw [e1 _ (by omega), if_neg (by omega)]
    have r2 : P1.2.1 51 (n0 - j) = enc (G (n0 - j)) := by rw [e1 _ (by omega), if_neg (by omega)]
    have hst : iN (n0 - j) + (-1) = iN (n0 - (j + 1)) := by
      rw [iN_pred (by omega), Nat.sub_sub]
    have hb1 := hG (n0 - j - z) (by omega)
    have hb2 := hG (n0 - j) (by omega)
    -- what the new state is when it stays, and when it is written
    have stay : cmb k (G (n0 - j - z)) (G (n0 - j)) = G (n0 - j) → (∀ s, s ≤ n0 → P1.2.1 51 s = enc (if z ≤ s ∧ n0 - (j + 1) < s then cmb k (G (s - z)) (G s) else G s)) := fun he s hs => by
      rw [e1 s hs]
      by_cases hsj : s = n0 - j
      · subst hsj
        rw [if_neg (by omega), if_pos (by omega), he]
      · by_cases h1 : z ≤ s ∧ n0 - j < s
        · rw [if_pos h1, if_pos (by omega)]
        · rw [if_neg h1, if_neg (by omega)]
    have wrt : ∀ c b, G (n0 - j - z) = some (c, b) → cmb k (G (n0 - j - z)) (G (n0 - j)) = some (c + 1, b + 2 ^ k) → (∀ s, s ≤ n0 → (ab_pL P1 51 (n0 - j) (enc (G (n0 - j - z)) + jN (1099511627776 + 2 ^ k))).2.1 51 s = enc (if z ≤ s ∧ n0 - (j + 1) < s then cmb k (G (s - z)) (G s) else G s)) := fun c b hc he s hs => by
      show ab_upL P1.2.1 51 _ _ 51 s = _
      rw [uL_at]
      by_cases hsj : s = n0 - j
      · subst hsj
        rw [if_pos ⟨rfl, rfl⟩, if_pos (by omega), he, hc]
        show jN _ + jN _ = jN _
        rw [jN_add]
        exact congrArg jN (by omega)
      · rw [if_neg (fun e => hsj e.2), e1 s hs]
        by_cases h1 : z ≤ s ∧ n0 - j < s
        · rw [if_pos h1, if_pos (by omega)]
        · rw [if_neg h1, if_neg (by omega)]
    show ∃ s', f_300_12 (n + 1) (iN z) (jN (1099511627776 + 2 ^ k)) (iN (n0 - j)) P1 = _ ∧ _
    simp only [f_300_12, iN_lt (show n0 - j < 2147483648 by omega) (show z < 2147483648 by omega), show ¬ n0 - j < z by omega, iN_lll (show z < 2147483648 by omega) (show 0 < 2147483648 by decide), show 0 < z by omega, iN_ltl (show n0 - j < 2147483648 by omega) (show 1000 < 2147483648 by decide), hx, hs0, hg1, hg2, iN_nat (show n0 - j < 2147483648 by omega), iN_nat (show n0 - j - z < 2147483648 by omega), r1, r2, hst, ab_lt, ↓reduceIte]
    rcases hA : G (n0 - j - z) with _ | ⟨c, b⟩
    · rw [if_pos enc_none]
      exact ⟨P1, rfl, stay (by rw [hA]; rfl), e2⟩
    · have hb1 := hb1 c b hA
      have hneg : ¬ lg_cmp (enc (some (c, b))) 0 < 0 := by
        show ¬ lg_cmp (jN _) 0 < 0
        rw [lcmp_neg (by omega)]
        exact id
      rw [if_neg hneg]
      rcases hB : G (n0 - j) with _ | ⟨c', b'⟩
      · rw [if_pos enc_none]
        refine ⟨_, rfl, ?_, e2.tr (fr.L rfl)⟩
        have := wrt c b hA (by rw [hA, hB]; rfl)
        rw [hA] at this
        exact this
      · have hb2 := hb2 c' b' hB
        have hneg2 : ¬ lg_cmp (enc (some (c', b'))) 0 < 0 := by
          show ¬ lg_cmp (jN _) 0 < 0
          rw [lcmp_neg (by omega)]
          exact id
        have hsum : enc (some (c, b)) + jN (1099511627776 + 2 ^ k) = jN ((c + 1) * 1099511627776 + (b + 2 ^ k)) := by
          show jN _ + jN _ = _
          rw [jN_add]
          exact congrArg jN (by omega)
        rw [if_neg hneg2]
        rw [hsum, enc_shr (by omega) (by omega)]
        rw [show enc (some (c', b')) >>> (((40 : Int32)).toInt64 &&& 63) = jN c' from enc_shr (by omega) (by omega)]
        by_cases hc : c' < c + 1
        · rw [if_pos (by rw [lcmp_gt (by omega) (by omega)]; exact hc)]
          refine ⟨P1, rfl, stay ?_, e2⟩
          rw [hA, hB]
          show (if c + 1 ≤ c' then _ else _) = _
          rw [if_neg (by omega)]
        · rw [if_neg (by rw [lcmp_gt (by omega) (by omega)]; exact hc)]
          refine ⟨_, rfl, ?_, e2.tr (fr.L rfl)⟩
          have := wrt c b hA (by
            rw [hA, hB]
            show (if c + 1 ≤ c' then _ else _) = _
            rw [if_pos (by omega)])
          rw [hA, hsum] at this
          exact this
  · obtain ⟨e1, e2⟩ := hi
    simp only [f_300_12, iN_lt (show n0 - (n0 + 1 - z) < 2147483648 by omega) (show z < 2147483648 by omega), show n0 - (n0 + 1 - z) < z by omega, ↓reduceIte]
    refine TT_some ⟨fun s hs => ?_, e2⟩
    rw [e1 s hs]
    by_cases h1 : z ≤ s
    · rw [if_pos ⟨h1, by omega⟩, if_pos h1]
    · rw [if_neg (fun h => h1 h.1), if_neg h1]
end FW1
