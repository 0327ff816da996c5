/-! calls: which are refused, which are answered, in general -/
abbrev isP (n : Nat) (a : Int32) : Prop := ¬ a < 0 ∧ a < iN n
abbrev isRg (lo hi a : Int32) : Prop := ¬ a < lo ∧ ¬ hi < a
theorem isP_nat {n : Nat} {a : Int32} (hn : n < 2147483648) (h : isP n a) : ∃ k, k < n ∧ a = iN k := by
  obtain ⟨k, hk, e⟩ := iN_of h.1 hn h.2
  exact ⟨k, hk, e⟩
theorem isRg_nat {n : Nat} {a : Int32} (hn : n < 2147483647) (h : isRg 0 (iN n) a) : ∃ k, k ≤ n ∧ a = iN k := by
  have h4 : a < iN (n + 1) := by
    have h3 := h.2
    rw [Int32.not_lt] at h3
    exact Int32.lt_of_le_of_lt h3 (by rw [iN_lt (by omega) (by omega)]; omega)
  obtain ⟨k, hk, e⟩ := iN_of h.1 (by omega) h4
  exact ⟨k, by omega, e⟩
/-- ranges, the component's way and the reference's way -/
theorem rg_yes {α : Type} {lo hi a : Int32} {A B : α} (h : isRg lo hi a) : (if a < lo then A else if hi < a then A else B) = B := by
  rw [if_neg h.1, if_neg h.2]
theorem rg_no {α : Type} {lo hi a : Int32} {A B : α} (h : ¬ isRg lo hi a) : (if a < lo then A else if hi < a then A else B) = A := by
  by_cases h1 : a < lo
  · rw [if_pos h1]
  · rw [if_neg h1, if_pos (Decidable.byContradiction fun e => h ⟨h1, e⟩)]
theorem r112 (P : ab_P) (a lo hi : Int32) : f_112 P a lo hi = some (bI (decide (isRg lo hi a))) := by
  unfold f_112
  by_cases h : isRg lo hi a
  · rw [rg_yes h, decide_eq_true h]; rfl
  · rw [rg_no h, decide_eq_false h]; rfl
theorem c240 (P : ab_P) (a lo hi : Int32) : f_240 P a lo hi = some (bI (decide (isRg lo hi a))) := r112 P a lo hi
theorem rr_yes {α : Type} {P : ab_P} {lo hi a : Int32} {A B : Option α} (h : isRg lo hi a) : (Option.bind (f_112 P a lo hi) fun v => if v = (0 : Int32) then A else B) = B := by
  rw [r112, Option.bind_some, decide_eq_true h]; rfl
theorem rr_no {α : Type} {P : ab_P} {lo hi a : Int32} {A B : Option α} (h : ¬ isRg lo hi a) : (Option.bind (f_112 P a lo hi) fun v => if v = (0 : Int32) then A else B) = A := by
  rw [r112, Option.bind_some, decide_eq_false h]; rfl
/-- what a refusal leaves -/
def noC (x : Nat) (P : ab_P) : ab_P := ab_ex (ab_pI P 71 x (P.1 71 x + 1))
section GC
variable {g g' : GS} {P : ab_P} {N K n : Nat}
theorem c_isP (h : CREL g P) (a : Int32) : f_232 a P = if isP g.W.pe a then some (.inl (), P) else some (.inr 0, noC 0 P) := by
  unfold f_232
  rw [h.2.2.2.1.pe]
  by_cases h1 : a < 0
  · rw [if_pos h1, if_neg (fun e => e.1 h1)]; rfl
  · rw [if_neg h1]
    by_cases h2 : a < iN g.W.pe
    · rw [if_pos h2, if_pos ⟨h1, h2⟩]
    · rw [if_neg h2, if_neg (fun e => h2 e.2)]; rfl
theorem c_isC (h : CREL g P) (a : Int32) : f_230 a P = if isP g.W.L.2.1 a then some (.inl (), P) else some (.inr 0, noC 0 P) := by
  unfold f_230
  rw [h.2.2.2.1.c.2.1]
  by_cases h1 : a < 0
  · rw [if_pos h1, if_neg (fun e => e.1 h1)]; rfl
  · rw [if_neg h1]
    by_cases h2 : a < iN g.W.L.2.1
    · rw [if_pos h2, if_pos ⟨h1, h2⟩]
    · rw [if_neg h2, if_neg (fun e => h2 e.2)]; rfl
theorem rg_pred {n : Nat} (hn : n ≤ 1000) (a : Int32) : isRg 0 (iN n - 1) a ↔ isP n a := by
  have e : (iN n - 1).toInt = (n : Int) - 1 := by
    rcases Nat.eq_zero_or_pos n with rfl | h
    · decide
    · rw [show iN n - 1 = iN (n - 1) from iN_sub h, iN_toInt (by omega)]
      omega
  unfold isRg isP
  rw [Int32.lt_iff_toInt_lt (x := iN n - 1), Int32.lt_iff_toInt_lt (y := iN n), e, iN_toInt (by omega)]
  constructor
  · rintro ⟨h1, h2⟩
    exact ⟨h1, by omega⟩
  · rintro ⟨h1, h2⟩
    exact ⟨h1, by omega⟩
theorem r_isP (h : RREL g P) (ok : GOK g) (a : Int32) : f_137 P a = some (bI (decide (isP g.W.pe a))) := by
  unfold f_137
  rw [h.2.2.2.1.pe, r112, Option.bind_some, decide_eq_decide.mpr (rg_pred (by have := ok.2.2.1.1.1; omega) a)]
  exact if_pos (by cases decide (isP g.W.pe a) <;> rfl)
theorem r_isC (h : RREL g P) (a : Int32) : f_134 P a = some (bI (decide (isP g.W.L.2.1 a))) := by
  unfold f_134
  rw [h.2.2.2.1.r.2.1, r112, Option.bind_some, decide_eq_decide.mpr (rg_pred (by have := h.2.2.2.1.r.1; omega) a)]
  exact if_pos (by cases decide (isP g.W.L.2.1 a) <;> rfl)
theorem rP_yes {α : Type} {a : Int32} {A B : Option α} (h : RREL g P) (ok : GOK g) (ha : isP g.W.pe a) : (Option.bind (f_137 P a) fun v => if v = (0 : Int32) then A else B) = B := by
  rw [r_isP h ok, Option.bind_some, decide_eq_true ha]; rfl
theorem rP_no {α : Type} {a : Int32} {A B : Option α} (h : RREL g P) (ok : GOK g) (ha : ¬ isP g.W.pe a) : (Option.bind (f_137 P a) fun v => if v = (0 : Int32) then A else B) = A := by
  rw [r_isP h ok, Option.bind_some, decide_eq_false ha]; rfl
theorem rC_yes {α : Type} {a : Int32} {A B : Option α} (h : RREL g P) (ha : isP g.W.L.2.1 a) : (Option.bind (f_134 P a) fun v => if v = (0 : Int32) then A else B) = B := by
  rw [r_isC h, Option.bind_some, decide_eq_true ha]; rfl
theorem rC_no {α : Type} {a : Int32} {A B : Option α} (h : RREL g P) (ha : ¬ isP g.W.L.2.1 a) : (Option.bind (f_134 P a) fun v => if v = (0 : Int32) then A else B) = A := by
  rw [r_isC h, Option.bind_some, decide_eq_false ha]; rfl
/-- the reference goes on, or refuses -/
theorem r_goon {ρ : Type} {G : ab_P → Option (ρ × ab_P)} {z : ρ} {a x : Int32} (h0 : P.1 72 0 = 0) : (ab_b2 (f_113 0 a x P) fun v P3 => if v = (0 : Int32) then G P3 else some (z, P3)) = G P := by
  rw [r_bad0 _ _ _ h0, b2_some, if_pos rfl]
theorem r_stop {ρ : Type} {G : ab_P → Option (ρ × ab_P)} {z : ρ} {a x : Nat} (h : RREL g P) (ok : GOK g) (h0 : P.1 72 0 = 0) (ha : 1 ≤ a) (ha3 : a ≤ 2) (hx : x < 3) : TT (ab_b2 (f_113 1 (iN a) (iN x) P) fun v P3 => if v = (0 : Int32) then G P3 else some (z, P3)) (fun q => q.2.1 72 0 = iN a ∧ RREL (gRf g x) q.2 ∧ fr sRR P q.2) := by
  refine TT_b2 (r_badT ha ha3 hx h ok h0) (fun v1 P2 hv => ?_)
  obtain ⟨b1, b2, b3, b4⟩ := hv
  dsimp only at b1 b2 b3 b4
  rw [b1, if_neg (by decide)]
  exact TT_some ⟨b2, b3, b4⟩
section GI
variable {o : Option ((Int32 ⊕ Fin 3) × ab_P)} {K0 K1 K2 : ab_P → Option (Int32 × ab_P)} {R : ab_P → Option (Int32 × ab_P)} {v : Int32} {E : Fin 3} {a x : Nat}
/-- refused on both sides -/
theorem kI_bad (h : CREL g P) (ok : GOK g) (ho : o = some (.inr E, noC x P)) (hK : ∀ P1, (if E = 0 then K0 P1 else if E = 1 then K1 P1 else K2 P1) = some (iN a, P1)) (ha : 1 ≤ a) (ha3 : a ≤ 2) (hx : x < 3) (hr : ∀ P1, RREL g P1 → P1.1 72 0 = 0 → TT (R P1) (fun q => q.2.1 72 0 = iN a ∧ RREL (gRf g x) q.2 ∧ fr sRR P1 q.2)) : CallI g P (ab_h2 o (fun v2 P1 => ab_lt (ab_pL P1 570 0 (v2).toInt64) fun P3 => some ((0 : Int32), P3)) K0 K1 K2) (fun P => ab_lt (ab_pI P 72 0 (0 : Int32)) fun P1 => R P1) := by
  have e1 := h.thr x hx
  refine ⟨a, 0, gRf g x, ha3, gRf_ok ok, h2_thr (E := E) (TT_eq ho ⟨rfl, e1.1, e1.2.1, e1.2.2⟩) hK (by omega), fun P1 h1 => ?_⟩
  obtain ⟨t1, t2, t3⟩ := r_t0 h1 ok
  exact TT_lt ((hr _ t1 t2).mono (fun q hq => ⟨fun e => absurd e (by omega), hq.1, hq.2.1, t3.tr hq.2.2⟩))
/-- answered on both sides -/
theorem kI_ans (ok : GOK g) (ok' : GOK g') (hc : TT o (fun q => q.1 = .inl v ∧ CREL g' q.2 ∧ frI sCC P q.2 ∧ rmC P q.2)) (hr : ∀ P1, RREL g P1 → P1.1 72 0 = 0 → TT (R P1) (fun q => q.1 = v ∧ q.2.1 72 0 = 0 ∧ RREL g' q.2 ∧ fr sRR P1 q.2)) : CallI g P (ab_h2 o (fun v2 P1 => ab_lt (ab_pL P1 570 0 (v2).toInt64) fun P3 => some ((0 : Int32), P3)) K0 K1 K2) (fun P => ab_lt (ab_pI P 72 0 (0 : Int32)) fun P1 => R P1) := by
  refine ⟨0, _, g', by decide, ok', h2_put hc, fun P1 h1 => ?_⟩
  obtain ⟨t1, t2, t3⟩ := r_t0 h1 ok
  exact TT_lt ((hr _ t1 t2).mono (fun q hq => ⟨fun _ => congrArg Int32.toInt64 hq.1, hq.2.1, hq.2.2.1, t3.tr hq.2.2.2⟩))
/-- answered, and only working places are touched -/
theorem kI_scr (h : CREL g P) (ok : GOK g) (hc : TT o (fun q => q.1 = .inl v ∧ fr scC P q.2)) (hr : ∀ P1, RREL g P1 → P1.1 72 0 = 0 → TT (R P1) (fun q => q.1 = v ∧ fr scR P1 q.2)) : CallI g P (ab_h2 o (fun v2 P1 => ab_lt (ab_pL P1 570 0 (v2).toInt64) fun P3 => some ((0 : Int32), P3)) K0 K1 K2) (fun P => ab_lt (ab_pI P 72 0 (0 : Int32)) fun P1 => R P1) := by
  refine kI_ans ok ok (hc.mono (fun q hq => ⟨hq.1, h.scr hq.2, hq.2.I2.mono scC_C, rmC.of hq.2.2.2⟩)) (fun P1 h1 h0 => (hr P1 h1 h0).mono (fun q hq => ⟨hq.1, (hq.2.1 72 0 (by unfold scR; omega)).trans h0, h1.scr ok hq.2, hq.2.mono scR_R⟩))
/-- answered, and nothing is touched -/
theorem kI_val (h : CREL g P) (ok : GOK g) (hc : o = some (.inl v, P)) (hr : ∀ P1, RREL g P1 → P1.1 72 0 = 0 → R P1 = some (v, P1)) : CallI g P (ab_h2 o (fun v2 P1 => ab_lt (ab_pL P1 570 0 (v2).toInt64) fun P3 => some ((0 : Int32), P3)) K0 K1 K2) (fun P => ab_lt (ab_pI P 72 0 (0 : Int32)) fun P1 => R P1) := kI_scr h ok (TT_eq hc ⟨rfl, fr.rf⟩) (fun P1 h1 h0 => TT_eq (hr P1 h1 h0) ⟨rfl, fr.rf⟩)
end GI
section GLo
variable {o : Option ((Int64 ⊕ Fin 3) × ab_P)} {K0 K1 K2 : ab_P → Option (Int32 × ab_P)} {R : ab_P → Option (Int64 × ab_P)} {v : Int64} {E : Fin 3} {a x : Nat}
theorem kL_bad (h : CREL g P) (ok : GOK g) (ho : o = some (.inr E, noC x P)) (hK : ∀ P1, (if E = 0 then K0 P1 else if E = 1 then K1 P1 else K2 P1) = some (iN a, P1)) (ha : 1 ≤ a) (ha3 : a ≤ 2) (hx : x < 3) (hr : ∀ P1, RREL g P1 → P1.1 72 0 = 0 → TT (R P1) (fun q => q.2.1 72 0 = iN a ∧ RREL (gRf g x) q.2 ∧ fr sRR P1 q.2)) : CallL g P (ab_h2 o (fun v2 P1 => ab_lt (ab_pL P1 570 0 v2) fun P3 => some ((0 : Int32), P3)) K0 K1 K2) (fun P => ab_lt (ab_pI P 72 0 (0 : Int32)) fun P1 => R P1) := by
  have e1 := h.thr x hx
  refine ⟨a, 0, gRf g x, ha3, gRf_ok ok, h2_thr (E := E) (TT_eq ho ⟨rfl, e1.1, e1.2.1, e1.2.2⟩) hK (by omega), fun P1 h1 => ?_⟩
  obtain ⟨t1, t2, t3⟩ := r_t0 h1 ok
  exact TT_lt ((hr _ t1 t2).mono (fun q hq => ⟨fun e => absurd e (by omega), hq.1, hq.2.1, t3.tr hq.2.2⟩))
theorem kL_scr (h : CREL g P) (ok : GOK g) (hc : TT o (fun q => q.1 = .inl v ∧ fr scC P q.2)) (hr : ∀ P1, RREL g P1 → P1.1 72 0 = 0 → TT (R P1) (fun q => q.1 = v ∧ fr scR P1 q.2)) : CallL g P (ab_h2 o (fun v2 P1 => ab_lt (ab_pL P1 570 0 v2) fun P3 => some ((0 : Int32), P3)) K0 K1 K2) (fun P => ab_lt (ab_pI P 72 0 (0 : Int32)) fun P1 => R P1) := by
  refine ⟨0, v, g, by decide, ok, h2_putL (hc.mono (fun q hq => ⟨hq.1, h.scr hq.2, hq.2.I2.mono scC_C, rmC.of hq.2.2.2⟩)), fun P1 h1 => ?_⟩
  obtain ⟨t1, t2, t3⟩ := r_t0 h1 ok
  exact TT_lt ((hr _ t1 t2).mono (fun q hq => ⟨fun _ => hq.1, (hq.2.1 72 0 (by unfold scR; omega)).trans t2, t1.scr ok hq.2, t3.tr (hq.2.mono scR_R)⟩))
end GLo
end GC
