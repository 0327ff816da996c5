/-! calls: what either side ends with; town, law -/
def CallI (g : GS) (P : ab_P) (oc : Option (Int32 × ab_P)) (orr : ab_P → Option (Int32 × ab_P)) : Prop := ∃ (a : Nat) (v : Int64) (g' : GS), a ≤ 2 ∧ GOK g' ∧ TT oc (CA g' P a v) ∧ ∀ P1, RREL g P1 → TT (orr P1) (RA g' P1 a v)
def CallL (g : GS) (P : ab_P) (oc : Option (Int32 × ab_P)) (orr : ab_P → Option (Int64 × ab_P)) : Prop := ∃ (a : Nat) (v : Int64) (g' : GS), a ≤ 2 ∧ GOK g' ∧ TT oc (CA g' P a v) ∧ ∀ P1, RREL g P1 → TT (orr P1) (RAL g' P1 a v)
/-- calls that throw nothing -/
def CallD (g : GS) (P : ab_P) (oc : Option (Int32 × ab_P)) (orr : ab_P → Option (Int32 × ab_P)) : Prop := ∃ (v : Int32) (g' : GS), GOK g' ∧ TT oc (fun q => q.1 = v ∧ CREL g' q.2 ∧ frI sCC P q.2 ∧ rmC P q.2) ∧ ∀ P1, RREL g P1 → TT (orr P1) (fun q => q.1 = v ∧ RREL g' q.2 ∧ fr sRR P1 q.2)
theorem bI_nd {p : Prop} [Decidable p] (h : p) : bI (decide (¬ p)) = 0 := by
  rw [bI_0]
  exact decide_eq_false (fun e => e h)
theorem bI_nn {p : Prop} [Decidable p] (h : ¬ p) : ¬ bI (decide (¬ p)) = 0 := by
  rw [bI_0, decide_eq_true h]
  decide
section CA
variable {g g' : GS} {P : ab_P} {N K n : Nat} {v : Int32}
theorem h2_put {o : Option ((Int32 ⊕ Fin 3) × ab_P)} {K0 K1 K2 : ab_P → Option (Int32 × ab_P)} (h : TT o (fun q => q.1 = .inl v ∧ CREL g' q.2 ∧ frI sCC P q.2 ∧ rmC P q.2)) : TT (ab_h2 o (fun v2 P1 => ab_lt (ab_pL P1 570 0 (v2).toInt64) fun P3 => some ((0 : Int32), P3)) K0 K1 K2) (CA g' P 0 v.toInt64) := by
  obtain ⟨⟨w, P1⟩, e, h1, h2, h3, h4⟩ := h
  dsimp only at h1 h2 h3 h4
  subst h1
  rw [e]
  exact TT_some (ca_put h2 h3 h4)
theorem h2_putL {o : Option ((Int64 ⊕ Fin 3) × ab_P)} {K0 K1 K2 : ab_P → Option (Int32 × ab_P)} {v : Int64} (h : TT o (fun q => q.1 = .inl v ∧ CREL g' q.2 ∧ frI sCC P q.2 ∧ rmC P q.2)) : TT (ab_h2 o (fun v2 P1 => ab_lt (ab_pL P1 570 0 v2) fun P3 => some ((0 : Int32), P3)) K0 K1 K2) (CA g' P 0 v) := by
  obtain ⟨⟨w, P1⟩, e, h1, h2, h3, h4⟩ := h
  dsimp only at h1 h2 h3 h4
  subst h1
  rw [e]
  exact TT_some (ca_put h2 h3 h4)
/-- a throw: which, and how the wrapper tells it -/
theorem h2_thr {ρ : Type} {o : Option ((ρ ⊕ Fin 3) × ab_P)} {F : ρ → ab_P → Option (Int32 × ab_P)} {K0 K1 K2 : ab_P → Option (Int32 × ab_P)} {E : Fin 3} {a : Nat} {v : Int64} (h : TT o (fun q => q.1 = .inr E ∧ CREL g' q.2 ∧ frI sCC P q.2 ∧ rmC P q.2)) (hK : ∀ P1, (if E = 0 then K0 P1 else if E = 1 then K1 P1 else K2 P1) = some (iN a, P1)) (ha : a ≠ 0) : TT (ab_h2 o F K0 K1 K2) (CA g' P a v) := by
  obtain ⟨⟨w, P1⟩, e, h1, h2, h3, h4⟩ := h
  dsimp only at h1 h2 h3 h4
  subst h1
  rw [e]
  show TT (if E = 0 then K0 P1 else if E = 1 then K1 P1 else K2 P1) _
  rw [hK]
  exact TT_some (ca_thr rfl ha h2 h3 h4)
/-- the reference's refusals -/
theorem r_badT {a x : Nat} (ha : 1 ≤ a) (ha3 : a ≤ 2) (hx : x < 3) (h : RREL g P) (ok : GOK g) (h0 : P.1 72 0 = 0) : TT (f_113 1 (iN a) (iN x) P) (fun q => q.1 = 1 ∧ q.2.1 72 0 = iN a ∧ RREL (gRf g x) q.2 ∧ fr sRR P q.2) := by
  obtain ⟨P1, e, h1, h2, h3⟩ := r_bad1 ha (by omega) hx h ok h0
  exact ⟨_, e, rfl, h1, h2, h3⟩
theorem r_t0 (h : RREL g P) (ok : GOK g) : RREL g (ab_pI P 72 0 0) ∧ (ab_pI P 72 0 0).1 72 0 = 0 ∧ fr sRR P (ab_pI P 72 0 0) := ⟨h.t0 ok, pI_eq, fr.I (by unfold sRR; omega)⟩
/-- a text's length, asked for by the reference -/
theorem r_need (h : RREL g P) (a : Int32) : f_112 P a 0 (P.1 72 1) = some (bI (decide (¬ (a < 0 ∨ iN g.F < a)))) := by
  unfold f_112
  rw [h.1]
  by_cases h1 : a < 0
  · rw [if_pos h1]
    simp [h1, bI]
  · rw [if_neg h1]
    by_cases h2 : iN g.F < a
    · rw [if_pos h2]
      simp [h2, bI]
    · rw [if_neg h2]
      simp [h1, h2, bI]
theorem bad_600 (ok : GOK g) (a : Int32) : isBad a 600 g.F ↔ (a < 0 ∨ iN g.F < a) := by
  unfold isBad
  constructor
  · rintro (h | h | h)
    · exact Or.inl h
    · refine Or.inr ?_
      have := ok.2.1
      rw [Int32.lt_iff_toInt_lt] at h ⊢
      rw [iN_toInt (by omega)] at h ⊢
      omega
    · exact Or.inr h
  · rintro (h | h)
    · exact Or.inl h
    · exact Or.inr (Or.inr h)
theorem fr_I {P' : ab_P} (f : fr sCC P P') : frI sCC P P' := f.I2
/-- refused: a text that isn't there -/
theorem c_badT {m : Nat} {a : Int32} {o : Option ((Int32 ⊕ Fin 3) × ab_P)} {F : Unit → ab_P → Option ((Int32 ⊕ Fin 3) × ab_P)} (h : CREL g P) (hb : isBad a m g.F) (ho : o = ab_x2 (f_198 a (iN m) P) F (fun q => q)) : TT o (fun q => q.1 = .inr 1 ∧ CREL (gRf g 1) q.2 ∧ frI sCC P q.2 ∧ rmC P q.2) := by
  rw [ho, c_need h a m, if_pos (show a < 0 ∨ iN m < a ∨ iN g.F < a from hb), x2_thr]
  obtain ⟨h1, h2, h3⟩ := h.thr 1 (by decide)
  exact TT_some ⟨rfl, h1, h2, h3⟩
theorem c_fin1 {o : Option ((Int32 ⊕ Fin 3) × ab_P)} (h : TT o (fun r => r.1 = .inl v ∧ CREL g' r.2 ∧ fr sCC P r.2)) : TT o (fun q => q.1 = .inl v ∧ CREL g' q.2 ∧ frI sCC P q.2 ∧ rmC P q.2) := h.mono (fun r hr => ⟨hr.1, hr.2.1, hr.2.2.I2, rmC.of hr.2.2.2.2⟩)
theorem k_town (h : CREL g P) (ok : GOK g) (a : Int32) (hN : 70000 ≤ N) : CallI g P (f_5_1 N a P) (f_6 N a) := by
  unfold CallI f_5_1 f_6
  by_cases hb : isBad a 600 g.F
  · refine ⟨1, 0, gRf g 1, by decide, gRf_ok ok, h2_thr (E := 1) (c_badT (m := 600) h hb rfl) (fun P1 => rfl) (by decide), fun P1 h1 => ?_⟩
    obtain ⟨t1, t2, t3⟩ := r_t0 h1 ok
    refine TT_lt ?_
    rw [r_need t1, Option.bind_some, if_pos (bI_nd ((bad_600 ok a).mp hb))]
    unfold f_6_23
    refine TT_b2 (r_badT (a := 1) (x := 1) (by decide) (by decide) (by decide) t1 ok t2) (fun v1 P2 hv => ?_)
    obtain ⟨b1, b2, b3, b4⟩ := hv
    dsimp only at b1 b2 b3 b4
    rw [b1, if_neg (by decide)]
    exact TT_some ⟨fun e => absurd e (by decide), b2, b3, t3.tr b4⟩
  · obtain ⟨n, hn6, hnF, hn⟩ := need_of ok.2.1 (by decide) hb
    have hc := c_town h ok hb hn hn6 hN
    have hr : ∀ P1, RREL g P1 → TT (ab_lt (ab_pI P1 72 0 (0 : Int32)) fun P1 => Option.bind (f_112 P1 a (0 : Int32) (P1.1 72 1)) fun v2 => if v2 = (0 : Int32) then f_6_23 N a (1 : Int32) P1 else f_6_23 N a (0 : Int32) P1) (fun r => (match townS (g.B, n) with
        | (D, .inl _) => r.1 = iN D.2.2.1 ∧ RREL (gTown g D) r.2
        | (_, .inr f) => r.1 = iN f.1 - 10 ∧ RREL (gFail g (iN f.2)) r.2) ∧ r.2.1 72 0 = 0 ∧ fr sRR P1 r.2) := fun P1 h1 => by
      obtain ⟨t1, t2, t3⟩ := r_t0 h1 ok
      refine TT_lt ?_
      rw [r_need t1, Option.bind_some, if_neg (bI_nn (fun e => hb ((bad_600 ok a).mpr e)))]
      unfold f_6_23
      rw [r_bad0 _ _ _ t2, b2_some, if_pos rfl]
      exact (r_town t1 ok t2 hn hn6 hN).mono (fun r hr => ⟨hr.1, hr.2.1, t3.tr hr.2.2⟩)
    cases hx : townS (g.B, n) with
    | mk D s =>
      rw [hx] at hc hr
      cases s with
      | inl q =>
        have hD : okD D := by
          have := tnL_ok (T := (g.B, n)) (c := 62) (i := 0) (s := .inl (sk (g.B, n) 0)) (q' := q) td0_ok (by show (townS (g.B, n)).2 = _; rw [hx])
          rw [show tnL (g.B, n) 62 0 td0 (.inl (sk (g.B, n) 0)) = townS (g.B, n) from rfl, hx] at this
          exact this
        exact ⟨0, _, gTown g D, by decide, gTown_ok ok hD, h2_put (c_fin1 (hc.mono (fun r hr => ⟨hr.1.1, hr.1.2, hr.2⟩))), fun P1 h1 => (hr P1 h1).mono (fun r hr => ⟨fun _ => congrArg Int32.toInt64 hr.1.1, hr.2.1, hr.1.2, hr.2.2⟩)⟩
      | inr f =>
        exact ⟨0, _, gFail g (iN f.2), by decide, gFail_ok ok, h2_put (c_fin1 (hc.mono (fun r hr => ⟨hr.1.1, hr.1.2, hr.2⟩))), fun P1 h1 => (hr P1 h1).mono (fun r hr => ⟨fun _ => congrArg Int32.toInt64 hr.1.1, hr.2.1, hr.1.2, hr.2.2⟩)⟩
/-- a text's length where the reference has a bound of its own -/
theorem bad_lt {m : Nat} (a : Int32) : isBad a m g.F ↔ ((a < 0 ∨ iN g.F < a) ∨ iN m < a) := by
  unfold isBad
  constructor
  · rintro (h | h | h)
    · exact Or.inl (Or.inl h)
    · exact Or.inr h
    · exact Or.inl (Or.inr h)
  · rintro ((h | h) | h)
    · exact Or.inl h
    · exact Or.inr (Or.inr h)
    · exact Or.inr (Or.inl h)
theorem k_law (hK : 7 ≤ K) (h : CREL g P) (ok : GOK g) (a : Int32) (hN : 70000 ≤ N) : CallI g P (f_8_1 K N a P) (f_9 K N a) := by
  unfold CallI f_8_1 f_9
  by_cases hb : isBad a 150 g.F
  · refine ⟨1, 0, gRf g 1, by decide, gRf_ok ok, h2_thr (E := 1) (c_badT (m := 150) h hb rfl) (fun P1 => rfl) (by decide), fun P1 h1 => ?_⟩
    obtain ⟨t1, t2, t3⟩ := r_t0 h1 ok
    refine TT_lt ?_
    rw [r_need t1, Option.bind_some]
    have fin : TT (f_9_30 K N a 1 (ab_pI P1 72 0 0)) (RA (gRf g 1) P1 1 0) := by
      unfold f_9_30
      refine TT_b2 (r_badT (a := 1) (x := 1) (by decide) (by decide) (by decide) t1 ok t2) (fun v1 P2 hv => ?_)
      obtain ⟨b1, b2, b3, b4⟩ := hv
      dsimp only at b1 b2 b3 b4
      rw [b1, if_neg (by decide)]
      exact TT_some ⟨fun e => absurd e (by decide), b2, b3, t3.tr b4⟩
    by_cases h2 : a < 0 ∨ iN g.F < a
    · rw [if_pos (bI_nd h2)]
      exact fin
    · have h3 : iN 150 < a := by
        rcases (bad_lt a).mp hb with e | e
        · exact absurd e h2
        · exact e
      rw [if_neg (bI_nn h2), if_pos (show (150 : Int32) < a from h3)]
      exact fin
  · obtain ⟨n, hn6, hnF, hn⟩ := need_of ok.2.1 (by decide) hb
    have hc := c_law1 hK h ok hb hn hn6 hN
    have hr : ∀ P1, RREL g P1 → TT (ab_lt (ab_pI P1 72 0 (0 : Int32)) fun P1 => Option.bind (f_112 P1 a (0 : Int32) (P1.1 72 1)) fun v2 => if v2 = (0 : Int32) then f_9_30 K N a (1 : Int32) P1 else if (150 : Int32) < a then f_9_30 K N a (1 : Int32) P1 else f_9_30 K N a (0 : Int32) P1) (fun r => (match lawS (g.B, n) K with
        | (w, .inl _) => r.1 = 1 ∧ RREL (gLaw g w) r.2
        | (_, .inr f) => r.1 = iN f.1 - 10 ∧ RREL (gFail g (iN f.2)) r.2) ∧ r.2.1 72 0 = 0 ∧ fr sRR P1 r.2) := fun P1 h1 => by
      obtain ⟨t1, t2, t3⟩ := r_t0 h1 ok
      refine TT_lt ?_
      rw [r_need t1, Option.bind_some, if_neg (bI_nn (fun e => hb ((bad_lt a).mpr (Or.inl e)))), if_neg (show ¬ (150 : Int32) < a from fun e => hb ((bad_lt a).mpr (Or.inr e)))]
      unfold f_9_30
      rw [r_bad0 _ _ _ t2, b2_some, if_pos rfl]
      exact (r_law1 hK t1 ok t2 hn hn6 hN).mono (fun r hr => ⟨hr.1, hr.2.1, t3.tr hr.2.2⟩)
    have hl := fun (q : Nat) (e : (lawS (g.B, n) K).2 = .inl q) => lawS_ok (T := (g.B, n)) (K := K) hK hn6 e
    cases hx : lawS (g.B, n) K with
    | mk w s =>
      rw [hx] at hc hr hl
      cases s with
      | inl q => exact ⟨0, _, gLaw g w, by decide, gLaw_ok ok (hl q rfl).1, h2_put (c_fin1 (hc.mono (fun r hr => ⟨hr.1.1, hr.1.2, hr.2⟩))), fun P1 h1 => (hr P1 h1).mono (fun r hr => ⟨fun _ => congrArg Int32.toInt64 hr.1.1, hr.2.1, hr.1.2, hr.2.2⟩)⟩
      | inr f => exact ⟨0, _, gFail g (iN f.2), by decide, gFail_ok ok, h2_put (c_fin1 (hc.mono (fun r hr => ⟨hr.1.1, hr.1.2, hr.2⟩))), fun P1 h1 => (hr P1 h1).mono (fun r hr => ⟨fun _ => congrArg Int32.toInt64 hr.1.1, hr.2.1, hr.1.2, hr.2.2⟩)⟩
end CA
