/-! calls: the questions, first part -/
section GQ
variable {g g' : GS} {P : ab_P} {N K n : Nat}
theorem cP_yes {β : Type} {a : Int32} {F : Unit → ab_P → Option ((β ⊕ Fin 3) × ab_P)} (h : CREL g P) (ha : isP g.W.pe a) : ab_x2 (f_232 a P) F (fun q => q) = F () P := by
  rw [c_isP h, if_pos ha, x2_some]
theorem cP_no {β : Type} {a : Int32} {F : Unit → ab_P → Option ((β ⊕ Fin 3) × ab_P)} (h : CREL g P) (ha : ¬ isP g.W.pe a) : ab_x2 (f_232 a P) F (fun q => q) = some (.inr 0, noC 0 P) := by
  rw [c_isP h, if_neg ha, x2_thr]
theorem cC_yes {β : Type} {a : Int32} {F : Unit → ab_P → Option ((β ⊕ Fin 3) × ab_P)} (h : CREL g P) (ha : isP g.W.L.2.1 a) : ab_x2 (f_230 a P) F (fun q => q) = F () P := by
  rw [c_isC h, if_pos ha, x2_some]
theorem cC_no {β : Type} {a : Int32} {F : Unit → ab_P → Option ((β ⊕ Fin 3) × ab_P)} (h : CREL g P) (ha : ¬ isP g.W.L.2.1 a) : ab_x2 (f_230 a P) F (fun q => q) = some (.inr 0, noC 0 P) := by
  rw [c_isC h, if_neg ha, x2_thr]
theorem c1_yes {β : Type} {F : Unit → ab_P → Option ((β ⊕ Fin 3) × ab_P)} : ab_x2 (f_228 (1 : Int32) P) F (fun q => q) = F () P := rfl
theorem c1_no {β : Type} {F : Unit → ab_P → Option ((β ⊕ Fin 3) × ab_P)} : ab_x2 (f_228 (0 : Int32) P) F (fun q => q) = some (.inr 1, noC 1 P) := rfl
theorem cb_yes {β : Type} {a lo hi : Int32} {F : Unit → ab_P → Option ((β ⊕ Fin 3) × ab_P)} (ha : isRg lo hi a) : (Option.bind (f_240 P a lo hi) fun v => ab_x2 (f_228 v P) F (fun q => q)) = F () P := by
  rw [c240, Option.bind_some, decide_eq_true ha]; rfl
theorem cb_no {β : Type} {a lo hi : Int32} {F : Unit → ab_P → Option ((β ⊕ Fin 3) × ab_P)} (ha : ¬ isRg lo hi a) : (Option.bind (f_240 P a lo hi) fun v => ab_x2 (f_228 v P) F (fun q => q)) = some (.inr 1, noC 1 P) := by
  rw [c240, Option.bind_some, decide_eq_false ha]; rfl
theorem cc_yes {α : Type} {lo hi a : Int32} {A B : Option α} (h : isRg lo hi a) : (Option.bind (f_240 P a lo hi) fun v => if v = (0 : Int32) then A else B) = B := rr_yes (P := P) h
theorem cc_no {α : Type} {lo hi a : Int32} {A B : Option α} (h : ¬ isRg lo hi a) : (Option.bind (f_240 P a lo hi) fun v => if v = (0 : Int32) then A else B) = A := rr_no (P := P) h
theorem rg01 {a : Int32} (h : isRg 0 1 a) : a = 0 ∨ a = 1 := by
  obtain ⟨k, hk, rfl⟩ := isRg_nat (n := 1) (by decide) h
  rcases (show k = 0 ∨ k = 1 by omega) with rfl | rfl
  · exact Or.inl rfl
  · exact Or.inr rfl
theorem sw_yes {α : Type} {a : Int32} {A B : α} (h : isRg 0 1 a) : (if a = (0 : Int32) then A else if a = (1 : Int32) then A else B) = A := by
  rcases rg01 h with e | e
  · rw [if_pos e]
  · rw [if_neg (by rw [e]; decide), if_pos e]
theorem sw_no {α : Type} {a : Int32} {A B : α} (h : ¬ isRg 0 1 a) : (if a = (0 : Int32) then A else if a = (1 : Int32) then A else B) = B := by
  rw [if_neg (fun e => h (by rw [e]; decide)), if_neg (fun e => h (by rw [e]; decide))]
theorem c_b2 {v : Int32} {o : Option (Int32 × ab_P)} {P0 : ab_P} (h : TT o (fun q => q.1 = v ∧ fr scC P0 q.2)) : TT (ab_b2 o fun v P => (some (.inl v, P) : Option ((Int32 ⊕ Fin 3) × ab_P))) (fun q => q.1 = .inl v ∧ fr scC P0 q.2) := TT_b2 h (fun _ _ hv => TT_some ⟨congrArg Sum.inl hv.1, hv.2⟩)
theorem r_b2 {ρ : Type} {o : Option (ρ × ab_P)} {Q : ρ × ab_P → Prop} (h : TT o Q) : TT (ab_b2 o fun v P => some (v, P)) Q := TT_b2 h (fun _ _ hv => TT_some hv)
theorem c_total {L : LG} (h : CL 43 L P) {k : Nat} (h1 : 1 ≤ k) (h5 : k < 5) : f_237 43 P (iN k) = some (L.2.2.2 k) := by
  unfold f_237
  rw [if_neg (by rw [iN_neg (by omega)]; decide), if_pos (by rw [iN_ltl (by omega) (by decide)]; exact h5), if_pos (iN_gi h5 (by decide)), iN_nat (by omega)]
  exact congrArg some (h.2.2.2.1 k h1 h5)

theorem k_told (h : CREL g P) (ok : GOK g) (a : Int32) (hN : 70000 ≤ N) : CallI g P (f_18_1 N a P) (f_19 N a) := by
  unfold f_18_1 f_19
  by_cases ha : isRg (0) (7) a
  · obtain ⟨k, hk, rfl⟩ := isRg_nat (n := 7) (by decide) ha
    rcases (show k = 0 ∨ k = 1 ∨ k = 2 ∨ k = 3 ∨ k = 4 ∨ k = 5 ∨ k = 6 ∨ k = 7 by omega) with rfl | rfl | rfl | rfl | rfl | rfl | rfl | rfl
    · refine kI_val h ok (v := (iN g.W.pe)) ?_ (fun P1 h1 h0 => ?_)
      · skip
        unfold f_131
        rw [rg_yes ha]
        unfold f_131_16
        rw [c1_yes]
        rw [if_pos (by decide)]
        exact congrArg (fun x => (some (.inl x, P) : Option ((Int32 ⊕ Fin 3) × ab_P))) (h.2.2.2.1.pe)
      · skip
        rw [rr_yes ha]
        unfold f_19_21
        rw [r_goon h0]
        unfold f_19_31
        rw [if_pos (by decide)]
        exact congrArg (fun x => (some (x, P1) : Option (Int32 × ab_P))) (h1.2.2.2.1.pe)
    · refine kI_val h ok (v := (iN g.W.L.2.1)) ?_ (fun P1 h1 h0 => ?_)
      · skip
        unfold f_131
        rw [rg_yes ha]
        unfold f_131_16
        rw [c1_yes]
        rw [if_neg (by decide), if_pos (by decide)]
        exact congrArg (fun x => (some (.inl x, P) : Option ((Int32 ⊕ Fin 3) × ab_P))) (h.2.2.2.1.c.made)
      · skip
        rw [rr_yes ha]
        unfold f_19_21
        rw [r_goon h0]
        unfold f_19_31
        rw [if_neg (by decide), if_pos (by decide)]
        exact congrArg (fun x => (some (x, P1) : Option (Int32 × ab_P))) (h1.2.2.2.1.r.made)
    · refine kI_val h ok (v := (sStanding g.W.L)) ?_ (fun P1 h1 h0 => ?_)
      · skip
        unfold f_131
        rw [rg_yes ha]
        unfold f_131_16
        rw [c1_yes]
        rw [if_neg (by decide), if_neg (by decide), if_pos (by decide), c_standing h.2.2.2.1.c hN, Option.bind_some]
      · skip
        rw [rr_yes ha]
        unfold f_19_21
        rw [r_goon h0]
        unfold f_19_31
        rw [if_neg (by decide), if_neg (by decide), if_pos (by decide), r_standing h1.2.2.2.1.r hN, Option.bind_some]
    · refine kI_val h ok (v := g.W.L.2.2.1) ?_ (fun P1 h1 h0 => ?_)
      · skip
        unfold f_131
        rw [rg_yes ha]
        unfold f_131_16
        rw [c1_yes]
        rw [if_neg (by decide), if_neg (by decide), if_neg (by decide), if_pos (by decide)]
        exact congrArg (fun x => (some (.inl x, P) : Option ((Int32 ⊕ Fin 3) × ab_P))) (h.2.2.2.1.c.day)
      · skip
        rw [rr_yes ha]
        unfold f_19_21
        rw [r_goon h0]
        unfold f_19_31
        rw [if_neg (by decide), if_neg (by decide), if_neg (by decide), if_pos (by decide)]
        exact congrArg (fun x => (some (x, P1) : Option (Int32 × ab_P))) (h1.2.2.2.1.r.day)
    · refine kI_val h ok (v := (iN g.W.it)) ?_ (fun P1 h1 h0 => ?_)
      · skip
        unfold f_131
        rw [rg_yes ha]
        unfold f_131_16
        rw [c1_yes]
        rw [if_neg (by decide), if_neg (by decide), if_neg (by decide), if_neg (by decide), if_pos (by decide)]
        exact congrArg (fun x => (some (.inl x, P) : Option ((Int32 ⊕ Fin 3) × ab_P))) (h.2.2.2.1.it)
      · skip
        rw [rr_yes ha]
        unfold f_19_21
        rw [r_goon h0]
        unfold f_19_31
        rw [if_neg (by decide), if_neg (by decide), if_neg (by decide), if_neg (by decide), if_pos (by decide), if_pos (by decide)]
        exact congrArg (fun x => (some (x, P1) : Option (Int32 × ab_P))) (h1.2.2.2.1.it)
    · refine kI_val h ok (v := g.W.bi) ?_ (fun P1 h1 h0 => ?_)
      · skip
        unfold f_131
        rw [rg_yes ha]
        unfold f_131_16
        rw [c1_yes]
        rw [if_neg (by decide), if_neg (by decide), if_neg (by decide), if_neg (by decide), if_neg (by decide), if_pos (by decide)]
        exact congrArg (fun x => (some (.inl x, P) : Option ((Int32 ⊕ Fin 3) × ab_P))) (h.2.2.2.1.bi)
      · skip
        rw [rr_yes ha]
        unfold f_19_21
        rw [r_goon h0]
        unfold f_19_31
        rw [if_neg (by decide), if_neg (by decide), if_neg (by decide), if_neg (by decide), if_neg (by decide), if_pos (by decide), if_pos (by decide)]
        exact congrArg (fun x => (some (x, P1) : Option (Int32 × ab_P))) (h1.2.2.2.1.bi)
    · refine kI_val h ok (v := (iN g.K.1)) ?_ (fun P1 h1 h0 => ?_)
      · skip
        unfold f_131
        rw [rg_yes ha]
        unfold f_131_16
        rw [c1_yes]
        rw [if_neg (by decide), if_neg (by decide), if_neg (by decide), if_neg (by decide), if_neg (by decide), if_neg (by decide), if_pos (by decide)]
        exact congrArg (fun x => (some (.inl x, P) : Option ((Int32 ⊕ Fin 3) × ab_P))) (h.2.2.2.2.2.1.1)
      · skip
        rw [rr_yes ha]
        unfold f_19_21
        rw [r_goon h0]
        unfold f_19_31
        rw [if_neg (by decide), if_neg (by decide), if_neg (by decide), if_neg (by decide), if_neg (by decide), if_neg (by decide), if_pos (by decide)]
        exact congrArg (fun x => (some (x, P1) : Option (Int32 × ab_P))) (h1.2.2.2.2.2.1.1)
    · refine kI_val h ok (v := g.rd) ?_ (fun P1 h1 h0 => ?_)
      · skip
        unfold f_131
        rw [rg_yes ha]
        unfold f_131_16
        rw [c1_yes]
        rw [if_neg (by decide), if_neg (by decide), if_neg (by decide), if_neg (by decide), if_neg (by decide), if_neg (by decide), if_neg (by decide)]
        exact congrArg (fun x => (some (.inl x, P) : Option ((Int32 ⊕ Fin 3) × ab_P))) (h.2.2.2.2.2.2.1)
      · skip
        rw [rr_yes ha]
        unfold f_19_21
        rw [r_goon h0]
        unfold f_19_31
        rw [if_neg (by decide), if_neg (by decide), if_neg (by decide), if_neg (by decide), if_neg (by decide), if_neg (by decide), if_neg (by decide)]
        exact congrArg (fun x => (some (x, P1) : Option (Int32 × ab_P))) (h1.2.2.2.2.2.2.1)
  · refine kI_bad (E := 1) (a := 1) (x := 1) h ok ?_ (fun P1 => rfl) (by decide) (by decide) (by decide) (fun P1 h1 h0 => ?_)
    · unfold f_131
      rw [rg_no ha]
      unfold f_131_16
      exact c1_no
    · rw [rr_no ha]
      unfold f_19_21
      exact r_stop (a := 1) (x := 1) h1 ok h0 (by decide) (by decide) (by decide)
theorem k_claim (h : CREL g P) (ok : GOK g) (a b : Int32) (hN : 70000 ≤ N) : CallI g P (f_20_1 a b P) (f_21 a b) := by
  unfold f_20_1 f_21
  by_cases ha : isP g.W.L.2.1 a
  · by_cases hb : isRg (0) (7) b
    · obtain ⟨k, hk, rfl⟩ := isP_nat (by have := h.2.2.2.1.c.1; omega) ha
      obtain ⟨f, hf, rfl⟩ := isRg_nat (n := 7) (by decide) hb
      refine kI_val h ok (v := (g.W.L.1 f k)) ?_ (fun P1 h1 h0 => ?_)
      · skip
        unfold f_133
        rw [cC_yes h ha]
        rw [rg_yes hb]
        unfold f_133_21
        rw [c1_yes]
        rw [c_get h.2.2.2.1.c (by omega) hk, Option.bind_some]
      · skip
        rw [rC_yes h1 ha]
        unfold f_21_19
        rw [r_goon h0]
        rw [rr_yes hb]
        unfold f_21_43
        rw [r_goon h0]
        rw [r_of h1.2.2.2.1.r (by omega) hk, Option.bind_some]
    · refine kI_bad (E := 1) (a := 2) (x := 1) h ok ?_ (fun P1 => rfl) (by decide) (by decide) (by decide) (fun P1 h1 h0 => ?_)
      · unfold f_133
        rw [cC_yes h ha]
        rw [rg_no hb]
        unfold f_133_21
        exact c1_no
      · rw [rC_yes h1 ha]
        unfold f_21_19
        rw [r_goon h0]
        rw [rr_no hb]
        unfold f_21_43
        exact r_stop (a := 2) (x := 1) h1 ok h0 (by decide) (by decide) (by decide)
  · refine kI_bad (E := 0) (a := 1) (x := 0) h ok ?_ (fun P1 => rfl) (by decide) (by decide) (by decide) (fun P1 h1 h0 => ?_)
    · unfold f_133
      rw [cC_no h ha]
    · rw [rC_no h1 ha]
      unfold f_21_19
      exact r_stop (a := 1) (x := 0) h1 ok h0 (by decide) (by decide) (by decide)
theorem k_person (h : CREL g P) (ok : GOK g) (a b : Int32) (hN : 70000 ≤ N) : CallI g P (f_22_1 N a b P) (f_23 N a b) := by
  unfold f_22_1 f_23
  by_cases ha : isP g.W.pe a
  · by_cases hb : isRg (0) (4) b
    · obtain ⟨k, hk, rfl⟩ := isP_nat (by have := ok.2.2.1.1.1; omega) ha
      obtain ⟨f, hf, rfl⟩ := isRg_nat (n := 4) (by decide) hb
      rcases (show f = 0 ∨ f = 1 ∨ f = 2 ∨ f = 3 ∨ f = 4 by omega) with rfl | rfl | rfl | rfl | rfl
      · refine kI_val h ok (v := (g.W.te k)) ?_ (fun P1 h1 h0 => ?_)
        · skip
          unfold f_136
          rw [cP_yes h ha]
          rw [rg_yes hb]
          unfold f_136_20
          rw [c1_yes]
          rw [if_pos (by decide), c_temper h.2.2.2.1 ok.2.2.1 hk, Option.bind_some]
        · skip
          rw [rP_yes h1 ok ha]
          unfold f_23_19
          rw [r_goon h0]
          rw [rr_yes hb]
          unfold f_23_42
          rw [r_goon h0]
          unfold f_23_52
          have h8 := ok.2.2.1.1.1
          rw [if_pos (by decide), if_pos (iN_gi (by omega) (by decide)), iN_nat (by omega)]
          exact congrArg (fun x => (some (x, P1) : Option (Int32 × ab_P))) (h1.2.2.2.1.2.2.1 k hk)
      · refine kI_val h ok (v := (sBy g.W.L 1 (iN k))) ?_ (fun P1 h1 h0 => ?_)
        · skip
          unfold f_136
          rw [cP_yes h ha]
          rw [rg_yes hb]
          unfold f_136_20
          rw [c1_yes]
          rw [if_neg (by decide), if_pos (by decide), show f_234 43 N P (1 : Int32) (iN k) = _ from c_by (f := 1) h.2.2.2.1.c (by decide) hN, Option.bind_some]
        · skip
          rw [rP_yes h1 ok ha]
          unfold f_23_19
          rw [r_goon h0]
          rw [rr_yes hb]
          unfold f_23_42
          rw [r_goon h0]
          unfold f_23_52
          rw [if_neg (by decide), if_pos (by decide)]
          unfold f_23_81
          rw [if_pos (by decide), show f_138_366 477 N P1 (1 : Int32) (iN k) (1 : Int32) = _ from r_by (f := 1) h1.2.2.2.1.r (by decide) hN, Option.bind_some]
      · refine kI_val h ok (v := (sBy g.W.L 0 (iN k))) ?_ (fun P1 h1 h0 => ?_)
        · skip
          unfold f_136
          rw [cP_yes h ha]
          rw [rg_yes hb]
          unfold f_136_20
          rw [c1_yes]
          rw [if_neg (by decide), if_neg (by decide), if_pos (by decide), show f_234 43 N P (0 : Int32) (iN k) = _ from c_by (f := 0) h.2.2.2.1.c (by decide) hN, Option.bind_some]
        · skip
          rw [rP_yes h1 ok ha]
          unfold f_23_19
          rw [r_goon h0]
          rw [rr_yes hb]
          unfold f_23_42
          rw [r_goon h0]
          unfold f_23_52
          rw [if_neg (by decide), if_neg (by decide)]
          unfold f_23_81
          rw [if_pos (by decide), show f_138_366 477 N P1 (0 : Int32) (iN k) (1 : Int32) = _ from r_by (f := 0) h1.2.2.2.1.r (by decide) hN, Option.bind_some]
      · refine kI_val h ok (v := (sMany g.W.L 1 (iN k))) ?_ (fun P1 h1 h0 => ?_)
        · skip
          unfold f_136
          rw [cP_yes h ha]
          rw [rg_yes hb]
          unfold f_136_20
          rw [c1_yes]
          rw [if_neg (by decide), if_neg (by decide), if_neg (by decide), if_pos (by decide), show f_235 43 N P (1 : Int32) (iN k) = _ from c_many (f := 1) h.2.2.2.1.c (by decide) hN, Option.bind_some]
        · skip
          rw [rP_yes h1 ok ha]
          unfold f_23_19
          rw [r_goon h0]
          rw [rr_yes hb]
          unfold f_23_42
          rw [r_goon h0]
          unfold f_23_52
          rw [if_neg (by decide), if_pos (by decide)]
          unfold f_23_81
          rw [if_neg (by decide), show f_138_366 477 N P1 (1 : Int32) (iN k) (0 : Int32) = _ from r_many (f := 1) h1.2.2.2.1.r (by decide) hN, Option.bind_some]
      · refine kI_val h ok (v := (sMany g.W.L 0 (iN k))) ?_ (fun P1 h1 h0 => ?_)
        · skip
          unfold f_136
          rw [cP_yes h ha]
          rw [rg_yes hb]
          unfold f_136_20
          rw [c1_yes]
          rw [if_neg (by decide), if_neg (by decide), if_neg (by decide), if_neg (by decide), show f_235 43 N P (0 : Int32) (iN k) = _ from c_many (f := 0) h.2.2.2.1.c (by decide) hN, Option.bind_some]
        · skip
          rw [rP_yes h1 ok ha]
          unfold f_23_19
          rw [r_goon h0]
          rw [rr_yes hb]
          unfold f_23_42
          rw [r_goon h0]
          unfold f_23_52
          rw [if_neg (by decide), if_neg (by decide)]
          unfold f_23_81
          rw [if_neg (by decide), show f_138_366 477 N P1 (0 : Int32) (iN k) (0 : Int32) = _ from r_many (f := 0) h1.2.2.2.1.r (by decide) hN, Option.bind_some]
    · refine kI_bad (E := 1) (a := 2) (x := 1) h ok ?_ (fun P1 => rfl) (by decide) (by decide) (by decide) (fun P1 h1 h0 => ?_)
      · unfold f_136
        rw [cP_yes h ha]
        rw [rg_no hb]
        unfold f_136_20
        exact c1_no
      · rw [rP_yes h1 ok ha]
        unfold f_23_19
        rw [r_goon h0]
        rw [rr_no hb]
        unfold f_23_42
        exact r_stop (a := 2) (x := 1) h1 ok h0 (by decide) (by decide) (by decide)
  · refine kI_bad (E := 0) (a := 1) (x := 0) h ok ?_ (fun P1 => rfl) (by decide) (by decide) (by decide) (fun P1 h1 h0 => ?_)
    · unfold f_136
      rw [cP_no h ha]
    · rw [rP_no h1 ok ha]
      unfold f_23_19
      exact r_stop (a := 1) (x := 0) h1 ok h0 (by decide) (by decide) (by decide)
theorem k_worth (h : CREL g P) (ok : GOK g) (a b : Int32) (hN : 70000 ≤ N) : CallI g P (f_24_1 N a b P) (f_25 N a b) := by
  unfold f_24_1 f_25
  by_cases ha : isP g.W.pe a
  · by_cases hb : isRg 0 1 b
    · rcases rg01 hb with rfl | rfl
      · refine kI_val h ok (v := sWorth g.W.L a false) ?_ (fun P1 h1 h0 => ?_)
        · skip
          unfold f_139
          rw [cP_yes h ha]
          rw [sw_yes hb]
          unfold f_139_20
          rw [c1_yes]
          rw [if_neg (by decide), c_worth0 h.2.2.2.1.c hN, Option.bind_some]
        · skip
          rw [rP_yes h1 ok ha]
          unfold f_25_19
          rw [r_goon h0]
          rw [rr_yes hb]
          unfold f_25_42
          rw [r_goon h0]
          unfold f_25_52
          rw [if_neg (by decide), r_worth0 h1.2.2.2.1.r ok.2.2.1.1 hN, Option.bind_some]
      · refine kI_val h ok (v := sWorth g.W.L a true) ?_ (fun P1 h1 h0 => ?_)
        · skip
          unfold f_139
          rw [cP_yes h ha]
          rw [sw_yes hb]
          unfold f_139_20
          rw [c1_yes]
          rw [if_pos (by decide), c_worth1 h.2.2.2.1.c hN, Option.bind_some]
        · skip
          rw [rP_yes h1 ok ha]
          unfold f_25_19
          rw [r_goon h0]
          rw [rr_yes hb]
          unfold f_25_42
          rw [r_goon h0]
          unfold f_25_52
          rw [if_pos (by decide), r_worth1 h1.2.2.2.1.r ok.2.2.1.1 hN, Option.bind_some]
    · refine kI_bad (E := 1) (a := 2) (x := 1) h ok ?_ (fun P1 => rfl) (by decide) (by decide) (by decide) (fun P1 h1 h0 => ?_)
      · unfold f_139
        rw [cP_yes h ha]
        rw [sw_no hb]
        unfold f_139_20
        exact c1_no
      · rw [rP_yes h1 ok ha]
        unfold f_25_19
        rw [r_goon h0]
        rw [rr_no hb]
        unfold f_25_42
        exact r_stop (a := 2) (x := 1) h1 ok h0 (by decide) (by decide) (by decide)
  · refine kI_bad (E := 0) (a := 1) (x := 0) h ok ?_ (fun P1 => rfl) (by decide) (by decide) (by decide) (fun P1 h1 h0 => ?_)
    · unfold f_139
      rw [cP_no h ha]
    · rw [rP_no h1 ok ha]
      unfold f_25_19
      exact r_stop (a := 1) (x := 0) h1 ok h0 (by decide) (by decide) (by decide)
theorem k_sums (h : CREL g P) (ok : GOK g) (a : Int32) (hN : 70000 ≤ N) : CallI g P (f_26_1 N a P) (f_27 N a) := by
  unfold f_26_1 f_27
  by_cases ha : isRg (0) (4) a
  · obtain ⟨k, hk, rfl⟩ := isRg_nat (n := 4) (by decide) ha
    by_cases k0 : k = 0
    · subst k0
      refine kI_val h ok (v := sSorrows g.W.L) ?_ (fun P1 h1 h0 => ?_)
      · skip
        unfold f_141
        rw [rg_yes ha]
        unfold f_141_15
        rw [c1_yes]
        rw [if_pos (by decide), c_sorrows h.2.2.2.1.c hN, Option.bind_some]
      · skip
        rw [rr_yes ha]
        unfold f_27_20
        rw [r_goon h0]
        unfold f_27_30
        rw [if_pos (by decide), r_sorrows h1.2.2.2.1.r hN, Option.bind_some]
    · refine kI_val h ok (v := g.W.L.2.2.2 k) ?_ (fun P1 h1 h0 => ?_)
      · skip
        unfold f_141
        rw [rg_yes ha]
        unfold f_141_15
        rw [c1_yes]
        rw [if_neg (fun e => k0 (by rw [show (0 : Int32) = iN 0 from rfl, iN_eq (by omega) (by decide)] at e; exact e)), c_total h.2.2.2.1.c (by omega) (by omega), Option.bind_some]
      · skip
        rw [rr_yes ha]
        unfold f_27_20
        rw [r_goon h0]
        unfold f_27_30
        rw [if_neg (fun e => k0 (by rw [show (0 : Int32) = iN 0 from rfl, iN_eq (by omega) (by decide)] at e; exact e)), show ((362 : Int32) + iN k) - (1 : Int32) = iN (361 + k) from by rw [show (362 : Int32) + iN k = iN (362 + k) from iN_add 362 k, show iN (362 + k) - (1 : Int32) = iN (362 + k - 1) from iN_sub (a := 362 + k) (b := 1) (by omega)]; exact congrArg iN (by omega), if_pos (iN_gi (by omega) (by decide)), iN_nat (by omega)]
        exact congrArg (fun x => (some (x, P1) : Option (Int32 × ab_P))) (h1.2.2.2.1.r.2.2.2.1 k (by omega) (by omega))
  · refine kI_bad (E := 1) (a := 1) (x := 1) h ok ?_ (fun P1 => rfl) (by decide) (by decide) (by decide) (fun P1 h1 h0 => ?_)
    · unfold f_141
      rw [rg_no ha]
      unfold f_141_15
      exact c1_no
    · rw [rr_no ha]
      unfold f_27_20
      exact r_stop (a := 1) (x := 1) h1 ok h0 (by decide) (by decide) (by decide)
theorem k_between (h : CREL g P) (ok : GOK g) (a b : Int32) (hN : 70000 ≤ N) : CallI g P (f_28_1 N a b P) (f_29 N a b) := by
  unfold f_28_1 f_29
  by_cases ha : isP g.W.pe a
  · by_cases hb : isP g.W.pe b
    · refine kI_val h ok (v := (sOwed g.W.L a b)) ?_ (fun P1 h1 h0 => ?_)
      · skip
        unfold f_143
        rw [cP_yes h ha]
        rw [cP_yes h hb]
        rw [c_owed h.2.2.2.1.c hN, Option.bind_some]
      · skip
        rw [rP_yes h1 ok ha]
        rw [rP_yes h1 ok hb]
        unfold f_29_27
        rw [r_goon h0]
        exact r_owed h1.2.2.2.1.r hN
    · refine kI_bad (E := 0) (a := 1) (x := 0) h ok ?_ (fun P1 => rfl) (by decide) (by decide) (by decide) (fun P1 h1 h0 => ?_)
      · unfold f_143
        rw [cP_yes h ha]
        rw [cP_no h hb]
      · rw [rP_yes h1 ok ha]
        rw [rP_no h1 ok hb]
        unfold f_29_27
        exact r_stop (a := 1) (x := 0) h1 ok h0 (by decide) (by decide) (by decide)
  · refine kI_bad (E := 0) (a := 1) (x := 0) h ok ?_ (fun P1 => rfl) (by decide) (by decide) (by decide) (fun P1 h1 h0 => ?_)
    · unfold f_143
      rw [cP_no h ha]
    · rw [rP_no h1 ok ha]
      unfold f_29_27
      exact r_stop (a := 1) (x := 0) h1 ok h0 (by decide) (by decide) (by decide)
theorem k_meant (h : CREL g P) (ok : GOK g) (a : Int32) (hN : 70000 ≤ N) : CallI g P (f_30_1 N a P) (f_31 N a) := by
  unfold f_30_1 f_31
  by_cases ha : isP g.W.L.2.1 a
  · obtain ⟨k, hk, rfl⟩ := isP_nat (by have := h.2.2.2.1.c.1; omega) ha
    refine kI_scr h ok (v := (sMeant g.W k)) ?_ (fun P1 h1 h0 => ?_)
    · skip
      unfold f_145
      rw [cC_yes h ha]
      exact c_b2 (c_weigh h.2.2.2.1 ok.2.2.1 hk hN)
    · skip
      rw [rC_yes h1 ha]
      unfold f_31_19
      rw [r_goon h0]
      exact r_b2 (r_weigh h1.2.2.2.1 ok.2.2.1 hk hN)
  · refine kI_bad (E := 0) (a := 1) (x := 0) h ok ?_ (fun P1 => rfl) (by decide) (by decide) (by decide) (fun P1 h1 h0 => ?_)
    · unfold f_145
      rw [cC_no h ha]
    · rw [rC_no h1 ha]
      unfold f_31_19
      exact r_stop (a := 1) (x := 0) h1 ok h0 (by decide) (by decide) (by decide)
theorem k_would (h : CREL g P) (ok : GOK g) (a b c d e : Int32) (hN : 70000 ≤ N) : CallI g P (f_32_1 N a b c d e P) (f_33 N a b c d e) := by
  unfold f_32_1 f_33
  by_cases ha : isRg (0) (9999) a
  · by_cases hb : isRg (0) (999) b
    · by_cases hc : isRg (0) (9) c
      · by_cases hd : isRg (0) (9) d
        · by_cases he : isRg (0) (999) e
          · refine kI_scr h ok (v := (clamp (evK g.W.w.2 (tv a b c d e) g.W.w.1 0))) ?_ (fun P1 h1 h0 => ?_)
            · skip
              unfold f_147
              rw [cc_yes ha]
              rw [cc_yes hb]
              rw [cc_yes hc]
              rw [cc_yes hd]
              rw [cc_yes he]
              unfold f_147_61
              rw [c1_yes]
              exact c_b2 (c_would h.2.2.2.1 ok.2.2.1 a b c d e hN)
            · skip
              rw [rr_yes ha]
              rw [rr_yes hb]
              rw [rr_yes hc]
              rw [rr_yes hd]
              rw [rr_yes he]
              unfold f_33_66
              rw [r_goon h0]
              exact r_would h1.2.2.2.1 ok.2.2.1 a b c d e hN
          · refine kI_bad (E := 1) (a := 1) (x := 1) h ok ?_ (fun P1 => rfl) (by decide) (by decide) (by decide) (fun P1 h1 h0 => ?_)
            · unfold f_147
              rw [cc_yes ha]
              rw [cc_yes hb]
              rw [cc_yes hc]
              rw [cc_yes hd]
              rw [cc_no he]
              unfold f_147_61
              exact c1_no
            · rw [rr_yes ha]
              rw [rr_yes hb]
              rw [rr_yes hc]
              rw [rr_yes hd]
              rw [rr_no he]
              unfold f_33_66
              exact r_stop (a := 1) (x := 1) h1 ok h0 (by decide) (by decide) (by decide)
        · refine kI_bad (E := 1) (a := 1) (x := 1) h ok ?_ (fun P1 => rfl) (by decide) (by decide) (by decide) (fun P1 h1 h0 => ?_)
          · unfold f_147
            rw [cc_yes ha]
            rw [cc_yes hb]
            rw [cc_yes hc]
            rw [cc_no hd]
            unfold f_147_61
            exact c1_no
          · rw [rr_yes ha]
            rw [rr_yes hb]
            rw [rr_yes hc]
            rw [rr_no hd]
            unfold f_33_66
            exact r_stop (a := 1) (x := 1) h1 ok h0 (by decide) (by decide) (by decide)
      · refine kI_bad (E := 1) (a := 1) (x := 1) h ok ?_ (fun P1 => rfl) (by decide) (by decide) (by decide) (fun P1 h1 h0 => ?_)
        · unfold f_147
          rw [cc_yes ha]
          rw [cc_yes hb]
          rw [cc_no hc]
          unfold f_147_61
          exact c1_no
        · rw [rr_yes ha]
          rw [rr_yes hb]
          rw [rr_no hc]
          unfold f_33_66
          exact r_stop (a := 1) (x := 1) h1 ok h0 (by decide) (by decide) (by decide)
    · refine kI_bad (E := 1) (a := 1) (x := 1) h ok ?_ (fun P1 => rfl) (by decide) (by decide) (by decide) (fun P1 h1 h0 => ?_)
      · unfold f_147
        rw [cc_yes ha]
        rw [cc_no hb]
        unfold f_147_61
        exact c1_no
      · rw [rr_yes ha]
        rw [rr_no hb]
        unfold f_33_66
        exact r_stop (a := 1) (x := 1) h1 ok h0 (by decide) (by decide) (by decide)
  · refine kI_bad (E := 1) (a := 1) (x := 1) h ok ?_ (fun P1 => rfl) (by decide) (by decide) (by decide) (fun P1 h1 h0 => ?_)
    · unfold f_147
      rw [cc_no ha]
      unfold f_147_61
      exact c1_no
    · rw [rr_no ha]
      unfold f_33_66
      exact r_stop (a := 1) (x := 1) h1 ok h0 (by decide) (by decide) (by decide)
theorem k_heard (h : CREL g P) (ok : GOK g) (a : Int32) (hN : 70000 ≤ N) : CallI g P (f_70_1 N a P) (f_71 N a) := by
  unfold f_70_1 f_71
  by_cases ha : isP g.W.pe a
  · refine kI_scr h ok (v := (hrd g.W a g.W.L.2.1).1) ?_ (fun P1 h1 h0 => ?_)
    · skip
      unfold f_179
      rw [cP_yes h ha]
      exact c_b2 (c_hears h.2.2.2.1 ok.2.2.1 a hN)
    · skip
      rw [rP_yes h1 ok ha]
      unfold f_71_19
      rw [r_goon h0]
      rw [r_held h1.2.2.2.1.r hN, Option.bind_some]
      exact r_hears h1.2.2.2.1 ok.2.2.1 a hN
  · refine kI_bad (E := 0) (a := 1) (x := 0) h ok ?_ (fun P1 => rfl) (by decide) (by decide) (by decide) (fun P1 h1 h0 => ?_)
    · unfold f_179
      rw [cP_no h ha]
    · rw [rP_no h1 ok ha]
      unfold f_71_19
      exact r_stop (a := 1) (x := 0) h1 ok h0 (by decide) (by decide) (by decide)
theorem k_ways (h : CREL g P) (ok : GOK g) (a : Int32) (hN : 70000 ≤ N) : CallI g P (f_40_1 N a P) (f_41 N a) := by
  unfold f_40_1 f_41
  by_cases ha : isP g.W.pe a
  · refine kI_scr h ok (v := (iN (sWays g.W.L a))) ?_ (fun P1 h1 h0 => ?_)
    · skip
      unfold f_155
      rw [cP_yes h ha]
      exact c_b2 (c_ways h.2.2.2.1 ok.2.2.1 hN)
    · skip
      rw [rP_yes h1 ok ha]
      unfold f_41_19
      rw [r_goon h0]
      exact TT_bind (r_sums (p := a) h1.2.2.2.1 ok.2.2.1 hN) (fun P2 h2 => TT_eq (r_ways h2.1 hN) ⟨rfl, h2.2⟩)
  · refine kI_bad (E := 0) (a := 1) (x := 0) h ok ?_ (fun P1 => rfl) (by decide) (by decide) (by decide) (fun P1 h1 h0 => ?_)
    · unfold f_155
      rw [cP_no h ha]
    · rw [rP_no h1 ok ha]
      unfold f_41_19
      exact r_stop (a := 1) (x := 0) h1 ok h0 (by decide) (by decide) (by decide)
theorem k_master (h : CREL g P) (ok : GOK g) (a : Int32) (hN : 70000 ≤ N) : CallI g P (f_82_1 N a P) (f_83 N a) := by
  unfold f_82_1 f_83
  by_cases ha : isP g.W.pe a
  · refine kI_val h ok (v := (sMst g.W.L a g.W.pe).1) ?_ (fun P1 h1 h0 => ?_)
    · skip
      unfold f_188
      rw [cP_yes h ha]
      exact c_master h.2.2.2.1.c ok.2.2.1.1.1 h.2.2.2.1.pe a hN
    · skip
      rw [rP_yes h1 ok ha]
      unfold f_83_19
      rw [r_goon h0]
      exact r_master h1.2.2.2.1.r ok.2.2.1.1.1 h1.2.2.2.1.pe a hN
  · refine kI_bad (E := 0) (a := 1) (x := 0) h ok ?_ (fun P1 => rfl) (by decide) (by decide) (by decide) (fun P1 h1 h0 => ?_)
    · unfold f_188
      rw [cP_no h ha]
    · rw [rP_no h1 ok ha]
      unfold f_83_19
      exact r_stop (a := 1) (x := 0) h1 ok h0 (by decide) (by decide) (by decide)
theorem k_swell (h : CREL g P) (ok : GOK g) (a : Int32) (hN : 70000 ≤ N) : CallI g P (f_60_1 N a P) (f_61 N a) := by
  unfold f_60_1 f_61
  by_cases ha : isRg (0) (60) a
  · obtain ⟨k, hk, rfl⟩ := isRg_nat (n := 60) (by decide) ha
    refine kI_val h ok (v := (sSwell g.W.L g.W.it k)) ?_ (fun P1 h1 h0 => ?_)
    · skip
      unfold f_172
      rw [cb_yes ha]
      rw [h.2.2.2.1.it, c_swell h.2.2.2.1.c ok.2.2.1.1 ok.2.2.1.2.2 (by omega) hN, Option.bind_some]
    · skip
      rw [rr_yes ha]
      unfold f_61_21
      rw [r_goon h0]
      rw [r_swell h1.2.2.2.1.r ok.2.2.1.1 h1.2.2.2.1.it ok.2.2.1.2.2 (by omega) hN, Option.bind_some]
  · refine kI_bad (E := 1) (a := 1) (x := 1) h ok ?_ (fun P1 => rfl) (by decide) (by decide) (by decide) (fun P1 h1 h0 => ?_)
    · unfold f_172
      rw [cb_no ha]
    · rw [rr_no ha]
      unfold f_61_21
      exact r_stop (a := 1) (x := 1) h1 ok h0 (by decide) (by decide) (by decide)
theorem k_extreme (h : CREL g P) (ok : GOK g) (a : Int32) (hN : 70000 ≤ N) : CallI g P (f_66_1 N a P) (f_67 N a) := by
  unfold f_66_1 f_67
  by_cases ha : isRg 0 1 a
  · rcases rg01 ha with rfl | rfl
    · refine kI_val h ok (v := oN (sRich g.W.L g.W.pe (1))) ?_ (fun P1 h1 h0 => ?_)
      · skip
        unfold f_176
        rw [sw_yes ha]
        unfold f_176_15
        rw [c1_yes]
        rw [if_pos (by decide), h.2.2.2.1.pe, c_rich h.2.2.2.1.c ok.2.2.1.1.1 (1) hN, Option.bind_some]
      · skip
        rw [rr_yes ha]
        unfold f_67_20
        rw [r_goon h0]
        rw [show (1 : Int32) - (2 : Int32) * 0 = 1 from by decide, r_rich h1.2.2.2.1.r ok.2.2.1.1 h1.2.2.2.1.pe (1) hN, Option.bind_some]
    · refine kI_val h ok (v := oN (sRich g.W.L g.W.pe (-1))) ?_ (fun P1 h1 h0 => ?_)
      · skip
        unfold f_176
        rw [sw_yes ha]
        unfold f_176_15
        rw [c1_yes]
        rw [if_neg (by decide), h.2.2.2.1.pe, c_rich h.2.2.2.1.c ok.2.2.1.1.1 (-1) hN, Option.bind_some]
      · skip
        rw [rr_yes ha]
        unfold f_67_20
        rw [r_goon h0]
        rw [show (1 : Int32) - (2 : Int32) * 1 = -1 from by decide, r_rich h1.2.2.2.1.r ok.2.2.1.1 h1.2.2.2.1.pe (-1) hN, Option.bind_some]
  · refine kI_bad (E := 1) (a := 1) (x := 1) h ok ?_ (fun P1 => rfl) (by decide) (by decide) (by decide) (fun P1 h1 h0 => ?_)
    · unfold f_176
      rw [sw_no ha]
      unfold f_176_15
      exact c1_no
    · rw [rr_no ha]
      unfold f_67_20
      exact r_stop (a := 1) (x := 1) h1 ok h0 (by decide) (by decide) (by decide)
theorem k_chosen (h : CREL g P) (ok : GOK g) (a : Int32) (hN : 70000 ≤ N) : CallI g P (f_68_1 N a P) (f_69 N a) := by
  unfold f_68_1 f_69
  by_cases ha : isRg 0 1 a
  · rcases rg01 ha with rfl | rfl
    · refine kI_val h ok (v := oN (fb (stL g.W.L) (fun a b => decide (g.W.L.1 3 a < g.W.L.1 3 b)) g.W.L.2.1)) ?_ (fun P1 h1 h0 => ?_)
      · skip
        unfold f_178
        rw [sw_yes ha]
        unfold f_178_15
        rw [c1_yes]
        rw [if_pos (by decide), c_oldest h.2.2.2.1.c hN, Option.bind_some]
      · skip
        rw [rr_yes ha]
        unfold f_69_20
        rw [r_goon h0]
        exact r_eldest h1.2.2.2.1 hN
    · refine kI_scr h ok (v := oN (sSweet g.W g.W.L.2.1)) ?_ (fun P1 h1 h0 => ?_)
      · skip
        unfold f_178
        rw [sw_yes ha]
        unfold f_178_15
        rw [c1_yes]
        rw [if_neg (by decide)]
        exact c_b2 (c_sweet h.2.2.2.1 ok.2.2.1 hN)
      · skip
        rw [rr_yes ha]
        unfold f_69_20
        rw [r_goon h0]
        exact r_sweet h1.2.2.2.1 ok.2.2.1 hN
  · refine kI_bad (E := 1) (a := 1) (x := 1) h ok ?_ (fun P1 => rfl) (by decide) (by decide) (by decide) (fun P1 h1 h0 => ?_)
    · unfold f_178
      rw [sw_no ha]
      unfold f_178_15
      exact c1_no
    · rw [rr_no ha]
      unfold f_69_20
      exact r_stop (a := 1) (x := 1) h1 ok h0 (by decide) (by decide) (by decide)
theorem k_grown (h : CREL g P) (ok : GOK g) (a b : Int32) (hN : 70000 ≤ N) : CallI g P (f_76_1 N a b P) (f_77 N a b) := by
  unfold f_76_1 f_77
  by_cases ha : isP g.W.L.2.1 a
  · by_cases hb : isRg (0) (60) b
    · obtain ⟨k, hk, rfl⟩ := isP_nat (by have := h.2.2.2.1.c.1; omega) ha
      obtain ⟨d, hd, rfl⟩ := isRg_nat (n := 60) (by decide) hb
      have hk4 : k < 2147483648 := by have := h.2.2.2.1.c.1; omega
      cases hs : stL g.W.L k with
      | false =>
        refine kI_val h ok (v := 0) ?_ (fun P1 h1 h0 => ?_)
        · skip
          unfold f_184
          rw [cC_yes h ha]
          rw [cb_yes hb]
          rw [c_stand h.2.2.2.1.c hk4, Option.bind_some, hs, if_pos (by decide)]
        · skip
          rw [rC_yes h1 ha]
          unfold f_77_19
          rw [r_goon h0]
          rw [rr_yes hb]
          unfold f_77_43
          rw [r_goon h0]
          unfold f_77_53
          rw [r_stand h1.2.2.2.1.r hk4, Option.bind_some, hs, if_pos (by decide)]
      | true =>
        refine kI_val h ok (v := iN (gIt g.W.it (zL g.W.L k) d)) ?_ (fun P1 h1 h0 => ?_)
        · skip
          unfold f_184
          rw [cC_yes h ha]
          rw [cb_yes hb]
          rw [c_stand h.2.2.2.1.c hk4, Option.bind_some, hs, if_neg (by decide), h.2.2.2.1.it, c_sizeAfter h.2.2.2.1.c ok.2.2.1.1 hk ok.2.2.1.2.2 (by omega) hN, Option.bind_some]
        · skip
          rw [rC_yes h1 ha]
          unfold f_77_19
          rw [r_goon h0]
          rw [rr_yes hb]
          unfold f_77_43
          rw [r_goon h0]
          unfold f_77_53
          rw [r_stand h1.2.2.2.1.r hk4, Option.bind_some, hs, if_neg (by decide), r_of2 h1.2.2.2.1.r hk, Option.bind_some, (zL_of ok.2.2.1.1 hk).1, r_grownBy h1.2.2.2.1.it ok.2.2.1.2.2 (zL_of ok.2.2.1.1 hk).2.2 (by omega) hN, Option.bind_some]
    · refine kI_bad (E := 1) (a := 2) (x := 1) h ok ?_ (fun P1 => rfl) (by decide) (by decide) (by decide) (fun P1 h1 h0 => ?_)
      · unfold f_184
        rw [cC_yes h ha]
        rw [cb_no hb]
      · rw [rC_yes h1 ha]
        unfold f_77_19
        rw [r_goon h0]
        rw [rr_no hb]
        unfold f_77_43
        exact r_stop (a := 2) (x := 1) h1 ok h0 (by decide) (by decide) (by decide)
  · refine kI_bad (E := 0) (a := 1) (x := 0) h ok ?_ (fun P1 => rfl) (by decide) (by decide) (by decide) (fun P1 h1 h0 => ?_)
    · unfold f_184
      rw [cC_no h ha]
    · rw [rC_no h1 ha]
      unfold f_77_19
      exact r_stop (a := 1) (x := 0) h1 ok h0 (by decide) (by decide) (by decide)
end GQ
