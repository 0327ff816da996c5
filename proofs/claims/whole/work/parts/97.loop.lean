/-! the law's loop -/
theorem cmp_self (v : Int64) : lg_cmp v v = (0 : Int32) := by
  unfold lg_cmp
  rw [if_neg (show ¬ v > v from Int64.lt_irrefl), if_pos rfl]
theorem rmC.tr {P P1 P2 : ab_P} (h : rmC P P1) (e : P2.2.2 = P1.2.2) : rmC P P2 := by
  unfold rmC ccP ssP at h ⊢
  rw [e]
  exact h
section LP
variable {g : GS} {P : ab_P} {N K n : Nat} {Q : Int32 × ab_P → Prop} {F : ab_P → Option (Int32 × ab_P)}
theorem stepI {oc : Option (Int32 × ab_P)} {orr : ab_P → Option (Int32 × ab_P)} {G : Int32 → ab_P → Option (Int32 × ab_P)} (F : ab_P → Option (Int32 × ab_P)) (h : RREL g P) (ok : GOK g) (hc : CallI g P oc orr) (next : ∀ g' P', GOK g' → CREL g' P' → RREL g' P' → rmC P P' → TT (F P') Q) (hG : ∀ w P1, G w P1 = ab_b2 (orr P1) fun v P2 => Option.bind (f_7 P2) fun u => if u = w then (if w = (0 : Int32) then (if (lg_cmp (P2.2.1 570 0) (v).toInt64) = (0 : Int32) then F P2 else some ((0 : Int32), P2)) else F P2) else some ((0 : Int32), P2)) : TT (ab_b2 oc G) Q := by
  obtain ⟨a, v, g', ha, ok', hc, hr⟩ := hc
  refine TT_b2 hc (fun w P1 h1 => ?_)
  obtain ⟨c1, c2, c3, c4, c5⟩ := h1
  dsimp only at c1 c2 c3 c4 c5
  rw [hG]
  refine TT_b2 (hr P1 (h.xc ok c4)) (fun v2 P2 h2 => ?_)
  obtain ⟨r1, r2, r3, r4⟩ := h2
  dsimp only at r1 r2 r3 r4
  have fin := next g' P2 ok' (c3.xr r4) r3 (c5.tr r4.2.2)
  unfold f_7
  rw [Option.bind_some, r2, c1, if_pos rfl]
  by_cases h0 : a = 0
  · rw [if_pos (by rw [h0]; rfl), r4.2.1 570 0 (by unfold sRR; omega), c2 h0, r1 h0, if_pos (cmp_self v)]
    exact fin
  · rw [if_neg (i_nz (by omega) h0)]
    exact fin
theorem stepL {oc : Option (Int32 × ab_P)} {orr : ab_P → Option (Int64 × ab_P)} {G : Int32 → ab_P → Option (Int32 × ab_P)} (F : ab_P → Option (Int32 × ab_P)) (h : RREL g P) (ok : GOK g) (hc : CallL g P oc orr) (next : ∀ g' P', GOK g' → CREL g' P' → RREL g' P' → rmC P P' → TT (F P') Q) (hG : ∀ w P1, G w P1 = ab_b2 (orr P1) fun v P2 => Option.bind (f_7 P2) fun u => if u = w then (if w = (0 : Int32) then (if (lg_cmp (P2.2.1 570 0) v) = (0 : Int32) then F P2 else some ((0 : Int32), P2)) else F P2) else some ((0 : Int32), P2)) : TT (ab_b2 oc G) Q := by
  obtain ⟨a, v, g', ha, ok', hc, hr⟩ := hc
  refine TT_b2 hc (fun w P1 h1 => ?_)
  obtain ⟨c1, c2, c3, c4, c5⟩ := h1
  dsimp only at c1 c2 c3 c4 c5
  rw [hG]
  refine TT_b2 (hr P1 (h.xc ok c4)) (fun v2 P2 h2 => ?_)
  obtain ⟨r1, r2, r3, r4⟩ := h2
  dsimp only at r1 r2 r3 r4
  have fin := next g' P2 ok' (c3.xr r4) r3 (c5.tr r4.2.2)
  unfold f_7
  rw [Option.bind_some, r2, c1, if_pos rfl]
  by_cases h0 : a = 0
  · rw [if_pos (by rw [h0]; rfl), r4.2.1 570 0 (by unfold sRR; omega), c2 h0, r1 h0, if_pos (cmp_self v)]
    exact fin
  · rw [if_neg (i_nz (by omega) h0)]
    exact fin
theorem stepD {oc : Option (Int32 × ab_P)} {orr : ab_P → Option (Int32 × ab_P)} {G : Int32 → ab_P → Option (Int32 × ab_P)} (F : ab_P → Option (Int32 × ab_P)) (h : RREL g P) (ok : GOK g) (hc : CallD g P oc orr) (next : ∀ g' P', GOK g' → CREL g' P' → RREL g' P' → rmC P P' → TT (F P') Q) (hG : ∀ w P1, G w P1 = ab_b2 (orr P1) fun v P2 => if w = v then F P2 else some ((0 : Int32), P2)) : TT (ab_b2 oc G) Q := by
  obtain ⟨v, g', ok', hc, hr⟩ := hc
  refine TT_b2 hc (fun w P1 h1 => ?_)
  obtain ⟨c1, c3, c4, c5⟩ := h1
  dsimp only at c1 c3 c4 c5
  rw [hG]
  refine TT_b2 (hr P1 (h.xc ok c4)) (fun v2 P2 h2 => ?_)
  obtain ⟨r1, r3, r4⟩ := h2
  dsimp only at r1 r3 r4
  rw [c1, r1, if_pos rfl]
  exact next g' P2 ok' (c3.xr r4) r3 (c5.tr r4.2.2)
theorem stepE {oc : Option (Int64 × ab_P)} {orr : ab_P → Option (Int64 × ab_P)} {G : Int64 → ab_P → Option (Int32 × ab_P)} (F : ab_P → Option (Int32 × ab_P)) (h : RREL g P) (ok : GOK g) (hc : CallE g P oc orr) (next : ∀ g' P', GOK g' → CREL g' P' → RREL g' P' → rmC P P' → TT (F P') Q) (hG : ∀ w P1, G w P1 = ab_b2 (orr P1) fun v P2 => if (lg_cmp w v) = (0 : Int32) then F P2 else some ((0 : Int32), P2)) : TT (ab_b2 oc G) Q := by
  obtain ⟨v, g', ok', hc, hr⟩ := hc
  refine TT_b2 hc (fun w P1 h1 => ?_)
  obtain ⟨c1, c3, c4, c5⟩ := h1
  dsimp only at c1 c3 c4 c5
  rw [hG]
  refine TT_b2 (hr P1 (h.xc ok c4)) (fun v2 P2 h2 => ?_)
  obtain ⟨r1, r3, r4⟩ := h2
  dsimp only at r1 r3 r4
  rw [c1, r1, if_pos (cmp_self v)]
  exact next g' P2 ok' (c3.xr r4) r3 (c5.tr r4.2.2)
theorem stepP {oc : Option Int32} {orr : ab_P → Option (Int32 × ab_P)} {G : Int32 → Option (Int32 × ab_P)} (F : ab_P → Option (Int32 × ab_P)) (hC : CREL g P) (h : RREL g P) (ok : GOK g) (hc : CallP g oc orr) (next : ∀ g' P', GOK g' → CREL g' P' → RREL g' P' → rmC P P' → TT (F P') Q) (hG : ∀ w, G w = ab_b2 (orr P) fun v P2 => if w = v then F P2 else some ((0 : Int32), P2)) : TT (Option.bind oc G) Q := by
  obtain ⟨v, hc, hr⟩ := hc
  rw [hc, Option.bind_some, hG]
  refine TT_b2 (hr P h) (fun v2 P2 h2 => ?_)
  obtain ⟨r1, r3, r4⟩ := h2
  dsimp only at r1 r3 r4
  rw [r1, if_pos rfl]
  exact next g P2 ok (hC.xr r4) r3 (rmC.of r4.2.2)
theorem law_step {xs : Nat × (Nat → Int32)} {q : Nat} (hq : 8 * q + 8 ≤ xs.1) (hL : xs.1 ≤ 4096) (hK : 20 ≤ K) (hN : 70000 ≤ N) (h : CREL g P) (h1 : RREL g P) (ok : GOK g) (next : ∀ g' P', GOK g' → CREL g' P' → RREL g' P' → rmC P P' → TT (f_0_23 xs K N n (iN (8 * q) + 8) P') Q) : TT (f_0_23 xs K N (n + 1) (iN (8 * q)) P) Q := by
  have gi : ∀ i, i < 8 → ab_gi (iN (8 * q) + iN i) xs.1 := fun i hi => by
    rw [iN_add]
    exact iN_gi (by omega) (by omega)
  have g1 : ab_gi (iN (8 * q) + (1 : Int32)) xs.1 := gi 1 (by decide)
  have g2 : ab_gi (iN (8 * q) + (2 : Int32)) xs.1 := gi 2 (by decide)
  have g3 : ab_gi (iN (8 * q) + (3 : Int32)) xs.1 := gi 3 (by decide)
  have g4 : ab_gi (iN (8 * q) + (4 : Int32)) xs.1 := gi 4 (by decide)
  have g5 : ab_gi (iN (8 * q) + (5 : Int32)) xs.1 := gi 5 (by decide)
  have g6 : ab_gi (iN (8 * q) + (6 : Int32)) xs.1 := gi 6 (by decide)
  have g7 : ab_gi (iN (8 * q) + (7 : Int32)) xs.1 := gi 7 (by decide)
  have hx : ¬ (Int32.ofNat xs.1) - (8 : Int32) < iN (8 * q) := by
    rw [show (Int32.ofNat xs.1) - (8 : Int32) = iN (xs.1 - 8) from iN_sub (a := xs.1) (b := 8) (by omega), iN_lt (by omega) (by omega)]
    omega
  unfold f_0_23
  rw [if_neg hx]
  refine TT_gd (iN_gi (by omega) (by omega)) ?_
  refine TT_if (fun _ => TT_gd g1 (TT_gd g2 (TT_gd g3 (TT_gd g4 (TT_gd g5 (stepD (fun P2 => f_0_23 xs K N n (iN (8 * q) + 8) P2) h1 ok (k_feed h ok (xs.2 (iN (8 * q) + (1 : Int32)).toNatClampNeg) (xs.2 (iN (8 * q) + (2 : Int32)).toNatClampNeg) (xs.2 (iN (8 * q) + (3 : Int32)).toNatClampNeg) (xs.2 (iN (8 * q) + (4 : Int32)).toNatClampNeg) (xs.2 (iN (8 * q) + (5 : Int32)).toNatClampNeg) hN) next (fun w P1 => ((((if_pos g1).trans (if_pos g2)).trans (if_pos g3)).trans (if_pos g4)).trans (if_pos g5)))))))) (fun _ => ?_)
  refine TT_if (fun _ => TT_gd g1 (stepI (fun P2 => f_0_23 xs K N n (iN (8 * q) + 8) P2) h1 ok (k_town h ok (xs.2 (iN (8 * q) + (1 : Int32)).toNatClampNeg) hN) next (fun w P1 => if_pos g1))) (fun _ => ?_)
  refine TT_if (fun _ => TT_gd g1 (stepI (fun P2 => f_0_23 xs K N n (iN (8 * q) + 8) P2) h1 ok (k_law (K := K) (by omega) h ok (xs.2 (iN (8 * q) + (1 : Int32)).toNatClampNeg) hN) next (fun w P1 => if_pos g1))) (fun _ => ?_)
  refine TT_if (fun _ => TT_gd g1 (stepI (fun P2 => f_0_23 xs K N n (iN (8 * q) + 8) P2) h1 ok (k_deeds h ok (xs.2 (iN (8 * q) + (1 : Int32)).toNatClampNeg) hN) next (fun w P1 => if_pos g1))) (fun _ => ?_)
  refine TT_if (fun _ => TT_gd g1 (stepI (fun P2 => f_0_23 xs K N n (iN (8 * q) + 8) P2) h1 ok (k_book h ok (xs.2 (iN (8 * q) + (1 : Int32)).toNatClampNeg) hN) next (fun w P1 => if_pos g1))) (fun _ => ?_)
  refine TT_if (fun _ => stepP (fun P2 => f_0_23 xs K N n (iN (8 * q) + 8) P2) h h1 ok (k_fault h ok ) next (fun w => rfl)) (fun _ => ?_)
  refine TT_if (fun _ => stepD (fun P2 => f_0_23 xs K N n (iN (8 * q) + 8) P2) h1 ok (k_undo h ok  hN) next (fun w P1 => rfl)) (fun _ => ?_)
  refine TT_if (fun _ => TT_gd g1 (stepI (fun P2 => f_0_23 xs K N n (iN (8 * q) + 8) P2) h1 ok (k_told h ok (xs.2 (iN (8 * q) + (1 : Int32)).toNatClampNeg) hN) next (fun w P1 => if_pos g1))) (fun _ => ?_)
  refine TT_if (fun _ => TT_gd g1 (TT_gd g2 (stepI (fun P2 => f_0_23 xs K N n (iN (8 * q) + 8) P2) h1 ok (k_claim h ok (xs.2 (iN (8 * q) + (1 : Int32)).toNatClampNeg) (xs.2 (iN (8 * q) + (2 : Int32)).toNatClampNeg) hN) next (fun w P1 => (if_pos g1).trans (if_pos g2))))) (fun _ => ?_)
  refine TT_if (fun _ => TT_gd g1 (TT_gd g2 (stepI (fun P2 => f_0_23 xs K N n (iN (8 * q) + 8) P2) h1 ok (k_person h ok (xs.2 (iN (8 * q) + (1 : Int32)).toNatClampNeg) (xs.2 (iN (8 * q) + (2 : Int32)).toNatClampNeg) hN) next (fun w P1 => (if_pos g1).trans (if_pos g2))))) (fun _ => ?_)
  refine TT_if (fun _ => TT_gd g1 (TT_gd g2 (stepI (fun P2 => f_0_23 xs K N n (iN (8 * q) + 8) P2) h1 ok (k_worth h ok (xs.2 (iN (8 * q) + (1 : Int32)).toNatClampNeg) (xs.2 (iN (8 * q) + (2 : Int32)).toNatClampNeg) hN) next (fun w P1 => (if_pos g1).trans (if_pos g2))))) (fun _ => ?_)
  refine TT_if (fun _ => TT_gd g1 (stepI (fun P2 => f_0_23 xs K N n (iN (8 * q) + 8) P2) h1 ok (k_sums h ok (xs.2 (iN (8 * q) + (1 : Int32)).toNatClampNeg) hN) next (fun w P1 => if_pos g1))) (fun _ => ?_)
  refine TT_if (fun _ => TT_gd g1 (TT_gd g2 (stepI (fun P2 => f_0_23 xs K N n (iN (8 * q) + 8) P2) h1 ok (k_between h ok (xs.2 (iN (8 * q) + (1 : Int32)).toNatClampNeg) (xs.2 (iN (8 * q) + (2 : Int32)).toNatClampNeg) hN) next (fun w P1 => (if_pos g1).trans (if_pos g2))))) (fun _ => ?_)
  refine TT_if (fun _ => TT_gd g1 (stepI (fun P2 => f_0_23 xs K N n (iN (8 * q) + 8) P2) h1 ok (k_meant h ok (xs.2 (iN (8 * q) + (1 : Int32)).toNatClampNeg) hN) next (fun w P1 => if_pos g1))) (fun _ => ?_)
  refine TT_if (fun _ => TT_gd g1 (TT_gd g2 (TT_gd g3 (TT_gd g4 (TT_gd g5 (stepI (fun P2 => f_0_23 xs K N n (iN (8 * q) + 8) P2) h1 ok (k_would h ok (xs.2 (iN (8 * q) + (1 : Int32)).toNatClampNeg) (xs.2 (iN (8 * q) + (2 : Int32)).toNatClampNeg) (xs.2 (iN (8 * q) + (3 : Int32)).toNatClampNeg) (xs.2 (iN (8 * q) + (4 : Int32)).toNatClampNeg) (xs.2 (iN (8 * q) + (5 : Int32)).toNatClampNeg) hN) next (fun w P1 => ((((if_pos g1).trans (if_pos g2)).trans (if_pos g3)).trans (if_pos g4)).trans (if_pos g5)))))))) (fun _ => ?_)
  refine TT_if (fun _ => stepE (fun P2 => f_0_23 xs K N n (iN (8 * q) + 8) P2) h1 ok (k_open h ok  hN) next (fun w P1 => rfl)) (fun _ => ?_)
  refine TT_if (fun _ => TT_gd g1 (TT_gd g2 (TT_gd g3 (stepL (fun P2 => f_0_23 xs K N n (iN (8 * q) + 8) P2) h1 ok (k_pays h ok (xs.2 (iN (8 * q) + (1 : Int32)).toNatClampNeg) (xs.2 (iN (8 * q) + (2 : Int32)).toNatClampNeg) (xs.2 (iN (8 * q) + (3 : Int32)).toNatClampNeg) hN) next (fun w P1 => ((if_pos g1).trans (if_pos g2)).trans (if_pos g3)))))) (fun _ => ?_)
  refine TT_if (fun _ => TT_gd g1 (TT_gd g2 (stepI (fun P2 => f_0_23 xs K N n (iN (8 * q) + 8) P2) h1 ok (k_cover h ok (xs.2 (iN (8 * q) + (1 : Int32)).toNatClampNeg) (xs.2 (iN (8 * q) + (2 : Int32)).toNatClampNeg) hN) next (fun w P1 => (if_pos g1).trans (if_pos g2))))) (fun _ => ?_)
  refine TT_if (fun _ => TT_gd g1 (stepI (fun P2 => f_0_23 xs K N n (iN (8 * q) + 8) P2) h1 ok (k_ways h ok (xs.2 (iN (8 * q) + (1 : Int32)).toNatClampNeg) hN) next (fun w P1 => if_pos g1))) (fun _ => ?_)
  refine TT_if (fun _ => TT_gd g1 (stepI (fun P2 => f_0_23 xs K N n (iN (8 * q) + 8) P2) h1 ok (k_even h ok (xs.2 (iN (8 * q) + (1 : Int32)).toNatClampNeg) hN) next (fun w P1 => if_pos g1))) (fun _ => ?_)
  refine TT_if (fun _ => TT_gd g1 (stepD (fun P2 => f_0_23 xs K N n (iN (8 * q) + 8) P2) h1 ok (k_group h ok (xs.2 (iN (8 * q) + (1 : Int32)).toNatClampNeg) hN) next (fun w P1 => if_pos g1))) (fun _ => ?_)
  refine TT_if (fun _ => stepD (fun P2 => f_0_23 xs K N n (iN (8 * q) + 8) P2) h1 ok (k_oneDay h ok  hN) next (fun w P1 => rfl)) (fun _ => ?_)
  refine TT_if (fun _ => TT_gd g1 (stepI (fun P2 => f_0_23 xs K N n (iN (8 * q) + 8) P2) h1 ok (k_says h ok (xs.2 (iN (8 * q) + (1 : Int32)).toNatClampNeg) hN) next (fun w P1 => if_pos g1))) (fun _ => ?_)
  refine TT_if (fun _ => TT_gd g1 (stepL (fun P2 => f_0_23 xs K N n (iN (8 * q) + 8) P2) h1 ok (k_lies h ok (xs.2 (iN (8 * q) + (1 : Int32)).toNatClampNeg) hK hN) next (fun w P1 => if_pos g1))) (fun _ => ?_)
  refine TT_if (fun _ => stepP (fun P2 => f_0_23 xs K N n (iN (8 * q) + 8) P2) h h1 ok (k_right h ok  hN) next (fun w => rfl)) (fun _ => ?_)
  refine TT_if (fun _ => TT_gd g1 (TT_gd g2 (stepI (fun P2 => f_0_23 xs K N n (iN (8 * q) + 8) P2) h1 ok (k_errors h ok (xs.2 (iN (8 * q) + (1 : Int32)).toNatClampNeg) (xs.2 (iN (8 * q) + (2 : Int32)).toNatClampNeg) hN) next (fun w P1 => (if_pos g1).trans (if_pos g2))))) (fun _ => ?_)
  refine TT_if (fun _ => stepD (fun P2 => f_0_23 xs K N n (iN (8 * q) + 8) P2) h1 ok (k_best h ok  hN) next (fun w P1 => rfl)) (fun _ => ?_)
  refine TT_if (fun _ => TT_gd g1 (stepI (fun P2 => f_0_23 xs K N n (iN (8 * q) + 8) P2) h1 ok (k_bite h ok (xs.2 (iN (8 * q) + (1 : Int32)).toNatClampNeg)) next (fun w P1 => if_pos g1))) (fun _ => ?_)
  refine TT_if (fun _ => TT_gd g1 (stepI (fun P2 => f_0_23 xs K N n (iN (8 * q) + 8) P2) h1 ok (k_swell h ok (xs.2 (iN (8 * q) + (1 : Int32)).toNatClampNeg) hN) next (fun w P1 => if_pos g1))) (fun _ => ?_)
  refine TT_if (fun _ => TT_gd g1 (stepP (fun P2 => f_0_23 xs K N n (iN (8 * q) + 8) P2) h h1 ok (k_burst h ok (xs.2 (iN (8 * q) + (1 : Int32)).toNatClampNeg) hN) next (fun w => if_pos g1))) (fun _ => ?_)
  refine TT_if (fun _ => TT_gd g1 (TT_gd g2 (TT_gd g3 (TT_gd g4 (stepI (fun P2 => f_0_23 xs K N n (iN (8 * q) + 8) P2) h1 ok (k_till h ok (xs.2 (iN (8 * q) + (1 : Int32)).toNatClampNeg) (xs.2 (iN (8 * q) + (2 : Int32)).toNatClampNeg) (xs.2 (iN (8 * q) + (3 : Int32)).toNatClampNeg) (xs.2 (iN (8 * q) + (4 : Int32)).toNatClampNeg) hN) next (fun w P1 => (((if_pos g1).trans (if_pos g2)).trans (if_pos g3)).trans (if_pos g4))))))) (fun _ => ?_)
  refine TT_if (fun _ => TT_gd g1 (stepI (fun P2 => f_0_23 xs K N n (iN (8 * q) + 8) P2) h1 ok (k_extreme h ok (xs.2 (iN (8 * q) + (1 : Int32)).toNatClampNeg) hN) next (fun w P1 => if_pos g1))) (fun _ => ?_)
  refine TT_if (fun _ => TT_gd g1 (stepI (fun P2 => f_0_23 xs K N n (iN (8 * q) + 8) P2) h1 ok (k_chosen h ok (xs.2 (iN (8 * q) + (1 : Int32)).toNatClampNeg) hN) next (fun w P1 => if_pos g1))) (fun _ => ?_)
  refine TT_if (fun _ => TT_gd g1 (stepI (fun P2 => f_0_23 xs K N n (iN (8 * q) + 8) P2) h1 ok (k_heard h ok (xs.2 (iN (8 * q) + (1 : Int32)).toNatClampNeg) hN) next (fun w P1 => if_pos g1))) (fun _ => ?_)
  refine TT_if (fun _ => TT_gd g1 (TT_gd g2 (stepI (fun P2 => f_0_23 xs K N n (iN (8 * q) + 8) P2) h1 ok (k_payers h ok (xs.2 (iN (8 * q) + (1 : Int32)).toNatClampNeg) (xs.2 (iN (8 * q) + (2 : Int32)).toNatClampNeg) hN) next (fun w P1 => (if_pos g1).trans (if_pos g2))))) (fun _ => ?_)
  refine TT_if (fun _ => TT_gd g1 (TT_gd g2 (stepI (fun P2 => f_0_23 xs K N n (iN (8 * q) + 8) P2) h1 ok (k_lacking h ok (xs.2 (iN (8 * q) + (1 : Int32)).toNatClampNeg) (xs.2 (iN (8 * q) + (2 : Int32)).toNatClampNeg) hN) next (fun w P1 => (if_pos g1).trans (if_pos g2))))) (fun _ => ?_)
  refine TT_if (fun _ => TT_gd g1 (TT_gd g2 (stepI (fun P2 => f_0_23 xs K N n (iN (8 * q) + 8) P2) h1 ok (k_grown h ok (xs.2 (iN (8 * q) + (1 : Int32)).toNatClampNeg) (xs.2 (iN (8 * q) + (2 : Int32)).toNatClampNeg) hN) next (fun w P1 => (if_pos g1).trans (if_pos g2))))) (fun _ => ?_)
  refine TT_if (fun _ => stepP (fun P2 => f_0_23 xs K N n (iN (8 * q) + 8) P2) h h1 ok (k_square h ok  hN) next (fun w => rfl)) (fun _ => ?_)
  refine TT_if (fun _ => TT_gd g1 (stepL (fun P2 => f_0_23 xs K N n (iN (8 * q) + 8) P2) h1 ok (k_aged h ok (xs.2 (iN (8 * q) + (1 : Int32)).toNatClampNeg) hN) next (fun w P1 => if_pos g1))) (fun _ => ?_)
  refine TT_if (fun _ => TT_gd g1 (stepI (fun P2 => f_0_23 xs K N n (iN (8 * q) + 8) P2) h1 ok (k_master h ok (xs.2 (iN (8 * q) + (1 : Int32)).toNatClampNeg) hN) next (fun w P1 => if_pos g1))) (fun _ => ?_)
  refine TT_if (fun _ => TT_gd g1 (TT_gd g2 (TT_gd g3 (TT_gd g4 (TT_gd g5 (stepI (fun P2 => f_0_23 xs K N n (iN (8 * q) + 8) P2) h1 ok (k_month h ok (xs.2 (iN (8 * q) + (1 : Int32)).toNatClampNeg) (xs.2 (iN (8 * q) + (2 : Int32)).toNatClampNeg) (xs.2 (iN (8 * q) + (3 : Int32)).toNatClampNeg) (xs.2 (iN (8 * q) + (4 : Int32)).toNatClampNeg) (xs.2 (iN (8 * q) + (5 : Int32)).toNatClampNeg) hN) next (fun w P1 => ((((if_pos g1).trans (if_pos g2)).trans (if_pos g3)).trans (if_pos g4)).trans (if_pos g5)))))))) (fun _ => ?_)
  refine TT_if (fun _ => TT_gd g1 (TT_gd g2 (TT_gd g3 (TT_gd g4 (TT_gd g5 (TT_gd g6 (TT_gd g7 (stepI (fun P2 => f_0_23 xs K N n (iN (8 * q) + 8) P2) h1 ok (k_span h ok (xs.2 (iN (8 * q) + (1 : Int32)).toNatClampNeg) (xs.2 (iN (8 * q) + (2 : Int32)).toNatClampNeg) (xs.2 (iN (8 * q) + (3 : Int32)).toNatClampNeg) (xs.2 (iN (8 * q) + (4 : Int32)).toNatClampNeg) (xs.2 (iN (8 * q) + (5 : Int32)).toNatClampNeg) (xs.2 (iN (8 * q) + (6 : Int32)).toNatClampNeg) (xs.2 (iN (8 * q) + (7 : Int32)).toNatClampNeg) hN) next (fun w P1 => ((((((if_pos g1).trans (if_pos g2)).trans (if_pos g3)).trans (if_pos g4)).trans (if_pos g5)).trans (if_pos g6)).trans (if_pos g7)))))))))) (fun _ => ?_)
  refine TT_if (fun _ => stepD (fun P2 => f_0_23 xs K N n (iN (8 * q) + 8) P2) h1 ok (k_image h ok  hN) next (fun w P1 => rfl)) (fun _ => ?_)
  refine TT_if (fun _ => stepD (fun P2 => f_0_23 xs K N n (iN (8 * q) + 8) P2) h1 ok (k_restore h ok  hN) next (fun w P1 => rfl)) (fun _ => ?_)
  refine TT_if (fun _ => TT_gd g1 (stepP (fun P2 => f_0_23 xs K N n (iN (8 * q) + 8) P2) h h1 ok (k_status h ok (xs.2 (iN (8 * q) + (1 : Int32)).toNatClampNeg)) next (fun w => if_pos g1))) (fun _ => ?_)
  refine TT_if (fun _ => TT_gd g1 (stepP (fun P2 => f_0_23 xs K N n (iN (8 * q) + 8) P2) h h1 ok (k_count h ok (xs.2 (iN (8 * q) + (1 : Int32)).toNatClampNeg)) next (fun w => if_pos g1))) (fun _ => ?_)
  exact next g P ok h h1 (rmC.of rfl)
theorem lawLoop {xs : Nat × (Nat → Int32)} (hL : xs.1 ≤ 4096) (hK : 20 ≤ K) (hN : 70000 ≤ N) : ∀ (c q n : Nat) (g : GS) (P : ab_P), q + c = 512 → c < n → GOK g → CREL g P → RREL g P → TT (f_0_23 xs K N n (iN (8 * q)) P) (fun r => r.1 = 1 ∧ ccP r.2 ≤ ccP P + 64 * c ∧ ssP r.2 ≤ ssP P + 7760 * c) := by
  intro c
  induction c with
  | zero =>
    intro q n g P hq hn ok h h1
    obtain ⟨n, rfl⟩ : ∃ z, n = z + 1 := ⟨n - 1, by omega⟩
    unfold f_0_23
    rw [if_pos (by
      rw [Int32.lt_iff_toInt_lt, iN_toInt (by omega)]
      have : ((Int32.ofNat xs.1) - (8 : Int32)).toInt < 4096 := by
        by_cases h8 : 8 ≤ xs.1
        · rw [show (Int32.ofNat xs.1) - (8 : Int32) = iN (xs.1 - 8) from iN_sub (a := xs.1) (b := 8) h8, iN_toInt (by omega)]
          omega
        · rcases (show xs.1 = 0 ∨ xs.1 = 1 ∨ xs.1 = 2 ∨ xs.1 = 3 ∨ xs.1 = 4 ∨ xs.1 = 5 ∨ xs.1 = 6 ∨ xs.1 = 7 by omega) with e | e | e | e | e | e | e | e <;> rw [e] <;> decide
      omega)]
    exact TT_some ⟨rfl, Nat.le_add_right (ccP P) _, Nat.le_add_right (ssP P) _⟩
  | succ c ih =>
    intro q n g P hq hn ok h h1
    obtain ⟨n, rfl⟩ : ∃ z, n = z + 1 := ⟨n - 1, by omega⟩
    by_cases h8 : 8 * q + 8 ≤ xs.1
    · refine law_step h8 hL hK hN h h1 ok (fun g' P' ok' c' r' hr => ?_)
      rw [show iN (8 * q) + (8 : Int32) = iN (8 * (q + 1)) from iN_add (8 * q) 8]
      refine (ih (q + 1) n g' P' (by omega) (by omega) ok' c' r').mono (fun r hr2 => ⟨hr2.1, ?_, ?_⟩)
      · have := hr.1
        have := hr2.2.1
        omega
      · have := hr.2
        have := hr2.2.2
        omega
    · unfold f_0_23
      rw [if_pos (by
        rw [Int32.lt_iff_toInt_lt, iN_toInt (by omega)]
        have : ((Int32.ofNat xs.1) - (8 : Int32)).toInt < 8 * (q : Int) := by
          by_cases h9 : 8 ≤ xs.1
          · rw [show (Int32.ofNat xs.1) - (8 : Int32) = iN (xs.1 - 8) from iN_sub (a := xs.1) (b := 8) h9, iN_toInt (by omega)]
            omega
          · have : ((Int32.ofNat xs.1) - (8 : Int32)).toInt < 0 := by
              rcases (show xs.1 = 0 ∨ xs.1 = 1 ∨ xs.1 = 2 ∨ xs.1 = 3 ∨ xs.1 = 4 ∨ xs.1 = 5 ∨ xs.1 = 6 ∨ xs.1 = 7 by omega) with e | e | e | e | e | e | e | e <;> rw [e] <;> decide
            omega
        omega)]
      exact TT_some ⟨rfl, Nat.le_add_right (ccP P) _, Nat.le_add_right (ssP P) _⟩
end LP
